/-! the law: its words, what holds at its loop's head -/
/-! THE CLAIM OUT OF ONE WALK OF THE LAW'S BODY. Your part is whole_start (and what it stands on); all else here is the same for every law, but numbers. -/
def R_law : String := "SurdDeskLaw"
def lw_P (b : Addr) (xs : List Int32) (args : Array Value) (s : State) : Prop := args = #[.ref b] ∧ s.IntsAt b xs ∧ xs.length ≤ 3072 ∧ (Jvm.Cond.and given_1 narrow_1).before args s = true
def lw_Q (_ : Array Value) (s : State) (o : Outcome) (t : State) : Prop := o = .returned (some (.int 1)) ∧ Framed s o t [] 600000 7302249
def lw_Z (below : List Frame) (a : Array Value) (s : State) : State → Prop := fun t => ∃ o, t.status = .running ∧ Ended t below o ∧ lw_Q a s o t
/-- the law's own end, with 1 on the stack, nothing written that was there before, its room as the claim has it -/
theorem lw_ret {p : Program} {l : Launch} {e : Env} {s : State} {m : MethodId} {below : List Frame} {meth : Method} {c : Code} {b : Nat} (hx : p.tables.exec = Jvm.exec) (hb : c.code = code) (hr : meth.sig.returnType = ret) (hlocks : meth.locks = false) {pc : Nat} {H : Heap} {ls : Array Slot} (hdg : decode code pc = .ok (.ireturn, 1)) : W p l e room_1 s m #[Value.ref b] below meth c H [] 600000 7302249 (lw_Z below #[Value.ref b] s) (F0 m pc ls [.int 1]) := by
  intro T hT X
  obtain ⟨fs, hret, hrun, hended, hW, hframe⟩ := X.leave (v := some (.int 1)) (hlocks := hlocks) (fun h => by rw [hr] at h; cases h)
  have hmeth' : T.vm.method? m = some meth := X.method'
  refine ⟨T.setFrames fs, ?_, .returned (some (.int 1)), hrun, hended, rfl, ⟨_, rfl⟩, hW, hframe⟩
  jvm_step X.here [X.here.top, hx, hb, hdg, hmeth', hr, ret, narrow_b1]
  (try refine ⟨rfl, ?_⟩); (try refine ⟨rfl, ?_⟩)
  first | (intro acts; rw [hret _ acts rfl rfl rfl]) | rw [hret _ _ rfl rfl rfl]
  exact Steps.refl _
/-- what holds at the law's entry: the machine, the code, the tables' words (any of lw_tbl by 'hts w (by decide +kernel)'), the script of L ints xs at the cell b, what the Statement gives of the start (any of its parts by flat_of_before) -/
def lw_At (p : Program) (s : State) (m : MethodId) (meth : Method) (c : Code) (b L : Nat) (xs : Nat → Int32) : Prop :=
  p.tables.exec = Jvm.exec ∧ c.code = code ∧ meth.sig.returnType = ret ∧ c.maxLocals = 4 ∧ s.vm.findClass R_law = some m.cls ∧ (∀ w ∈ lw_tbl, w.before #[Value.ref b] s = true) ∧ va_X b L xs s s.heap ∧ b < s.heap.size ∧ meth.locks = false ∧ (Jvm.Cond.and given_1 narrow_1).before #[Value.ref b] s = true
theorem kl_law_15 : sd_LV R_law 15 y_Desk_load b_Desk_load 12 (some .int) 3 := ⟨(sd_in (List.mem_of_getElem? (i := 188) (by decide +kernel)) rfl), (sd_in (List.mem_of_getElem? (i := 189) (by decide +kernel)) rfl), (sd_in (List.mem_of_getElem? (i := 190) (by decide +kernel)) rfl), (sd_in (List.mem_of_getElem? (i := 35) (by decide +kernel)) rfl), (sd_in (List.mem_of_getElem? (i := 191) (by decide +kernel)) rfl), by decide +kernel, by decide +kernel, by decide +kernel⟩
theorem kl_law_19 : sd_LV R_law 19 y_Model_load b_Model_load 14 (some .int) 3 := ⟨(sd_in (List.mem_of_getElem? (i := 629) (by decide +kernel)) rfl), (sd_in (List.mem_of_getElem? (i := 630) (by decide +kernel)) rfl), (sd_in (List.mem_of_getElem? (i := 631) (by decide +kernel)) rfl), (sd_in (List.mem_of_getElem? (i := 40) (by decide +kernel)) rfl), (sd_in (List.mem_of_getElem? (i := 632) (by decide +kernel)) rfl), by decide +kernel, by decide +kernel, by decide +kernel⟩
theorem kl_law_20 : sd_LV R_law 20 y_Desk_root b_Desk_root 12 (some .int) 2 := ⟨(sd_in (List.mem_of_getElem? (i := 218) (by decide +kernel)) rfl), (sd_in (List.mem_of_getElem? (i := 219) (by decide +kernel)) rfl), (sd_in (List.mem_of_getElem? (i := 220) (by decide +kernel)) rfl), (sd_in (List.mem_of_getElem? (i := 35) (by decide +kernel)) rfl), (sd_in (List.mem_of_getElem? (i := 221) (by decide +kernel)) rfl), by decide +kernel, by decide +kernel, by decide +kernel⟩
theorem kl_law_24 : sd_LV R_law 24 y_Model_root b_Model_root 11 (some .int) 2 := ⟨(sd_in (List.mem_of_getElem? (i := 652) (by decide +kernel)) rfl), (sd_in (List.mem_of_getElem? (i := 653) (by decide +kernel)) rfl), (sd_in (List.mem_of_getElem? (i := 654) (by decide +kernel)) rfl), (sd_in (List.mem_of_getElem? (i := 40) (by decide +kernel)) rfl), (sd_in (List.mem_of_getElem? (i := 655) (by decide +kernel)) rfl), by decide +kernel, by decide +kernel, by decide +kernel⟩
theorem kl_law_25 : sd_LV R_law 25 y_Desk_reckon b_Desk_reckon 6 (some .int) 4 := ⟨(sd_in (List.mem_of_getElem? (i := 243) (by decide +kernel)) rfl), (sd_in (List.mem_of_getElem? (i := 244) (by decide +kernel)) rfl), (sd_in (List.mem_of_getElem? (i := 245) (by decide +kernel)) rfl), (sd_in (List.mem_of_getElem? (i := 35) (by decide +kernel)) rfl), (sd_in (List.mem_of_getElem? (i := 246) (by decide +kernel)) rfl), by decide +kernel, by decide +kernel, by decide +kernel⟩
theorem kl_law_29 : sd_LV R_law 29 y_Model_reckon b_Model_reckon 8 (some .int) 4 := ⟨(sd_in (List.mem_of_getElem? (i := 662) (by decide +kernel)) rfl), (sd_in (List.mem_of_getElem? (i := 663) (by decide +kernel)) rfl), (sd_in (List.mem_of_getElem? (i := 664) (by decide +kernel)) rfl), (sd_in (List.mem_of_getElem? (i := 40) (by decide +kernel)) rfl), (sd_in (List.mem_of_getElem? (i := 665) (by decide +kernel)) rfl), by decide +kernel, by decide +kernel, by decide +kernel⟩
theorem kl_law_30 : sd_LV R_law 30 y_Desk_divide b_Desk_divide 5 (some .int) 3 := ⟨(sd_in (List.mem_of_getElem? (i := 287) (by decide +kernel)) rfl), (sd_in (List.mem_of_getElem? (i := 288) (by decide +kernel)) rfl), (sd_in (List.mem_of_getElem? (i := 289) (by decide +kernel)) rfl), (sd_in (List.mem_of_getElem? (i := 35) (by decide +kernel)) rfl), (sd_in (List.mem_of_getElem? (i := 290) (by decide +kernel)) rfl), by decide +kernel, by decide +kernel, by decide +kernel⟩
theorem kl_law_34 : sd_LV R_law 34 y_Model_divide b_Model_divide 14 (some .int) 3 := ⟨(sd_in (List.mem_of_getElem? (i := 670) (by decide +kernel)) rfl), (sd_in (List.mem_of_getElem? (i := 671) (by decide +kernel)) rfl), (sd_in (List.mem_of_getElem? (i := 672) (by decide +kernel)) rfl), (sd_in (List.mem_of_getElem? (i := 40) (by decide +kernel)) rfl), (sd_in (List.mem_of_getElem? (i := 673) (by decide +kernel)) rfl), by decide +kernel, by decide +kernel, by decide +kernel⟩
theorem kl_law_35 : sd_LV R_law 35 y_Desk_compare b_Desk_compare 3 (some .int) 2 := ⟨(sd_in (List.mem_of_getElem? (i := 296) (by decide +kernel)) rfl), (sd_in (List.mem_of_getElem? (i := 297) (by decide +kernel)) rfl), (sd_in (List.mem_of_getElem? (i := 298) (by decide +kernel)) rfl), (sd_in (List.mem_of_getElem? (i := 35) (by decide +kernel)) rfl), (sd_in (List.mem_of_getElem? (i := 299) (by decide +kernel)) rfl), by decide +kernel, by decide +kernel, by decide +kernel⟩
theorem kl_law_38 : sd_LV R_law 38 y_Model_compare b_Model_compare 5 (some .int) 2 := ⟨(sd_in (List.mem_of_getElem? (i := 675) (by decide +kernel)) rfl), (sd_in (List.mem_of_getElem? (i := 676) (by decide +kernel)) rfl), (sd_in (List.mem_of_getElem? (i := 677) (by decide +kernel)) rfl), (sd_in (List.mem_of_getElem? (i := 40) (by decide +kernel)) rfl), (sd_in (List.mem_of_getElem? (i := 678) (by decide +kernel)) rfl), by decide +kernel, by decide +kernel, by decide +kernel⟩
theorem kl_law_39 : sd_LV R_law 39 y_Desk_floor b_Desk_floor 3 (some .long) 1 := ⟨(sd_in (List.mem_of_getElem? (i := 362) (by decide +kernel)) rfl), (sd_in (List.mem_of_getElem? (i := 363) (by decide +kernel)) rfl), (sd_in (List.mem_of_getElem? (i := 364) (by decide +kernel)) rfl), (sd_in (List.mem_of_getElem? (i := 35) (by decide +kernel)) rfl), (sd_in (List.mem_of_getElem? (i := 365) (by decide +kernel)) rfl), by decide +kernel, by decide +kernel, by decide +kernel⟩
theorem kl_law_43 : sd_LV R_law 43 y_Model_floor b_Model_floor 4 (some .long) 1 := ⟨(sd_in (List.mem_of_getElem? (i := 755) (by decide +kernel)) rfl), (sd_in (List.mem_of_getElem? (i := 756) (by decide +kernel)) rfl), (sd_in (List.mem_of_getElem? (i := 757) (by decide +kernel)) rfl), (sd_in (List.mem_of_getElem? (i := 40) (by decide +kernel)) rfl), (sd_in (List.mem_of_getElem? (i := 758) (by decide +kernel)) rfl), by decide +kernel, by decide +kernel, by decide +kernel⟩
theorem kl_law_44 : sd_LV R_law 44 y_Desk_write b_Desk_write 5 (some .int) 2 := ⟨(sd_in (List.mem_of_getElem? (i := 378) (by decide +kernel)) rfl), (sd_in (List.mem_of_getElem? (i := 379) (by decide +kernel)) rfl), (sd_in (List.mem_of_getElem? (i := 380) (by decide +kernel)) rfl), (sd_in (List.mem_of_getElem? (i := 35) (by decide +kernel)) rfl), (sd_in (List.mem_of_getElem? (i := 381) (by decide +kernel)) rfl), by decide +kernel, by decide +kernel, by decide +kernel⟩
theorem kl_law_47 : sd_LV R_law 47 y_Model_write b_Model_write 4 (some .int) 2 := ⟨(sd_in (List.mem_of_getElem? (i := 787) (by decide +kernel)) rfl), (sd_in (List.mem_of_getElem? (i := 788) (by decide +kernel)) rfl), (sd_in (List.mem_of_getElem? (i := 789) (by decide +kernel)) rfl), (sd_in (List.mem_of_getElem? (i := 40) (by decide +kernel)) rfl), (sd_in (List.mem_of_getElem? (i := 790) (by decide +kernel)) rfl), by decide +kernel, by decide +kernel, by decide +kernel⟩
theorem kl_law_48 : sd_LV R_law 48 y_Desk_octet b_Desk_octet 2 (some .int) 1 := ⟨(sd_in (List.mem_of_getElem? (i := 419) (by decide +kernel)) rfl), (sd_in (List.mem_of_getElem? (i := 420) (by decide +kernel)) rfl), (sd_in (List.mem_of_getElem? (i := 421) (by decide +kernel)) rfl), (sd_in (List.mem_of_getElem? (i := 35) (by decide +kernel)) rfl), (sd_in (List.mem_of_getElem? (i := 422) (by decide +kernel)) rfl), by decide +kernel, by decide +kernel, by decide +kernel⟩
theorem kl_law_52 : sd_LV R_law 52 y_Model_octet b_Model_octet 2 (some .int) 1 := ⟨(sd_in (List.mem_of_getElem? (i := 809) (by decide +kernel)) rfl), (sd_in (List.mem_of_getElem? (i := 810) (by decide +kernel)) rfl), (sd_in (List.mem_of_getElem? (i := 811) (by decide +kernel)) rfl), (sd_in (List.mem_of_getElem? (i := 40) (by decide +kernel)) rfl), (sd_in (List.mem_of_getElem? (i := 812) (by decide +kernel)) rfl), by decide +kernel, by decide +kernel, by decide +kernel⟩
theorem kl_law_53 : sd_LV R_law 53 y_Desk_partial b_Desk_partial 4 (some .long) 2 := ⟨(sd_in (List.mem_of_getElem? (i := 431) (by decide +kernel)) rfl), (sd_in (List.mem_of_getElem? (i := 432) (by decide +kernel)) rfl), (sd_in (List.mem_of_getElem? (i := 433) (by decide +kernel)) rfl), (sd_in (List.mem_of_getElem? (i := 35) (by decide +kernel)) rfl), (sd_in (List.mem_of_getElem? (i := 434) (by decide +kernel)) rfl), by decide +kernel, by decide +kernel, by decide +kernel⟩
theorem kl_law_57 : sd_LV R_law 57 y_Model_partial b_Model_partial 6 (some .long) 2 := ⟨(sd_in (List.mem_of_getElem? (i := 813) (by decide +kernel)) rfl), (sd_in (List.mem_of_getElem? (i := 814) (by decide +kernel)) rfl), (sd_in (List.mem_of_getElem? (i := 815) (by decide +kernel)) rfl), (sd_in (List.mem_of_getElem? (i := 40) (by decide +kernel)) rfl), (sd_in (List.mem_of_getElem? (i := 816) (by decide +kernel)) rfl), by decide +kernel, by decide +kernel, by decide +kernel⟩
theorem kl_law_58 : sd_LV R_law 58 y_Desk_nearest b_Desk_nearest 4 (some .long) 1 := ⟨(sd_in (List.mem_of_getElem? (i := 472) (by decide +kernel)) rfl), (sd_in (List.mem_of_getElem? (i := 473) (by decide +kernel)) rfl), (sd_in (List.mem_of_getElem? (i := 474) (by decide +kernel)) rfl), (sd_in (List.mem_of_getElem? (i := 35) (by decide +kernel)) rfl), (sd_in (List.mem_of_getElem? (i := 475) (by decide +kernel)) rfl), by decide +kernel, by decide +kernel, by decide +kernel⟩
theorem kl_law_61 : sd_LV R_law 61 y_Model_nearest b_Model_nearest 3 (some .long) 1 := ⟨(sd_in (List.mem_of_getElem? (i := 832) (by decide +kernel)) rfl), (sd_in (List.mem_of_getElem? (i := 833) (by decide +kernel)) rfl), (sd_in (List.mem_of_getElem? (i := 834) (by decide +kernel)) rfl), (sd_in (List.mem_of_getElem? (i := 40) (by decide +kernel)) rfl), (sd_in (List.mem_of_getElem? (i := 835) (by decide +kernel)) rfl), by decide +kernel, by decide +kernel, by decide +kernel⟩
theorem kl_law_62 : sd_LV R_law 62 y_Desk_between b_Desk_between 7 (some .long) 2 := ⟨(sd_in (List.mem_of_getElem? (i := 503) (by decide +kernel)) rfl), (sd_in (List.mem_of_getElem? (i := 504) (by decide +kernel)) rfl), (sd_in (List.mem_of_getElem? (i := 505) (by decide +kernel)) rfl), (sd_in (List.mem_of_getElem? (i := 35) (by decide +kernel)) rfl), (sd_in (List.mem_of_getElem? (i := 506) (by decide +kernel)) rfl), by decide +kernel, by decide +kernel, by decide +kernel⟩
theorem kl_law_65 : sd_LV R_law 65 y_Model_between b_Model_between 3 (some .long) 2 := ⟨(sd_in (List.mem_of_getElem? (i := 777) (by decide +kernel)) rfl), (sd_in (List.mem_of_getElem? (i := 778) (by decide +kernel)) rfl), (sd_in (List.mem_of_getElem? (i := 779) (by decide +kernel)) rfl), (sd_in (List.mem_of_getElem? (i := 40) (by decide +kernel)) rfl), (sd_in (List.mem_of_getElem? (i := 780) (by decide +kernel)) rfl), by decide +kernel, by decide +kernel, by decide +kernel⟩
theorem kl_law_66 : sd_LV R_law 66 y_Desk_term b_Desk_term 4 (some .int) 3 := ⟨(sd_in (List.mem_of_getElem? (i := 517) (by decide +kernel)) rfl), (sd_in (List.mem_of_getElem? (i := 518) (by decide +kernel)) rfl), (sd_in (List.mem_of_getElem? (i := 519) (by decide +kernel)) rfl), (sd_in (List.mem_of_getElem? (i := 35) (by decide +kernel)) rfl), (sd_in (List.mem_of_getElem? (i := 520) (by decide +kernel)) rfl), by decide +kernel, by decide +kernel, by decide +kernel⟩
theorem kl_law_69 : sd_LV R_law 69 y_Model_term b_Model_term 5 (some .int) 3 := ⟨(sd_in (List.mem_of_getElem? (i := 845) (by decide +kernel)) rfl), (sd_in (List.mem_of_getElem? (i := 846) (by decide +kernel)) rfl), (sd_in (List.mem_of_getElem? (i := 847) (by decide +kernel)) rfl), (sd_in (List.mem_of_getElem? (i := 40) (by decide +kernel)) rfl), (sd_in (List.mem_of_getElem? (i := 848) (by decide +kernel)) rfl), by decide +kernel, by decide +kernel, by decide +kernel⟩
theorem kl_law_70 : sd_LV R_law 70 y_Desk_terms b_Desk_terms 2 (some .int) 1 := ⟨(sd_in (List.mem_of_getElem? (i := 521) (by decide +kernel)) rfl), (sd_in (List.mem_of_getElem? (i := 522) (by decide +kernel)) rfl), (sd_in (List.mem_of_getElem? (i := 523) (by decide +kernel)) rfl), (sd_in (List.mem_of_getElem? (i := 35) (by decide +kernel)) rfl), (sd_in (List.mem_of_getElem? (i := 524) (by decide +kernel)) rfl), by decide +kernel, by decide +kernel, by decide +kernel⟩
theorem kl_law_73 : sd_LV R_law 73 y_Model_terms b_Model_terms 2 (some .int) 1 := ⟨(sd_in (List.mem_of_getElem? (i := 849) (by decide +kernel)) rfl), (sd_in (List.mem_of_getElem? (i := 850) (by decide +kernel)) rfl), (sd_in (List.mem_of_getElem? (i := 851) (by decide +kernel)) rfl), (sd_in (List.mem_of_getElem? (i := 40) (by decide +kernel)) rfl), (sd_in (List.mem_of_getElem? (i := 852) (by decide +kernel)) rfl), by decide +kernel, by decide +kernel, by decide +kernel⟩
theorem kl_law_74 : sd_LV R_law 74 y_Desk_same b_Desk_same 3 (some .boolean) 2 := ⟨(sd_in (List.mem_of_getElem? (i := 525) (by decide +kernel)) rfl), (sd_in (List.mem_of_getElem? (i := 526) (by decide +kernel)) rfl), (sd_in (List.mem_of_getElem? (i := 527) (by decide +kernel)) rfl), (sd_in (List.mem_of_getElem? (i := 35) (by decide +kernel)) rfl), (sd_in (List.mem_of_getElem? (i := 528) (by decide +kernel)) rfl), by decide +kernel, by decide +kernel, by decide +kernel⟩
theorem kl_law_78 : sd_LV R_law 78 y_Model_same b_Model_same 4 (some .boolean) 2 := ⟨(sd_in (List.mem_of_getElem? (i := 853) (by decide +kernel)) rfl), (sd_in (List.mem_of_getElem? (i := 680) (by decide +kernel)) rfl), (sd_in (List.mem_of_getElem? (i := 681) (by decide +kernel)) rfl), (sd_in (List.mem_of_getElem? (i := 40) (by decide +kernel)) rfl), (sd_in (List.mem_of_getElem? (i := 682) (by decide +kernel)) rfl), by decide +kernel, by decide +kernel, by decide +kernel⟩
theorem km_law_13 : Cond.constantLong R_law 13 (4294967295 : Int64) ∈ sd_tb := (sd_in (List.mem_of_getElem? (i := 854) (by decide +kernel)) rfl)
theorem d_law_0 : decode code 0 = .ok (.new 7, 3) := by decide +kernel
theorem d_law_3 : decode code 3 = .ok (.dup, 1) := by decide +kernel
theorem d_law_4 : decode code 4 = .ok (.invokespecial 9, 3) := by decide +kernel
theorem d_law_7 : decode code 7 = .ok (.astore_n 1, 1) := by decide +kernel
theorem d_law_8 : decode code 8 = .ok (.new 10, 3) := by decide +kernel
theorem d_law_11 : decode code 11 = .ok (.dup, 1) := by decide +kernel
theorem d_law_12 : decode code 12 = .ok (.invokespecial 12, 3) := by decide +kernel
theorem d_law_15 : decode code 15 = .ok (.astore_n 2, 1) := by decide +kernel
theorem d_law_16 : decode code 16 = .ok (.iconst 0, 1) := by decide +kernel
theorem d_law_17 : decode code 17 = .ok (.istore_n 3, 1) := by decide +kernel
theorem d_law_18 : decode code 18 = .ok (.iload_n 3, 1) := by decide +kernel
theorem d_law_19 : decode code 19 = .ok (.aload_n 0, 1) := by decide +kernel
theorem d_law_20 : decode code 20 = .ok (.arraylength, 1) := by decide +kernel
theorem d_law_21 : decode code 21 = .ok (.bipush 6, 2) := by decide +kernel
theorem d_law_23 : decode code 23 = .ok (.isub, 1) := by decide +kernel
theorem d_law_24 : decode code 24 = .ok (.if_icmp .gt 622, 3) := by decide +kernel
theorem d_law_27 : decode code 27 = .ok (.aload_n 0, 1) := by decide +kernel
theorem d_law_28 : decode code 28 = .ok (.iload_n 3, 1) := by decide +kernel
theorem d_law_29 : decode code 29 = .ok (.iaload, 1) := by decide +kernel
theorem d_law_30 : decode code 30 = .ok (.bipush 15, 2) := by decide +kernel
theorem d_law_32 : decode code 32 = .ok (.iand, 1) := by decide +kernel
theorem d_law_33 : decode code 33 = .ok (.tableswitch 607 0 13 #[71, 174, 207, 260, 303, 336, 360, 393, 416, 450, 474, 508, 551, 574], 71) := by decide +kernel
theorem d_law_104 : decode code 104 = .ok (.aload_n 1, 1) := by decide +kernel
theorem d_law_105 : decode code 105 = .ok (.aload_n 0, 1) := by decide +kernel
theorem d_law_106 : decode code 106 = .ok (.iload_n 3, 1) := by decide +kernel
theorem d_law_107 : decode code 107 = .ok (.iconst 1, 1) := by decide +kernel
theorem d_law_108 : decode code 108 = .ok (.iadd, 1) := by decide +kernel
theorem d_law_109 : decode code 109 = .ok (.iaload, 1) := by decide +kernel
theorem d_law_110 : decode code 110 = .ok (.aload_n 0, 1) := by decide +kernel
theorem d_law_111 : decode code 111 = .ok (.iload_n 3, 1) := by decide +kernel
theorem d_law_112 : decode code 112 = .ok (.iconst 2, 1) := by decide +kernel
theorem d_law_113 : decode code 113 = .ok (.iadd, 1) := by decide +kernel
theorem d_law_114 : decode code 114 = .ok (.iaload, 1) := by decide +kernel
theorem d_law_115 : decode code 115 = .ok (.i2l, 1) := by decide +kernel
theorem d_law_116 : decode code 116 = .ok (.bipush 32, 2) := by decide +kernel
theorem d_law_118 : decode code 118 = .ok (.lshl, 1) := by decide +kernel
theorem d_law_119 : decode code 119 = .ok (.aload_n 0, 1) := by decide +kernel
theorem d_law_120 : decode code 120 = .ok (.iload_n 3, 1) := by decide +kernel
theorem d_law_121 : decode code 121 = .ok (.iconst 3, 1) := by decide +kernel
theorem d_law_122 : decode code 122 = .ok (.iadd, 1) := by decide +kernel
theorem d_law_123 : decode code 123 = .ok (.iaload, 1) := by decide +kernel
theorem d_law_124 : decode code 124 = .ok (.i2l, 1) := by decide +kernel
theorem d_law_125 : decode code 125 = .ok (.ldc2_w 13, 3) := by decide +kernel
theorem d_law_128 : decode code 128 = .ok (.land, 1) := by decide +kernel
theorem d_law_129 : decode code 129 = .ok (.lor, 1) := by decide +kernel
theorem d_law_130 : decode code 130 = .ok (.aload_n 0, 1) := by decide +kernel
theorem d_law_131 : decode code 131 = .ok (.iload_n 3, 1) := by decide +kernel
theorem d_law_132 : decode code 132 = .ok (.iconst 4, 1) := by decide +kernel
theorem d_law_133 : decode code 133 = .ok (.iadd, 1) := by decide +kernel
theorem d_law_134 : decode code 134 = .ok (.iaload, 1) := by decide +kernel
theorem d_law_135 : decode code 135 = .ok (.i2l, 1) := by decide +kernel
theorem d_law_136 : decode code 136 = .ok (.bipush 32, 2) := by decide +kernel
theorem d_law_138 : decode code 138 = .ok (.lshl, 1) := by decide +kernel
theorem d_law_139 : decode code 139 = .ok (.aload_n 0, 1) := by decide +kernel
theorem d_law_140 : decode code 140 = .ok (.iload_n 3, 1) := by decide +kernel
theorem d_law_141 : decode code 141 = .ok (.iconst 5, 1) := by decide +kernel
theorem d_law_142 : decode code 142 = .ok (.iadd, 1) := by decide +kernel
theorem d_law_143 : decode code 143 = .ok (.iaload, 1) := by decide +kernel
theorem d_law_144 : decode code 144 = .ok (.i2l, 1) := by decide +kernel
theorem d_law_145 : decode code 145 = .ok (.ldc2_w 13, 3) := by decide +kernel
theorem d_law_148 : decode code 148 = .ok (.land, 1) := by decide +kernel
theorem d_law_149 : decode code 149 = .ok (.lor, 1) := by decide +kernel
theorem d_law_150 : decode code 150 = .ok (.invokevirtual 15, 3) := by decide +kernel
theorem d_law_153 : decode code 153 = .ok (.aload_n 2, 1) := by decide +kernel
theorem d_law_154 : decode code 154 = .ok (.aload_n 0, 1) := by decide +kernel
theorem d_law_155 : decode code 155 = .ok (.iload_n 3, 1) := by decide +kernel
theorem d_law_156 : decode code 156 = .ok (.iconst 1, 1) := by decide +kernel
theorem d_law_157 : decode code 157 = .ok (.iadd, 1) := by decide +kernel
theorem d_law_158 : decode code 158 = .ok (.iaload, 1) := by decide +kernel
theorem d_law_159 : decode code 159 = .ok (.aload_n 0, 1) := by decide +kernel
theorem d_law_160 : decode code 160 = .ok (.iload_n 3, 1) := by decide +kernel
theorem d_law_161 : decode code 161 = .ok (.iconst 2, 1) := by decide +kernel
theorem d_law_162 : decode code 162 = .ok (.iadd, 1) := by decide +kernel
theorem d_law_163 : decode code 163 = .ok (.iaload, 1) := by decide +kernel
theorem d_law_164 : decode code 164 = .ok (.i2l, 1) := by decide +kernel
theorem d_law_165 : decode code 165 = .ok (.bipush 32, 2) := by decide +kernel
theorem d_law_167 : decode code 167 = .ok (.lshl, 1) := by decide +kernel
theorem d_law_168 : decode code 168 = .ok (.aload_n 0, 1) := by decide +kernel
theorem d_law_169 : decode code 169 = .ok (.iload_n 3, 1) := by decide +kernel
theorem d_law_170 : decode code 170 = .ok (.iconst 3, 1) := by decide +kernel
theorem d_law_171 : decode code 171 = .ok (.iadd, 1) := by decide +kernel
theorem d_law_172 : decode code 172 = .ok (.iaload, 1) := by decide +kernel
theorem d_law_173 : decode code 173 = .ok (.i2l, 1) := by decide +kernel
theorem d_law_174 : decode code 174 = .ok (.ldc2_w 13, 3) := by decide +kernel
theorem d_law_177 : decode code 177 = .ok (.land, 1) := by decide +kernel
theorem d_law_178 : decode code 178 = .ok (.lor, 1) := by decide +kernel
theorem d_law_179 : decode code 179 = .ok (.aload_n 0, 1) := by decide +kernel
theorem d_law_180 : decode code 180 = .ok (.iload_n 3, 1) := by decide +kernel
theorem d_law_181 : decode code 181 = .ok (.iconst 4, 1) := by decide +kernel
theorem d_law_182 : decode code 182 = .ok (.iadd, 1) := by decide +kernel
theorem d_law_183 : decode code 183 = .ok (.iaload, 1) := by decide +kernel
theorem d_law_184 : decode code 184 = .ok (.i2l, 1) := by decide +kernel
theorem d_law_185 : decode code 185 = .ok (.bipush 32, 2) := by decide +kernel
theorem d_law_187 : decode code 187 = .ok (.lshl, 1) := by decide +kernel
theorem d_law_188 : decode code 188 = .ok (.aload_n 0, 1) := by decide +kernel
theorem d_law_189 : decode code 189 = .ok (.iload_n 3, 1) := by decide +kernel
theorem d_law_190 : decode code 190 = .ok (.iconst 5, 1) := by decide +kernel
theorem d_law_191 : decode code 191 = .ok (.iadd, 1) := by decide +kernel
theorem d_law_192 : decode code 192 = .ok (.iaload, 1) := by decide +kernel
theorem d_law_193 : decode code 193 = .ok (.i2l, 1) := by decide +kernel
theorem d_law_194 : decode code 194 = .ok (.ldc2_w 13, 3) := by decide +kernel
theorem d_law_197 : decode code 197 = .ok (.land, 1) := by decide +kernel
theorem d_law_198 : decode code 198 = .ok (.lor, 1) := by decide +kernel
theorem d_law_199 : decode code 199 = .ok (.invokevirtual 19, 3) := by decide +kernel
theorem d_law_202 : decode code 202 = .ok (.if_icmp .eq 438, 3) := by decide +kernel
theorem d_law_205 : decode code 205 = .ok (.iconst 0, 1) := by decide +kernel
theorem d_law_206 : decode code 206 = .ok (.ireturn, 1) := by decide +kernel
theorem d_law_207 : decode code 207 = .ok (.aload_n 1, 1) := by decide +kernel
theorem d_law_208 : decode code 208 = .ok (.aload_n 0, 1) := by decide +kernel
theorem d_law_209 : decode code 209 = .ok (.iload_n 3, 1) := by decide +kernel
theorem d_law_210 : decode code 210 = .ok (.iconst 1, 1) := by decide +kernel
theorem d_law_211 : decode code 211 = .ok (.iadd, 1) := by decide +kernel
theorem d_law_212 : decode code 212 = .ok (.iaload, 1) := by decide +kernel
theorem d_law_213 : decode code 213 = .ok (.aload_n 0, 1) := by decide +kernel
theorem d_law_214 : decode code 214 = .ok (.iload_n 3, 1) := by decide +kernel
theorem d_law_215 : decode code 215 = .ok (.iconst 2, 1) := by decide +kernel
theorem d_law_216 : decode code 216 = .ok (.iadd, 1) := by decide +kernel
theorem d_law_217 : decode code 217 = .ok (.iaload, 1) := by decide +kernel
theorem d_law_218 : decode code 218 = .ok (.invokevirtual 20, 3) := by decide +kernel
theorem d_law_221 : decode code 221 = .ok (.aload_n 2, 1) := by decide +kernel
theorem d_law_222 : decode code 222 = .ok (.aload_n 0, 1) := by decide +kernel
theorem d_law_223 : decode code 223 = .ok (.iload_n 3, 1) := by decide +kernel
theorem d_law_224 : decode code 224 = .ok (.iconst 1, 1) := by decide +kernel
theorem d_law_225 : decode code 225 = .ok (.iadd, 1) := by decide +kernel
theorem d_law_226 : decode code 226 = .ok (.iaload, 1) := by decide +kernel
theorem d_law_227 : decode code 227 = .ok (.aload_n 0, 1) := by decide +kernel
theorem d_law_228 : decode code 228 = .ok (.iload_n 3, 1) := by decide +kernel
theorem d_law_229 : decode code 229 = .ok (.iconst 2, 1) := by decide +kernel
theorem d_law_230 : decode code 230 = .ok (.iadd, 1) := by decide +kernel
theorem d_law_231 : decode code 231 = .ok (.iaload, 1) := by decide +kernel
theorem d_law_232 : decode code 232 = .ok (.invokevirtual 24, 3) := by decide +kernel
theorem d_law_235 : decode code 235 = .ok (.if_icmp .eq 405, 3) := by decide +kernel
theorem d_law_238 : decode code 238 = .ok (.iconst 0, 1) := by decide +kernel
theorem d_law_239 : decode code 239 = .ok (.ireturn, 1) := by decide +kernel
theorem d_law_240 : decode code 240 = .ok (.aload_n 1, 1) := by decide +kernel
theorem d_law_241 : decode code 241 = .ok (.aload_n 0, 1) := by decide +kernel
theorem d_law_242 : decode code 242 = .ok (.iload_n 3, 1) := by decide +kernel
theorem d_law_243 : decode code 243 = .ok (.iconst 1, 1) := by decide +kernel
theorem d_law_244 : decode code 244 = .ok (.iadd, 1) := by decide +kernel
theorem d_law_245 : decode code 245 = .ok (.iaload, 1) := by decide +kernel
theorem d_law_246 : decode code 246 = .ok (.aload_n 0, 1) := by decide +kernel
theorem d_law_247 : decode code 247 = .ok (.iload_n 3, 1) := by decide +kernel
theorem d_law_248 : decode code 248 = .ok (.iconst 2, 1) := by decide +kernel
theorem d_law_249 : decode code 249 = .ok (.iadd, 1) := by decide +kernel
theorem d_law_250 : decode code 250 = .ok (.iaload, 1) := by decide +kernel
theorem d_law_251 : decode code 251 = .ok (.aload_n 0, 1) := by decide +kernel
theorem d_law_252 : decode code 252 = .ok (.iload_n 3, 1) := by decide +kernel
theorem d_law_253 : decode code 253 = .ok (.iconst 3, 1) := by decide +kernel
theorem d_law_254 : decode code 254 = .ok (.iadd, 1) := by decide +kernel
theorem d_law_255 : decode code 255 = .ok (.iaload, 1) := by decide +kernel
theorem d_law_256 : decode code 256 = .ok (.aload_n 0, 1) := by decide +kernel
theorem d_law_257 : decode code 257 = .ok (.iload_n 3, 1) := by decide +kernel
theorem d_law_258 : decode code 258 = .ok (.iconst 4, 1) := by decide +kernel
theorem d_law_259 : decode code 259 = .ok (.iadd, 1) := by decide +kernel
theorem d_law_260 : decode code 260 = .ok (.iaload, 1) := by decide +kernel
theorem d_law_261 : decode code 261 = .ok (.invokevirtual 25, 3) := by decide +kernel
theorem d_law_264 : decode code 264 = .ok (.aload_n 2, 1) := by decide +kernel
theorem d_law_265 : decode code 265 = .ok (.aload_n 0, 1) := by decide +kernel
theorem d_law_266 : decode code 266 = .ok (.iload_n 3, 1) := by decide +kernel
theorem d_law_267 : decode code 267 = .ok (.iconst 1, 1) := by decide +kernel
theorem d_law_268 : decode code 268 = .ok (.iadd, 1) := by decide +kernel
theorem d_law_269 : decode code 269 = .ok (.iaload, 1) := by decide +kernel
theorem d_law_270 : decode code 270 = .ok (.aload_n 0, 1) := by decide +kernel
theorem d_law_271 : decode code 271 = .ok (.iload_n 3, 1) := by decide +kernel
theorem d_law_272 : decode code 272 = .ok (.iconst 2, 1) := by decide +kernel
theorem d_law_273 : decode code 273 = .ok (.iadd, 1) := by decide +kernel
theorem d_law_274 : decode code 274 = .ok (.iaload, 1) := by decide +kernel
theorem d_law_275 : decode code 275 = .ok (.aload_n 0, 1) := by decide +kernel
theorem d_law_276 : decode code 276 = .ok (.iload_n 3, 1) := by decide +kernel
theorem d_law_277 : decode code 277 = .ok (.iconst 3, 1) := by decide +kernel
theorem d_law_278 : decode code 278 = .ok (.iadd, 1) := by decide +kernel
theorem d_law_279 : decode code 279 = .ok (.iaload, 1) := by decide +kernel
theorem d_law_280 : decode code 280 = .ok (.aload_n 0, 1) := by decide +kernel
theorem d_law_281 : decode code 281 = .ok (.iload_n 3, 1) := by decide +kernel
theorem d_law_282 : decode code 282 = .ok (.iconst 4, 1) := by decide +kernel
theorem d_law_283 : decode code 283 = .ok (.iadd, 1) := by decide +kernel
theorem d_law_284 : decode code 284 = .ok (.iaload, 1) := by decide +kernel
theorem d_law_285 : decode code 285 = .ok (.invokevirtual 29, 3) := by decide +kernel
theorem d_law_288 : decode code 288 = .ok (.if_icmp .eq 352, 3) := by decide +kernel
theorem d_law_291 : decode code 291 = .ok (.iconst 0, 1) := by decide +kernel
theorem d_law_292 : decode code 292 = .ok (.ireturn, 1) := by decide +kernel
theorem d_law_293 : decode code 293 = .ok (.aload_n 1, 1) := by decide +kernel
theorem d_law_294 : decode code 294 = .ok (.aload_n 0, 1) := by decide +kernel
theorem d_law_295 : decode code 295 = .ok (.iload_n 3, 1) := by decide +kernel
theorem d_law_296 : decode code 296 = .ok (.iconst 1, 1) := by decide +kernel
theorem d_law_297 : decode code 297 = .ok (.iadd, 1) := by decide +kernel
theorem d_law_298 : decode code 298 = .ok (.iaload, 1) := by decide +kernel
theorem d_law_299 : decode code 299 = .ok (.aload_n 0, 1) := by decide +kernel
theorem d_law_300 : decode code 300 = .ok (.iload_n 3, 1) := by decide +kernel
theorem d_law_301 : decode code 301 = .ok (.iconst 2, 1) := by decide +kernel
theorem d_law_302 : decode code 302 = .ok (.iadd, 1) := by decide +kernel
theorem d_law_303 : decode code 303 = .ok (.iaload, 1) := by decide +kernel
theorem d_law_304 : decode code 304 = .ok (.aload_n 0, 1) := by decide +kernel
theorem d_law_305 : decode code 305 = .ok (.iload_n 3, 1) := by decide +kernel
theorem d_law_306 : decode code 306 = .ok (.iconst 3, 1) := by decide +kernel
theorem d_law_307 : decode code 307 = .ok (.iadd, 1) := by decide +kernel
theorem d_law_308 : decode code 308 = .ok (.iaload, 1) := by decide +kernel
theorem d_law_309 : decode code 309 = .ok (.invokevirtual 30, 3) := by decide +kernel
theorem d_law_312 : decode code 312 = .ok (.aload_n 2, 1) := by decide +kernel
theorem d_law_313 : decode code 313 = .ok (.aload_n 0, 1) := by decide +kernel
theorem d_law_314 : decode code 314 = .ok (.iload_n 3, 1) := by decide +kernel
theorem d_law_315 : decode code 315 = .ok (.iconst 1, 1) := by decide +kernel
theorem d_law_316 : decode code 316 = .ok (.iadd, 1) := by decide +kernel
theorem d_law_317 : decode code 317 = .ok (.iaload, 1) := by decide +kernel
theorem d_law_318 : decode code 318 = .ok (.aload_n 0, 1) := by decide +kernel
theorem d_law_319 : decode code 319 = .ok (.iload_n 3, 1) := by decide +kernel
theorem d_law_320 : decode code 320 = .ok (.iconst 2, 1) := by decide +kernel
theorem d_law_321 : decode code 321 = .ok (.iadd, 1) := by decide +kernel
theorem d_law_322 : decode code 322 = .ok (.iaload, 1) := by decide +kernel
theorem d_law_323 : decode code 323 = .ok (.aload_n 0, 1) := by decide +kernel
theorem d_law_324 : decode code 324 = .ok (.iload_n 3, 1) := by decide +kernel
theorem d_law_325 : decode code 325 = .ok (.iconst 3, 1) := by decide +kernel
theorem d_law_326 : decode code 326 = .ok (.iadd, 1) := by decide +kernel
theorem d_law_327 : decode code 327 = .ok (.iaload, 1) := by decide +kernel
theorem d_law_328 : decode code 328 = .ok (.invokevirtual 34, 3) := by decide +kernel
theorem d_law_331 : decode code 331 = .ok (.if_icmp .eq 309, 3) := by decide +kernel
theorem d_law_334 : decode code 334 = .ok (.iconst 0, 1) := by decide +kernel
theorem d_law_335 : decode code 335 = .ok (.ireturn, 1) := by decide +kernel
theorem d_law_336 : decode code 336 = .ok (.aload_n 1, 1) := by decide +kernel
theorem d_law_337 : decode code 337 = .ok (.aload_n 0, 1) := by decide +kernel
theorem d_law_338 : decode code 338 = .ok (.iload_n 3, 1) := by decide +kernel
theorem d_law_339 : decode code 339 = .ok (.iconst 1, 1) := by decide +kernel
theorem d_law_340 : decode code 340 = .ok (.iadd, 1) := by decide +kernel
theorem d_law_341 : decode code 341 = .ok (.iaload, 1) := by decide +kernel
theorem d_law_342 : decode code 342 = .ok (.aload_n 0, 1) := by decide +kernel
theorem d_law_343 : decode code 343 = .ok (.iload_n 3, 1) := by decide +kernel
theorem d_law_344 : decode code 344 = .ok (.iconst 2, 1) := by decide +kernel
theorem d_law_345 : decode code 345 = .ok (.iadd, 1) := by decide +kernel
theorem d_law_346 : decode code 346 = .ok (.iaload, 1) := by decide +kernel
theorem d_law_347 : decode code 347 = .ok (.invokevirtual 35, 3) := by decide +kernel
theorem d_law_350 : decode code 350 = .ok (.aload_n 2, 1) := by decide +kernel
theorem d_law_351 : decode code 351 = .ok (.aload_n 0, 1) := by decide +kernel
theorem d_law_352 : decode code 352 = .ok (.iload_n 3, 1) := by decide +kernel
theorem d_law_353 : decode code 353 = .ok (.iconst 1, 1) := by decide +kernel
theorem d_law_354 : decode code 354 = .ok (.iadd, 1) := by decide +kernel
theorem d_law_355 : decode code 355 = .ok (.iaload, 1) := by decide +kernel
theorem d_law_356 : decode code 356 = .ok (.aload_n 0, 1) := by decide +kernel
theorem d_law_357 : decode code 357 = .ok (.iload_n 3, 1) := by decide +kernel
theorem d_law_358 : decode code 358 = .ok (.iconst 2, 1) := by decide +kernel
theorem d_law_359 : decode code 359 = .ok (.iadd, 1) := by decide +kernel
theorem d_law_360 : decode code 360 = .ok (.iaload, 1) := by decide +kernel
theorem d_law_361 : decode code 361 = .ok (.invokevirtual 38, 3) := by decide +kernel
theorem d_law_364 : decode code 364 = .ok (.if_icmp .eq 276, 3) := by decide +kernel
theorem d_law_367 : decode code 367 = .ok (.iconst 0, 1) := by decide +kernel
theorem d_law_368 : decode code 368 = .ok (.ireturn, 1) := by decide +kernel
theorem d_law_369 : decode code 369 = .ok (.aload_n 1, 1) := by decide +kernel
theorem d_law_370 : decode code 370 = .ok (.aload_n 0, 1) := by decide +kernel
theorem d_law_371 : decode code 371 = .ok (.iload_n 3, 1) := by decide +kernel
theorem d_law_372 : decode code 372 = .ok (.iconst 1, 1) := by decide +kernel
theorem d_law_373 : decode code 373 = .ok (.iadd, 1) := by decide +kernel
theorem d_law_374 : decode code 374 = .ok (.iaload, 1) := by decide +kernel
theorem d_law_375 : decode code 375 = .ok (.invokevirtual 39, 3) := by decide +kernel
theorem d_law_378 : decode code 378 = .ok (.aload_n 2, 1) := by decide +kernel
theorem d_law_379 : decode code 379 = .ok (.aload_n 0, 1) := by decide +kernel
theorem d_law_380 : decode code 380 = .ok (.iload_n 3, 1) := by decide +kernel
theorem d_law_381 : decode code 381 = .ok (.iconst 1, 1) := by decide +kernel
theorem d_law_382 : decode code 382 = .ok (.iadd, 1) := by decide +kernel
theorem d_law_383 : decode code 383 = .ok (.iaload, 1) := by decide +kernel
theorem d_law_384 : decode code 384 = .ok (.invokevirtual 43, 3) := by decide +kernel
theorem d_law_387 : decode code 387 = .ok (.lcmp, 1) := by decide +kernel
theorem d_law_388 : decode code 388 = .ok (.ifCond .eq 252, 3) := by decide +kernel
theorem d_law_391 : decode code 391 = .ok (.iconst 0, 1) := by decide +kernel
theorem d_law_392 : decode code 392 = .ok (.ireturn, 1) := by decide +kernel
theorem d_law_393 : decode code 393 = .ok (.aload_n 1, 1) := by decide +kernel
theorem d_law_394 : decode code 394 = .ok (.aload_n 0, 1) := by decide +kernel
theorem d_law_395 : decode code 395 = .ok (.iload_n 3, 1) := by decide +kernel
theorem d_law_396 : decode code 396 = .ok (.iconst 1, 1) := by decide +kernel
theorem d_law_397 : decode code 397 = .ok (.iadd, 1) := by decide +kernel
theorem d_law_398 : decode code 398 = .ok (.iaload, 1) := by decide +kernel
theorem d_law_399 : decode code 399 = .ok (.aload_n 0, 1) := by decide +kernel
theorem d_law_400 : decode code 400 = .ok (.iload_n 3, 1) := by decide +kernel
theorem d_law_401 : decode code 401 = .ok (.iconst 2, 1) := by decide +kernel
theorem d_law_402 : decode code 402 = .ok (.iadd, 1) := by decide +kernel
theorem d_law_403 : decode code 403 = .ok (.iaload, 1) := by decide +kernel
theorem d_law_404 : decode code 404 = .ok (.invokevirtual 44, 3) := by decide +kernel
theorem d_law_407 : decode code 407 = .ok (.aload_n 2, 1) := by decide +kernel
theorem d_law_408 : decode code 408 = .ok (.aload_n 0, 1) := by decide +kernel
theorem d_law_409 : decode code 409 = .ok (.iload_n 3, 1) := by decide +kernel
theorem d_law_410 : decode code 410 = .ok (.iconst 1, 1) := by decide +kernel
theorem d_law_411 : decode code 411 = .ok (.iadd, 1) := by decide +kernel
theorem d_law_412 : decode code 412 = .ok (.iaload, 1) := by decide +kernel
theorem d_law_413 : decode code 413 = .ok (.aload_n 0, 1) := by decide +kernel
theorem d_law_414 : decode code 414 = .ok (.iload_n 3, 1) := by decide +kernel
theorem d_law_415 : decode code 415 = .ok (.iconst 2, 1) := by decide +kernel
theorem d_law_416 : decode code 416 = .ok (.iadd, 1) := by decide +kernel
theorem d_law_417 : decode code 417 = .ok (.iaload, 1) := by decide +kernel
theorem d_law_418 : decode code 418 = .ok (.invokevirtual 47, 3) := by decide +kernel
theorem d_law_421 : decode code 421 = .ok (.if_icmp .eq 219, 3) := by decide +kernel
theorem d_law_424 : decode code 424 = .ok (.iconst 0, 1) := by decide +kernel
theorem d_law_425 : decode code 425 = .ok (.ireturn, 1) := by decide +kernel
theorem d_law_426 : decode code 426 = .ok (.aload_n 1, 1) := by decide +kernel
theorem d_law_427 : decode code 427 = .ok (.aload_n 0, 1) := by decide +kernel
theorem d_law_428 : decode code 428 = .ok (.iload_n 3, 1) := by decide +kernel
theorem d_law_429 : decode code 429 = .ok (.iconst 1, 1) := by decide +kernel
theorem d_law_430 : decode code 430 = .ok (.iadd, 1) := by decide +kernel
theorem d_law_431 : decode code 431 = .ok (.iaload, 1) := by decide +kernel
theorem d_law_432 : decode code 432 = .ok (.invokevirtual 48, 3) := by decide +kernel
theorem d_law_435 : decode code 435 = .ok (.aload_n 2, 1) := by decide +kernel
theorem d_law_436 : decode code 436 = .ok (.aload_n 0, 1) := by decide +kernel
theorem d_law_437 : decode code 437 = .ok (.iload_n 3, 1) := by decide +kernel
theorem d_law_438 : decode code 438 = .ok (.iconst 1, 1) := by decide +kernel
theorem d_law_439 : decode code 439 = .ok (.iadd, 1) := by decide +kernel
theorem d_law_440 : decode code 440 = .ok (.iaload, 1) := by decide +kernel
theorem d_law_441 : decode code 441 = .ok (.invokevirtual 52, 3) := by decide +kernel
theorem d_law_444 : decode code 444 = .ok (.if_icmp .eq 196, 3) := by decide +kernel
theorem d_law_447 : decode code 447 = .ok (.iconst 0, 1) := by decide +kernel
theorem d_law_448 : decode code 448 = .ok (.ireturn, 1) := by decide +kernel
theorem d_law_449 : decode code 449 = .ok (.aload_n 1, 1) := by decide +kernel
theorem d_law_450 : decode code 450 = .ok (.aload_n 0, 1) := by decide +kernel
theorem d_law_451 : decode code 451 = .ok (.iload_n 3, 1) := by decide +kernel
theorem d_law_452 : decode code 452 = .ok (.iconst 1, 1) := by decide +kernel
theorem d_law_453 : decode code 453 = .ok (.iadd, 1) := by decide +kernel
theorem d_law_454 : decode code 454 = .ok (.iaload, 1) := by decide +kernel
theorem d_law_455 : decode code 455 = .ok (.aload_n 0, 1) := by decide +kernel
theorem d_law_456 : decode code 456 = .ok (.iload_n 3, 1) := by decide +kernel
theorem d_law_457 : decode code 457 = .ok (.iconst 2, 1) := by decide +kernel
theorem d_law_458 : decode code 458 = .ok (.iadd, 1) := by decide +kernel
theorem d_law_459 : decode code 459 = .ok (.iaload, 1) := by decide +kernel
theorem d_law_460 : decode code 460 = .ok (.invokevirtual 53, 3) := by decide +kernel
theorem d_law_463 : decode code 463 = .ok (.aload_n 2, 1) := by decide +kernel
theorem d_law_464 : decode code 464 = .ok (.aload_n 0, 1) := by decide +kernel
theorem d_law_465 : decode code 465 = .ok (.iload_n 3, 1) := by decide +kernel
theorem d_law_466 : decode code 466 = .ok (.iconst 1, 1) := by decide +kernel
theorem d_law_467 : decode code 467 = .ok (.iadd, 1) := by decide +kernel
theorem d_law_468 : decode code 468 = .ok (.iaload, 1) := by decide +kernel
theorem d_law_469 : decode code 469 = .ok (.aload_n 0, 1) := by decide +kernel
theorem d_law_470 : decode code 470 = .ok (.iload_n 3, 1) := by decide +kernel
theorem d_law_471 : decode code 471 = .ok (.iconst 2, 1) := by decide +kernel
theorem d_law_472 : decode code 472 = .ok (.iadd, 1) := by decide +kernel
theorem d_law_473 : decode code 473 = .ok (.iaload, 1) := by decide +kernel
theorem d_law_474 : decode code 474 = .ok (.invokevirtual 57, 3) := by decide +kernel
theorem d_law_477 : decode code 477 = .ok (.lcmp, 1) := by decide +kernel
theorem d_law_478 : decode code 478 = .ok (.ifCond .eq 162, 3) := by decide +kernel
theorem d_law_481 : decode code 481 = .ok (.iconst 0, 1) := by decide +kernel
theorem d_law_482 : decode code 482 = .ok (.ireturn, 1) := by decide +kernel
theorem d_law_483 : decode code 483 = .ok (.aload_n 1, 1) := by decide +kernel
theorem d_law_484 : decode code 484 = .ok (.aload_n 0, 1) := by decide +kernel
theorem d_law_485 : decode code 485 = .ok (.iload_n 3, 1) := by decide +kernel
theorem d_law_486 : decode code 486 = .ok (.iconst 1, 1) := by decide +kernel
theorem d_law_487 : decode code 487 = .ok (.iadd, 1) := by decide +kernel
theorem d_law_488 : decode code 488 = .ok (.iaload, 1) := by decide +kernel
theorem d_law_489 : decode code 489 = .ok (.invokevirtual 58, 3) := by decide +kernel
theorem d_law_492 : decode code 492 = .ok (.aload_n 2, 1) := by decide +kernel
theorem d_law_493 : decode code 493 = .ok (.aload_n 0, 1) := by decide +kernel
theorem d_law_494 : decode code 494 = .ok (.iload_n 3, 1) := by decide +kernel
theorem d_law_495 : decode code 495 = .ok (.iconst 1, 1) := by decide +kernel
theorem d_law_496 : decode code 496 = .ok (.iadd, 1) := by decide +kernel
theorem d_law_497 : decode code 497 = .ok (.iaload, 1) := by decide +kernel
theorem d_law_498 : decode code 498 = .ok (.invokevirtual 61, 3) := by decide +kernel
theorem d_law_501 : decode code 501 = .ok (.lcmp, 1) := by decide +kernel
theorem d_law_502 : decode code 502 = .ok (.ifCond .eq 138, 3) := by decide +kernel
theorem d_law_505 : decode code 505 = .ok (.iconst 0, 1) := by decide +kernel
theorem d_law_506 : decode code 506 = .ok (.ireturn, 1) := by decide +kernel
theorem d_law_507 : decode code 507 = .ok (.aload_n 1, 1) := by decide +kernel
theorem d_law_508 : decode code 508 = .ok (.aload_n 0, 1) := by decide +kernel
theorem d_law_509 : decode code 509 = .ok (.iload_n 3, 1) := by decide +kernel
theorem d_law_510 : decode code 510 = .ok (.iconst 1, 1) := by decide +kernel
theorem d_law_511 : decode code 511 = .ok (.iadd, 1) := by decide +kernel
theorem d_law_512 : decode code 512 = .ok (.iaload, 1) := by decide +kernel
theorem d_law_513 : decode code 513 = .ok (.aload_n 0, 1) := by decide +kernel
theorem d_law_514 : decode code 514 = .ok (.iload_n 3, 1) := by decide +kernel
theorem d_law_515 : decode code 515 = .ok (.iconst 2, 1) := by decide +kernel
theorem d_law_516 : decode code 516 = .ok (.iadd, 1) := by decide +kernel
theorem d_law_517 : decode code 517 = .ok (.iaload, 1) := by decide +kernel
theorem d_law_518 : decode code 518 = .ok (.invokevirtual 62, 3) := by decide +kernel
theorem d_law_521 : decode code 521 = .ok (.aload_n 2, 1) := by decide +kernel
theorem d_law_522 : decode code 522 = .ok (.aload_n 0, 1) := by decide +kernel
theorem d_law_523 : decode code 523 = .ok (.iload_n 3, 1) := by decide +kernel
theorem d_law_524 : decode code 524 = .ok (.iconst 1, 1) := by decide +kernel
theorem d_law_525 : decode code 525 = .ok (.iadd, 1) := by decide +kernel
theorem d_law_526 : decode code 526 = .ok (.iaload, 1) := by decide +kernel
theorem d_law_527 : decode code 527 = .ok (.aload_n 0, 1) := by decide +kernel
theorem d_law_528 : decode code 528 = .ok (.iload_n 3, 1) := by decide +kernel
theorem d_law_529 : decode code 529 = .ok (.iconst 2, 1) := by decide +kernel
theorem d_law_530 : decode code 530 = .ok (.iadd, 1) := by decide +kernel
theorem d_law_531 : decode code 531 = .ok (.iaload, 1) := by decide +kernel
theorem d_law_532 : decode code 532 = .ok (.invokevirtual 65, 3) := by decide +kernel
theorem d_law_535 : decode code 535 = .ok (.lcmp, 1) := by decide +kernel
theorem d_law_536 : decode code 536 = .ok (.ifCond .eq 104, 3) := by decide +kernel
theorem d_law_539 : decode code 539 = .ok (.iconst 0, 1) := by decide +kernel
theorem d_law_540 : decode code 540 = .ok (.ireturn, 1) := by decide +kernel
theorem d_law_541 : decode code 541 = .ok (.aload_n 1, 1) := by decide +kernel
theorem d_law_542 : decode code 542 = .ok (.aload_n 0, 1) := by decide +kernel
theorem d_law_543 : decode code 543 = .ok (.iload_n 3, 1) := by decide +kernel
theorem d_law_544 : decode code 544 = .ok (.iconst 1, 1) := by decide +kernel
theorem d_law_545 : decode code 545 = .ok (.iadd, 1) := by decide +kernel
theorem d_law_546 : decode code 546 = .ok (.iaload, 1) := by decide +kernel
theorem d_law_547 : decode code 547 = .ok (.aload_n 0, 1) := by decide +kernel
theorem d_law_548 : decode code 548 = .ok (.iload_n 3, 1) := by decide +kernel
theorem d_law_549 : decode code 549 = .ok (.iconst 2, 1) := by decide +kernel
theorem d_law_550 : decode code 550 = .ok (.iadd, 1) := by decide +kernel
theorem d_law_551 : decode code 551 = .ok (.iaload, 1) := by decide +kernel
theorem d_law_552 : decode code 552 = .ok (.aload_n 0, 1) := by decide +kernel
theorem d_law_553 : decode code 553 = .ok (.iload_n 3, 1) := by decide +kernel
theorem d_law_554 : decode code 554 = .ok (.iconst 3, 1) := by decide +kernel
theorem d_law_555 : decode code 555 = .ok (.iadd, 1) := by decide +kernel
theorem d_law_556 : decode code 556 = .ok (.iaload, 1) := by decide +kernel
theorem d_law_557 : decode code 557 = .ok (.invokevirtual 66, 3) := by decide +kernel
theorem d_law_560 : decode code 560 = .ok (.aload_n 2, 1) := by decide +kernel
theorem d_law_561 : decode code 561 = .ok (.aload_n 0, 1) := by decide +kernel
theorem d_law_562 : decode code 562 = .ok (.iload_n 3, 1) := by decide +kernel
theorem d_law_563 : decode code 563 = .ok (.iconst 1, 1) := by decide +kernel
theorem d_law_564 : decode code 564 = .ok (.iadd, 1) := by decide +kernel
theorem d_law_565 : decode code 565 = .ok (.iaload, 1) := by decide +kernel
theorem d_law_566 : decode code 566 = .ok (.aload_n 0, 1) := by decide +kernel
theorem d_law_567 : decode code 567 = .ok (.iload_n 3, 1) := by decide +kernel
theorem d_law_568 : decode code 568 = .ok (.iconst 2, 1) := by decide +kernel
theorem d_law_569 : decode code 569 = .ok (.iadd, 1) := by decide +kernel
theorem d_law_570 : decode code 570 = .ok (.iaload, 1) := by decide +kernel
theorem d_law_571 : decode code 571 = .ok (.aload_n 0, 1) := by decide +kernel
theorem d_law_572 : decode code 572 = .ok (.iload_n 3, 1) := by decide +kernel
theorem d_law_573 : decode code 573 = .ok (.iconst 3, 1) := by decide +kernel
theorem d_law_574 : decode code 574 = .ok (.iadd, 1) := by decide +kernel
theorem d_law_575 : decode code 575 = .ok (.iaload, 1) := by decide +kernel
theorem d_law_576 : decode code 576 = .ok (.invokevirtual 69, 3) := by decide +kernel
theorem d_law_579 : decode code 579 = .ok (.if_icmp .eq 61, 3) := by decide +kernel
theorem d_law_582 : decode code 582 = .ok (.iconst 0, 1) := by decide +kernel
theorem d_law_583 : decode code 583 = .ok (.ireturn, 1) := by decide +kernel
theorem d_law_584 : decode code 584 = .ok (.aload_n 1, 1) := by decide +kernel
theorem d_law_585 : decode code 585 = .ok (.aload_n 0, 1) := by decide +kernel
theorem d_law_586 : decode code 586 = .ok (.iload_n 3, 1) := by decide +kernel
theorem d_law_587 : decode code 587 = .ok (.iconst 1, 1) := by decide +kernel
theorem d_law_588 : decode code 588 = .ok (.iadd, 1) := by decide +kernel
theorem d_law_589 : decode code 589 = .ok (.iaload, 1) := by decide +kernel
theorem d_law_590 : decode code 590 = .ok (.invokevirtual 70, 3) := by decide +kernel
theorem d_law_593 : decode code 593 = .ok (.aload_n 2, 1) := by decide +kernel
theorem d_law_594 : decode code 594 = .ok (.aload_n 0, 1) := by decide +kernel
theorem d_law_595 : decode code 595 = .ok (.iload_n 3, 1) := by decide +kernel
theorem d_law_596 : decode code 596 = .ok (.iconst 1, 1) := by decide +kernel
theorem d_law_597 : decode code 597 = .ok (.iadd, 1) := by decide +kernel
theorem d_law_598 : decode code 598 = .ok (.iaload, 1) := by decide +kernel
theorem d_law_599 : decode code 599 = .ok (.invokevirtual 73, 3) := by decide +kernel
theorem d_law_602 : decode code 602 = .ok (.if_icmp .eq 38, 3) := by decide +kernel
theorem d_law_605 : decode code 605 = .ok (.iconst 0, 1) := by decide +kernel
theorem d_law_606 : decode code 606 = .ok (.ireturn, 1) := by decide +kernel
theorem d_law_607 : decode code 607 = .ok (.aload_n 1, 1) := by decide +kernel
theorem d_law_608 : decode code 608 = .ok (.aload_n 0, 1) := by decide +kernel
theorem d_law_609 : decode code 609 = .ok (.iload_n 3, 1) := by decide +kernel
theorem d_law_610 : decode code 610 = .ok (.iconst 1, 1) := by decide +kernel
theorem d_law_611 : decode code 611 = .ok (.iadd, 1) := by decide +kernel
theorem d_law_612 : decode code 612 = .ok (.iaload, 1) := by decide +kernel
theorem d_law_613 : decode code 613 = .ok (.aload_n 0, 1) := by decide +kernel
theorem d_law_614 : decode code 614 = .ok (.iload_n 3, 1) := by decide +kernel
theorem d_law_615 : decode code 615 = .ok (.iconst 2, 1) := by decide +kernel
theorem d_law_616 : decode code 616 = .ok (.iadd, 1) := by decide +kernel
theorem d_law_617 : decode code 617 = .ok (.iaload, 1) := by decide +kernel
theorem d_law_618 : decode code 618 = .ok (.invokevirtual 74, 3) := by decide +kernel
theorem d_law_621 : decode code 621 = .ok (.aload_n 2, 1) := by decide +kernel
theorem d_law_622 : decode code 622 = .ok (.aload_n 0, 1) := by decide +kernel
theorem d_law_623 : decode code 623 = .ok (.iload_n 3, 1) := by decide +kernel
theorem d_law_624 : decode code 624 = .ok (.iconst 1, 1) := by decide +kernel
theorem d_law_625 : decode code 625 = .ok (.iadd, 1) := by decide +kernel
theorem d_law_626 : decode code 626 = .ok (.iaload, 1) := by decide +kernel
theorem d_law_627 : decode code 627 = .ok (.aload_n 0, 1) := by decide +kernel
theorem d_law_628 : decode code 628 = .ok (.iload_n 3, 1) := by decide +kernel
theorem d_law_629 : decode code 629 = .ok (.iconst 2, 1) := by decide +kernel
theorem d_law_630 : decode code 630 = .ok (.iadd, 1) := by decide +kernel
theorem d_law_631 : decode code 631 = .ok (.iaload, 1) := by decide +kernel
theorem d_law_632 : decode code 632 = .ok (.invokevirtual 78, 3) := by decide +kernel
theorem d_law_635 : decode code 635 = .ok (.if_icmp .eq 5, 3) := by decide +kernel
theorem d_law_638 : decode code 638 = .ok (.iconst 0, 1) := by decide +kernel
theorem d_law_639 : decode code 639 = .ok (.ireturn, 1) := by decide +kernel
theorem d_law_640 : decode code 640 = .ok (.iinc 3 6, 3) := by decide +kernel
theorem d_law_643 : decode code 643 = .ok (.goto (-625), 3) := by decide +kernel
theorem d_law_646 : decode code 646 = .ok (.iconst 1, 1) := by decide +kernel
theorem d_law_647 : decode code 647 = .ok (.ireturn, 1) := by decide +kernel
def lw_OK (D : va_G) (g : G4) (A : Nat → Prop) (H0 : Heap) (x0 m0 : Nat) (H : Heap) (locs : List Loc) : Prop := ∃ (a : Nat → Nat) (sa : Nat → Nat → Nat) (cq : Nat → Option Nat) (ci : Nat → Nat → Int32) (cj : Nat → Nat → Int64) (cp : Nat → Nat → Int32) (P : Nat → Pt) (vi : Nat → Int32) (vj : Nat → Int64) (iv dd pk pd : Nat) (reg : Nat → Nat), fw_P D (lwW g a sa cq ci cj cp P vi vj iv dd pk pd) H ∧ fw_D A (lwW g a sa cq ci cj cp P vi vj iv dd pk pd) ∧ va_S A H0 H locs ∧ a 0 = x0 ∧ a 19 = m0 ∧ lw_reg reg iv dd sa cq ∧ lw_rel reg P (ci 23) (cj 20) (cj 21) (cj 22) ∧ lw_out (vi 0) (vi 3) cp (ci 27) pk pd
theorem lw_S0 {p : Program} {s : State} {m : MethodId} {meth : Method} {c : Code} {b L : Nat} {xs : Nat → Int32} (C0 : lw_At p s m meth c b L xs) : CallFix p m c code 4 s #[Value.ref b] (Cond.arrayClass .int :: sd_tb) R_law := by
  obtain ⟨hx, hb, hr, hml, hown, hts, hX, hbl, hlocks, hgv⟩ := C0
  refine ⟨hx, hb, hml, hown, fun w hw => ?_⟩
  rcases List.mem_cons.mp hw with e | e
  · rw [e]; exact hts _ (sd_of ka_int)
  · exact hts _ (sd_of e)
theorem lw_in {i L k : Nat} {z : Int32} (hi : i + 6 ≤ L) (hL : L ≤ 3072) (hk : k < 6) (hz : z = nI k) : vp_in (nI i + z) L := by
  rw [hz, nI_add]; exact vp_in_nI (by omega) (by omega)
