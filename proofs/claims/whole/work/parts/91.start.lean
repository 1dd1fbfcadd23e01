/-! the law from its entry -/
theorem kc_law_10 : Cond.classLink R_law 10 R_Model ∈ sd_tb := (sd_in (List.mem_of_getElem? (i := 529) (by decide +kernel)) rfl)
theorem kc_law_7 : Cond.classLink R_law 7 R_Desk ∈ sd_tb := (sd_in (List.mem_of_getElem? (i := 50) (by decide +kernel)) rfl)
theorem ki_Desk : Cond.initialized R_Desk ∈ sd_tb := (sd_in (List.mem_of_getElem? (i := 35) (by decide +kernel)) rfl)
theorem ki_Model : Cond.initialized R_Model ∈ sd_tb := (sd_in (List.mem_of_getElem? (i := 40) (by decide +kernel)) rfl)
theorem kl_law_12 : sd_LI R_law 12 y_Model_init b_Model_init 1 0 := ⟨(sd_in (List.mem_of_getElem? (i := 531) (by decide +kernel)) rfl), (sd_in (List.mem_of_getElem? (i := 532) (by decide +kernel)) rfl), (sd_in (List.mem_of_getElem? (i := 40) (by decide +kernel)) rfl), (sd_in (List.mem_of_getElem? (i := 533) (by decide +kernel)) rfl), by decide +kernel, by decide +kernel, by decide +kernel⟩
theorem kl_law_9 : sd_LI R_law 9 y_Desk_init b_Desk_init 2 0 := ⟨(sd_in (List.mem_of_getElem? (i := 52) (by decide +kernel)) rfl), (sd_in (List.mem_of_getElem? (i := 53) (by decide +kernel)) rfl), (sd_in (List.mem_of_getElem? (i := 35) (by decide +kernel)) rfl), (sd_in (List.mem_of_getElem? (i := 54) (by decide +kernel)) rfl), by decide +kernel, by decide +kernel, by decide +kernel⟩
theorem kn_Desk : Cond.instantiable R_Desk 9 ∈ sd_tb := (sd_in (List.mem_of_getElem? (i := 51) (by decide +kernel)) rfl)
theorem kn_Model : Cond.instantiable R_Model 31 ∈ sd_tb := (sd_in (List.mem_of_getElem? (i := 530) (by decide +kernel)) rfl)
def lw_idx : List Wx := [.inl 0, .inl 1, .inl 2, .inl 3, .inl 4, .inl 5, .inl 6, .inl 7, .inl 8, .inl 9, .inl 10, .inl 11, .inl 12, .inl 13, .inl 14, .inl 15, .inl 16, .inl 17, .inl 18, .inr (0, 0), .inr (0, 1), .inr (0, 2), .inr (0, 3), .inr (0, 4), .inr (0, 5), .inr (1, 0), .inr (1, 1), .inr (1, 2), .inr (1, 3), .inr (1, 4), .inr (1, 5), .inr (2, 0), .inr (2, 1), .inr (2, 2), .inr (2, 3), .inr (2, 4), .inr (2, 5), .inr (3, 0), .inr (3, 1), .inr (3, 2), .inr (3, 3), .inr (3, 4), .inr (3, 5), .inr (4, 0), .inr (4, 1), .inr (4, 2), .inr (4, 3), .inr (4, 4), .inr (4, 5), .inr (5, 0), .inr (5, 1), .inr (5, 2), .inr (5, 3), .inr (5, 4), .inr (5, 5), .inr (6, 0), .inr (6, 1), .inr (6, 2), .inr (6, 3), .inr (6, 4), .inr (6, 5), .inr (7, 0), .inr (7, 1), .inr (7, 2), .inr (7, 3), .inr (7, 4), .inr (7, 5), .inr (8, 0), .inr (8, 1), .inr (8, 2), .inr (8, 3), .inr (8, 4), .inr (8, 5), .inr (9, 0), .inr (9, 1), .inr (9, 2), .inr (9, 3), .inr (9, 4), .inr (9, 5), .inl 19, .inl 20, .inl 21, .inl 22, .inl 23, .inl 24, .inl 25, .inl 26, .inl 27, .inl 28, .inl 29, .inl 30, .inl 31, .inl 32, .inl 33, .inl 34, .inl 35, .inl 36, .inl 37, .inl 38, .inl 39, .inl 40, .inl 41, .inl 42, .inl 43, .inl 44, .inl 45, .inl 46]
theorem lt_8 {p : Nat → Prop} (h0 : p 0) (h1 : p 1) (h2 : p 2) (h3 : p 3) (h4 : p 4) (h5 : p 5) (h6 : p 6) (h7 : p 7) : ∀ n, n < 8 → p n := lt_s (lt_s (lt_s (lt_s (lt_s (lt_s (lt_s (lt_s lt_0 h0) h1) h2) h3) h4) h5) h6) h7
theorem lw_all : ∀ x, fw_dom x → x ∈ lw_idx := fun x hx => match x, hx with
  | .inl n, h => lt_47 (p := fun n => Sum.inl n ∈ lw_idx) (List.mem_of_getElem? (i := 0) rfl) (List.mem_of_getElem? (i := 1) rfl) (List.mem_of_getElem? (i := 2) rfl) (List.mem_of_getElem? (i := 3) rfl) (List.mem_of_getElem? (i := 4) rfl) (List.mem_of_getElem? (i := 5) rfl) (List.mem_of_getElem? (i := 6) rfl) (List.mem_of_getElem? (i := 7) rfl) (List.mem_of_getElem? (i := 8) rfl) (List.mem_of_getElem? (i := 9) rfl) (List.mem_of_getElem? (i := 10) rfl) (List.mem_of_getElem? (i := 11) rfl) (List.mem_of_getElem? (i := 12) rfl) (List.mem_of_getElem? (i := 13) rfl) (List.mem_of_getElem? (i := 14) rfl) (List.mem_of_getElem? (i := 15) rfl) (List.mem_of_getElem? (i := 16) rfl) (List.mem_of_getElem? (i := 17) rfl) (List.mem_of_getElem? (i := 18) rfl) (List.mem_of_getElem? (i := 79) rfl) (List.mem_of_getElem? (i := 80) rfl) (List.mem_of_getElem? (i := 81) rfl) (List.mem_of_getElem? (i := 82) rfl) (List.mem_of_getElem? (i := 83) rfl) (List.mem_of_getElem? (i := 84) rfl) (List.mem_of_getElem? (i := 85) rfl) (List.mem_of_getElem? (i := 86) rfl) (List.mem_of_getElem? (i := 87) rfl) (List.mem_of_getElem? (i := 88) rfl) (List.mem_of_getElem? (i := 89) rfl) (List.mem_of_getElem? (i := 90) rfl) (List.mem_of_getElem? (i := 91) rfl) (List.mem_of_getElem? (i := 92) rfl) (List.mem_of_getElem? (i := 93) rfl) (List.mem_of_getElem? (i := 94) rfl) (List.mem_of_getElem? (i := 95) rfl) (List.mem_of_getElem? (i := 96) rfl) (List.mem_of_getElem? (i := 97) rfl) (List.mem_of_getElem? (i := 98) rfl) (List.mem_of_getElem? (i := 99) rfl) (List.mem_of_getElem? (i := 100) rfl) (List.mem_of_getElem? (i := 101) rfl) (List.mem_of_getElem? (i := 102) rfl) (List.mem_of_getElem? (i := 103) rfl) (List.mem_of_getElem? (i := 104) rfl) (List.mem_of_getElem? (i := 105) rfl) (List.mem_of_getElem? (i := 106) rfl) n h
  | .inr (i, j), h => lt_s (lt_s (lt_8 (p := fun i => ∀ j, j < 6 → Sum.inr (i, j) ∈ lw_idx) (lt_6 (List.mem_of_getElem? (i := 19) rfl) (List.mem_of_getElem? (i := 20) rfl) (List.mem_of_getElem? (i := 21) rfl) (List.mem_of_getElem? (i := 22) rfl) (List.mem_of_getElem? (i := 23) rfl) (List.mem_of_getElem? (i := 24) rfl)) (lt_6 (List.mem_of_getElem? (i := 25) rfl) (List.mem_of_getElem? (i := 26) rfl) (List.mem_of_getElem? (i := 27) rfl) (List.mem_of_getElem? (i := 28) rfl) (List.mem_of_getElem? (i := 29) rfl) (List.mem_of_getElem? (i := 30) rfl)) (lt_6 (List.mem_of_getElem? (i := 31) rfl) (List.mem_of_getElem? (i := 32) rfl) (List.mem_of_getElem? (i := 33) rfl) (List.mem_of_getElem? (i := 34) rfl) (List.mem_of_getElem? (i := 35) rfl) (List.mem_of_getElem? (i := 36) rfl)) (lt_6 (List.mem_of_getElem? (i := 37) rfl) (List.mem_of_getElem? (i := 38) rfl) (List.mem_of_getElem? (i := 39) rfl) (List.mem_of_getElem? (i := 40) rfl) (List.mem_of_getElem? (i := 41) rfl) (List.mem_of_getElem? (i := 42) rfl)) (lt_6 (List.mem_of_getElem? (i := 43) rfl) (List.mem_of_getElem? (i := 44) rfl) (List.mem_of_getElem? (i := 45) rfl) (List.mem_of_getElem? (i := 46) rfl) (List.mem_of_getElem? (i := 47) rfl) (List.mem_of_getElem? (i := 48) rfl)) (lt_6 (List.mem_of_getElem? (i := 49) rfl) (List.mem_of_getElem? (i := 50) rfl) (List.mem_of_getElem? (i := 51) rfl) (List.mem_of_getElem? (i := 52) rfl) (List.mem_of_getElem? (i := 53) rfl) (List.mem_of_getElem? (i := 54) rfl)) (lt_6 (List.mem_of_getElem? (i := 55) rfl) (List.mem_of_getElem? (i := 56) rfl) (List.mem_of_getElem? (i := 57) rfl) (List.mem_of_getElem? (i := 58) rfl) (List.mem_of_getElem? (i := 59) rfl) (List.mem_of_getElem? (i := 60) rfl)) (lt_6 (List.mem_of_getElem? (i := 61) rfl) (List.mem_of_getElem? (i := 62) rfl) (List.mem_of_getElem? (i := 63) rfl) (List.mem_of_getElem? (i := 64) rfl) (List.mem_of_getElem? (i := 65) rfl) (List.mem_of_getElem? (i := 66) rfl))) (lt_6 (List.mem_of_getElem? (i := 67) rfl) (List.mem_of_getElem? (i := 68) rfl) (List.mem_of_getElem? (i := 69) rfl) (List.mem_of_getElem? (i := 70) rfl) (List.mem_of_getElem? (i := 71) rfl) (List.mem_of_getElem? (i := 72) rfl))) (lt_6 (List.mem_of_getElem? (i := 73) rfl) (List.mem_of_getElem? (i := 74) rfl) (List.mem_of_getElem? (i := 75) rfl) (List.mem_of_getElem? (i := 76) rfl) (List.mem_of_getElem? (i := 77) rfl) (List.mem_of_getElem? (i := 78) rfl)) i h.1 j h.2
theorem fw_of {D : va_G} {w : Wx → Nat × va_E} {H : Heap} (h : va_P D classes (lw_idx.map w) H) : fw_P D w H := fun x hx => by
  obtain ⟨k, hk⟩ := List.getElem?_of_mem (lw_all x hx)
  exact h k (w x) (by rw [List.getElem?_map, hk]; rfl)
theorem fw_ofD {A : Nat → Prop} {w : Wx → Nat × va_E} (h : va_D A (lw_idx.map w)) : fw_D A w := by
  refine ⟨fun x y hx hy e => ?_, fun x hx => ?_⟩
  · obtain ⟨i, hi⟩ := List.getElem?_of_mem (lw_all x hx)
    obtain ⟨j, hj⟩ := List.getElem?_of_mem (lw_all y hy)
    have q := h.1 i j (w x) (w y) (by rw [List.getElem?_map, hi]; rfl) (by rw [List.getElem?_map, hj]; rfl) e
    subst q
    exact Option.some.inj (hi.symm.trans hj)
  · obtain ⟨i, hi⟩ := List.getElem?_of_mem (lw_all x hx)
    exact h.2 i (w x) (by rw [List.getElem?_map, hi]; rfl)
theorem lw_ar {s : State} {args : Array Value} {ty : FieldType} (h : (Cond.arrayClass ty).before args s = true) : ∃ cA : ClassId, ArrOfT s cA ty ∧ s.vm.findClass ("[" ++ ty.toString) = some cA := by
  obtain ⟨cA, kA, comp, h1, h2, h3⟩ := Cond.arrayClass_spec h
  exact ⟨cA, fun n z => ⟨fun k h => (by cases h), kA, h2, comp, h3⟩, h1⟩
theorem lw_ao {s : State} {C : String} (h : va_AO C s) : ∃ cA : ClassId, ArrOfT s cA (.object C) ∧ va_RA s cA (.object C) := by
  obtain ⟨comp, cA, kA, h1, h2, h3, h4, h5⟩ := Cond.arrayOver_spec h
  exact ⟨cA, fun n z => ⟨fun k h => (by cases h), kA, h3, comp, h4⟩, kA, comp, h3, h4, h1, h5⟩
def lw_cq (sa : Nat → Nat → Nat) : Nat → Option Nat := (va_up (va_up (va_up (va_up (va_up (va_up (va_up (va_up (fun _ => none) 0 (some (sa 0 0))) 1 (some (sa 1 0))) 2 (some (sa 2 0))) 3 (some (sa 3 0))) 4 (some (sa 4 0))) 5 (some (sa 5 0))) 6 (some (sa 6 0))) 7 (some (sa 7 0)))
theorem lw_reg0 (sa : Nat → Nat → Nat) : lw_reg (fun k => k) 9 8 sa (lw_cq sa) := by
  refine ⟨fun K hK => ⟨show K < 10 by omega, ?_, show K ≠ 8 by omega, show K ≠ 9 by omega⟩, fun K J _ _ h => h, by omega, by omega, by omega⟩
  exact lt_8 (p := fun K => lw_cq sa K = some (sa K 0)) rfl rfl rfl rfl rfl rfl rfl rfl K hK
theorem lw_rel0 : lw_rel (fun k => k) (fun _ => (0, 0, fun _ => 0, fun _ => 0, fun _ => 0, fun _ => 0, fun _ => 0)) (fun _ => 0) (fun _ => 0) (fun _ => 0) (fun _ => 0) := fun K hK =>
  ⟨0, ⟨rfl, ⟨Nat.zero_le _, fun j h => by omega, fun i j _ h => by omega⟩, rfl, fun j h => by omega, fun j h => by omega, fun j h => by omega⟩, Or.inl rfl⟩
set_option maxHeartbeats 8000000 in
set_option maxRecDepth 100000 in
theorem whole_start {p : Program} {e : Env} {s : State} {m : MethodId} {below : List Frame} {meth : Method} {c : Code} (l : Launch) {b L : Nat} {xs : Nat → Int32} (hL : L ≤ 3072) (C0 : lw_At p s m meth c b L xs) : W p l e room_1 s m #[Value.ref b] below meth c s.heap [] 0 0 (lw_Z below #[Value.ref b] s) (entryFrame m ([Value.ref b] : List Value).toArray 4) := by
  obtain ⟨hx, hb, hr, hml, hown, hts, hX, hbl, hlocks, hgv⟩ := id C0
  have S := lw_S0 C0
  have htt := sd_tt S
  have hA : ∀ q : Nat, s.heap.size ≤ q → (fun q : Nat => s.heap.size ≤ q) q := fun _ h => h
  have hov : va_AO R_Sum s := va_AO.of (hts (Cond.arrayOver (.object R_Sum)) (List.mem_of_getElem? (i := 59) (by decide +kernel)))
  obtain ⟨c0, i0, k0⟩ := u_known (C := R_Sum) (T := F_Sum) (N := 7) (n := 7) htt i_Sum (htt _ kn_Sum)
  obtain ⟨c1, i1, k1⟩ := u_known (C := R_EndsFinder) (T := F_EndsFinder) (N := 5) (n := 5) htt i_EndsFinder (htt _ kn_EndsFinder)
  obtain ⟨c2, i2, k2⟩ := u_known (C := R_Chain) (T := F_Chain) (N := 3) (n := 3) htt i_Chain (htt _ kn_Chain)
  obtain ⟨c3, i3, k3⟩ := u_known (C := R_Page) (T := F_Page) (N := 4) (n := 4) htt i_Page (htt _ kn_Page)
  obtain ⟨c4, i4, k4⟩ := u_known (C := R_Desk) (T := F_Desk) (N := 9) (n := 9) htt i_Desk (htt _ kn_Desk)
  obtain ⟨c5, i5, k5⟩ := u_known (C := R_Model) (T := F_Model) (N := 31) (n := 31) htt i_Model (htt _ kn_Model)
  obtain ⟨D, hKc⟩ : ∃ D : va_G, ∀ (k : Nat) (q : vw_C), classes[k]? = some q → u_Kn s q.1 q.2.1 q.2.2 (D.1 k) (D.2 k) := by
    refine ⟨(fun k => [c0, c1, c2, c3, c4, c5].getD k c0, fun k => [i0, i1, i2, i3, i4, i5].getD k i0), fun k q hq => ?_⟩
    match k, hq with
    | 0, hq => cases hq; exact k0
    | 1, hq => cases hq; exact k1
    | 2, hq => cases hq; exact k2
    | 3, hq => cases hq; exact k3
    | 4, hq => cases hq; exact k4
    | 5, hq => cases hq; exact k5
    | k + 6, hq => simp [classes] at hq
  obtain ⟨gI, aI1, aI2⟩ := lw_ar (htt _ ka_int)
  obtain ⟨gJ, aJ1, aJ2⟩ := lw_ar (htt _ ka_long)
  obtain ⟨gB, aB1, aB2⟩ := lw_ar (htt _ ka_byte)
  obtain ⟨gQ, aQ1, aQ2⟩ := lw_ao hov
  obtain ⟨g, hK⟩ : ∃ g : G4, va_K D classes (tyL g) s := by
    refine ⟨(gI, gJ, gB, gQ), hKc, fun k q hq => ?_⟩
    match k, hq with
    | 0, hq => cases hq; exact ⟨aI1, aI2⟩
    | 1, hq => cases hq; exact ⟨aJ1, aJ2⟩
    | 2, hq => cases hq; exact ⟨aB1, aB2⟩
    | 3, hq => cases hq; exact ⟨aQ1, aQ2⟩
    | k + 4, hq => simp [tyL] at hq
  have hS : va_S (fun q : Nat => s.heap.size ≤ q) s.heap s.heap [] := va_S.rf
  have hP : va_P D classes [] s.heap := fun k q h => by simp at h
  have hD : va_D (fun q : Nat => s.heap.size ≤ q) [] := ⟨fun i j p q h => by simp at h, fun k q h => by simp at h⟩
  have hl := lv_entry ([.ref b]) (n := 4) (Nat.le_of_ble_eq_true rfl)
  rw [lg_entry_eq]
  generalize (lg_sl ([.ref b]) ++ List.replicate (4 - (lg_sl ([.ref b])).length) Slot.unset).toArray = ls at hl ⊢
  replace hl : lv_has ls 4 [(0, .ref b)] := hl
  refine sd_new (C := R_Desk) (T := F_Desk) (N := 9) (ci := 4) (fs := [.null, .null, .null, .null, .null, .null, .null, .null, .null]) (ws2 := fun zd => [(zd, .inr (4, [.null, .null, .null, .null, .null, .null, .null, .null, .null]))]) hx hb htt i_Desk t_Desk t_Desk_ok hown kc_law_7 kn_Desk ki_Desk hK hP hD hS hA rfl (by decide) (by decide) (by decide) (fun _ => rfl) d_law_0 (fun zd H hP hD hS => ?_)
  refine W.widen (k := 1) (n := 9) (by decide) (by decide) ?_
  refine lv_dup hx hb d_law_3 rfl ?_
  refine sd_cvM (V := Nat → Nat) (wr := []) (w2 := fun v => cx_Desk g zd v) (sd_runQ (rest := [.ref zd]) (As := []) S (ct_Desk_init l D g zd (H.size)) kl_law_9 rfl hov (by decide) (by decide) hK hP hD [0] rfl (by decide) rfl hl d_law_4 rfl (Nat.le_of_ble_eq_true rfl) (by decide)) hP hD hS hA [0] [] rfl rfl (by decide) (by decide) (fun _ => rfl) (fun v H locs hP hD hS => ?_)
  refine W.widen (k := 79) (n := 2758) (by decide) (by decide) ?_
  refine W.eq (g2 := F0 m 7 ls [.ref zd]) rfl ?_
  refine lv_astore_n (lv' := [(1, .ref zd), (0, .ref b)]) hx hb d_law_7 rfl hl (by decide) rfl (fun ls hl => ?_)
  refine sd_new (C := R_Model) (T := F_Model) (N := 31) (ci := 5) (fs := [.null, .null, .null, .null, .null, .null, .null, .int 0, .null, .int 0, .null, .null, .null, .null, .null, .null, .null, .null, .null, .null, .int 0, .int 0, .null, .null, .null, .null, .null, .null, .null, .null, .null]) (ws2 := fun mo => cx_Desk g zd v ++ [(mo, .inr (5, [.null, .null, .null, .null, .null, .null, .null, .int 0, .null, .int 0, .null, .null, .null, .null, .null, .null, .null, .null, .null, .null, .int 0, .int 0, .null, .null, .null, .null, .null, .null, .null, .null, .null]))]) hx hb htt i_Model t_Model t_Model_ok hown kc_law_10 kn_Model ki_Model hK hP hD hS hA rfl (by decide) (by decide) (by decide) (fun _ => rfl) d_law_8 (fun mo H hP hD hS => ?_)
  refine W.widen (k := 80) (n := 2789) (by decide) (by decide) ?_
  refine lv_dup hx hb d_law_11 rfl ?_
  refine sd_cvM (V := Nat → Nat) (wr := cx_Desk g zd v) (w2 := fun v' => cx_Desk g zd v ++ cx_Model g mo v') (sd_runI (rest := [.ref mo]) (As := []) S (ct_Model_init l D g mo (H.size)) kl_law_12 rfl (by decide) (by decide) hK hP hD [79] rfl (by decide) rfl hl d_law_12 rfl (Nat.le_of_ble_eq_true rfl) (by decide)) hP hD hS hA [79] [0, 1, 2, 3, 4, 5, 6, 7, 8, 9, 10, 11, 12, 13, 14, 15, 16, 17, 18, 19, 20, 21, 22, 23, 24, 25, 26, 27, 28, 29, 30, 31, 32, 33, 34, 35, 36, 37, 38, 39, 40, 41, 42, 43, 44, 45, 46, 47, 48, 49, 50, 51, 52, 53, 54, 55, 56, 57, 58, 59, 60, 61, 62, 63, 64, 65, 66, 67, 68, 69, 70, 71, 72, 73, 74, 75, 76, 77, 78] rfl rfl (by decide) (by decide) (fun _ => rfl) (fun v' H locs hP hD hS => ?_)
  refine W.widen (k := 107) (n := 4637) (by decide) (by decide) ?_
  refine W.eq (g2 := F0 m 15 ls [.ref mo]) rfl ?_
  refine lv_astore_n (lv' := [(2, .ref mo), (1, .ref zd), (0, .ref b)]) hx hb d_law_15 rfl hl (by decide) rfl (fun ls hl => ?_)
  refine lv_iconst (v := 0) hx hb d_law_16 (by decide) ?_
  refine lv_istore_n (lv' := [(3, .int 0), (2, .ref mo), (1, .ref zd), (0, .ref b)]) hx hb d_law_17 rfl hl (by decide) rfl (fun ls hl => ?_)
  have eW : lw_idx.map (lwW g (fun n => if n = 0 then zd else if n < 19 then v n else if n = 19 then mo else v' n) (fun i j => v (19 + 6 * i + j)) (lw_cq (fun i j => v (19 + 6 * i + j))) (fun _ _ => 0) (fun _ _ => 0) (fun _ _ => 0) (fun _ => (0, 0, fun _ => 0, fun _ => 0, fun _ => 0, fun _ => 0, fun _ => 0)) (fun _ => 0) (fun _ => 0) 9 8 15 16) = cx_Desk g zd v ++ cx_Model g mo v' := rfl
  have hP' : fw_P D (lwW g (fun n => if n = 0 then zd else if n < 19 then v n else if n = 19 then mo else v' n) (fun i j => v (19 + 6 * i + j)) (lw_cq (fun i j => v (19 + 6 * i + j))) (fun _ _ => 0) (fun _ _ => 0) (fun _ _ => 0) (fun _ => (0, 0, fun _ => 0, fun _ => 0, fun _ => 0, fun _ => 0, fun _ => 0)) (fun _ => 0) (fun _ => 0) 9 8 15 16) H := fw_of (by rw [eW]; exact hP)
  have hD' : fw_D (fun q : Nat => s.heap.size ≤ q) (lwW g (fun n => if n = 0 then zd else if n < 19 then v n else if n = 19 then mo else v' n) (fun i j => v (19 + 6 * i + j)) (lw_cq (fun i j => v (19 + 6 * i + j))) (fun _ _ => 0) (fun _ _ => 0) (fun _ _ => 0) (fun _ => (0, 0, fun _ => 0, fun _ => 0, fun _ => 0, fun _ => 0, fun _ => 0)) (fun _ => 0) (fun _ => 0) 9 8 15 16) := fw_ofD (by rw [eW]; exact hD)
  exact lw_loop C0 hL hK (L + 7) 0 (by omega) (by omega) H locs ls (lv_sub hl [3, 2, 1, 0] rfl) ⟨_, _, _, _, _, _, _, _, _, _, _, _, _, fun k => k, hP', hD', hS, rfl, rfl, lw_reg0 _, lw_rel0, Or.inl ⟨rfl, rfl⟩, 0, rfl, rfl, by decide, fun j h => absurd h (Nat.not_lt_zero j)⟩
