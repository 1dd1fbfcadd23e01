/-! the law's loop -/
theorem lw_le {i L : Nat} (h1 : i ≤ L + 6) (hL : L ≤ 3072) (hc : ¬ Int32.ofNat L - 6 < nI i) : i + 6 ≤ L := by
  have e : (Int32.ofNat L - 6).toInt = (L : Int) - 6 := pk_sub_toInt (a := L) (b := 6) (by omega) (by omega)
  rw [ni_lt, e, nI_toInt (by omega)] at hc
  omega
theorem lw_and15 (x : Int32) : ∃ k : Nat, k < 16 ∧ x &&& 15 = nI k := pk_andE x 4 rfl
set_option maxHeartbeats 4000000 in
set_option maxRecDepth 100000 in
theorem lw_loop {p : Program} {l : Launch} {e : Env} {s : State} {m : MethodId} {below : List Frame} {meth : Method} {c : Code} {D : va_G} {g : G4} {b L : Nat} {xs : Nat → Int32} (C0 : lw_At p s m meth c b L xs) (hL : L ≤ 3072) (hK : va_K D classes (tyL g) s) {x0 m0 : Nat} : ∀ (n i : Nat), i ≤ L + 6 → L + 7 ≤ i + n → ∀ (H : Heap) (locs : List Loc) (ls : Array Slot), lv_has ls 4 [(0, .ref b), (1, .ref x0), (2, .ref m0), (3, .int (nI i))] → lw_OK D g (fun q : Nat => s.heap.size ≤ q) s.heap x0 m0 H locs → W p l e room_1 s m #[Value.ref b] below meth c H locs 107 4637 (lw_Z below #[Value.ref b] s) (F0 m 18 ls []) := by
  intro n
  induction n with
  | zero => intro i h1 h2; exact absurd h2 (by omega)
  | succ n ih =>
    intro i h1 h2 H locs ls hl h
    obtain ⟨hx, hb, hr, hml, hown, hts, hX, hbl, hlocks, hgv⟩ := id C0
    have hbA : ¬ (fun q : Nat => s.heap.size ≤ q) b := Nat.not_le.mpr hbl
    have hS : va_S (fun q : Nat => s.heap.size ≤ q) s.heap H locs := by
      obtain ⟨a, sa, cq, ci, cj, cp, P, vi, vj, iv, dd, pk, pd, reg, hP, hD, hS, -⟩ := h
      exact hS
    refine lv_iload_n hx hb d_law_18 rfl (lv_at hl 3 rfl) ?_
    refine lv_aload_n hx hb d_law_19 rfl (lv_at hl 0 rfl) ?_
    refine va_slen hx hb hX hbl hbA hS d_law_20 ?_
    refine lv_bipush (v := (6 : Int32)) hx hb d_law_21 (by decide) ?_
    refine lv_isub hx hb d_law_23 ?_
    refine lv_icmp_gt (tgt := 646) hx hb d_law_24 (by decide) (fun hc => ?_) (fun hc => ?_)
    · refine lv_iconst (v := 1) hx hb d_law_646 (by decide) ?_
      refine va_forget (fun q hq => hS.2.2 q hq) ?_
      refine W.widen (k := 600000) (n := 7302249) (by decide) (by decide) ?_
      exact lw_ret hx hb hr hlocks d_law_647
    · have hi : i + 6 ≤ L := lw_le h1 hL hc
      have in0 : vp_in (nI i) L := vp_in_nI (by omega) (by omega)
      refine lv_aload_n hx hb d_law_27 rfl (lv_at hl 0 rfl) ?_
      refine lv_iload_n hx hb d_law_28 rfl (lv_at hl 3 rfl) ?_
      refine va_sld hx hb hX hbl hbA hS in0 d_law_29 ?_
      refine lv_bipush (v := (15 : Int32)) hx hb d_law_30 (by decide) ?_
      refine lv_iand hx hb d_law_32 ?_
      obtain ⟨k, hk, ek⟩ := lw_and15 (xs (nI i).toNatClampNeg)
      rw [ek]
      have kk : ∀ (H1 : Heap) (locs1 : List Loc), lw_OK D g (fun q : Nat => s.heap.size ≤ q) s.heap x0 m0 H1 locs1 → W p l e room_1 s m #[Value.ref b] below meth c H1 locs1 107 4637 (lw_Z below #[Value.ref b] s) (F0 m 640 ls []) := by
        intro H1 locs1 h3
        refine lv_iinc (v := nI (i + 6)) (lv' := [(3, .int (nI (i + 6))), (0, .ref b), (1, .ref x0), (2, .ref m0)]) hx hb d_law_640 hl (k := 3) rfl (nI_add i 6) (by decide) rfl (fun ls hl => ?_)
        refine lv_goto (tgt := 18) hx hb d_law_643 (by decide) ?_
        exact ih (i + 6) (by omega) (by omega) H1 locs1 ls (lv_sub hl [1, 2, 3, 0] rfl) h3
      by_cases k13 : 13 < k
      · refine lv_tableOut (tgt := 640) hx hb d_law_33 (Or.inr (by rw [nI_toInt (by omega)]; omega)) (by decide) ?_
        exact kk H locs h
      by_cases k13e : k = 13
      · subst k13e
        refine lv_tableIn (tgt := 607) hx hb d_law_33 (by decide) (by decide) rfl (by decide) ?_
        exact lk_13 C0 hK hi hL hl h kk
      by_cases k12e : k = 12
      · subst k12e
        refine lv_tableIn (tgt := 584) hx hb d_law_33 (by decide) (by decide) rfl (by decide) ?_
        exact lk_12 C0 hK hi hL hl h kk
      by_cases k11e : k = 11
      · subst k11e
        refine lv_tableIn (tgt := 541) hx hb d_law_33 (by decide) (by decide) rfl (by decide) ?_
        exact lk_11 C0 hK hi hL hl h kk
      by_cases k10e : k = 10
      · subst k10e
        refine lv_tableIn (tgt := 507) hx hb d_law_33 (by decide) (by decide) rfl (by decide) ?_
        exact lk_10 C0 hK hi hL hl h kk
      by_cases k9e : k = 9
      · subst k9e
        refine lv_tableIn (tgt := 483) hx hb d_law_33 (by decide) (by decide) rfl (by decide) ?_
        exact lk_9 C0 hK hi hL hl h kk
      by_cases k8e : k = 8
      · subst k8e
        refine lv_tableIn (tgt := 449) hx hb d_law_33 (by decide) (by decide) rfl (by decide) ?_
        exact lk_8 C0 hK hi hL hl h kk
      by_cases k7e : k = 7
      · subst k7e
        refine lv_tableIn (tgt := 426) hx hb d_law_33 (by decide) (by decide) rfl (by decide) ?_
        exact lk_7 C0 hK hi hL hl h kk
      by_cases k6e : k = 6
      · subst k6e
        refine lv_tableIn (tgt := 393) hx hb d_law_33 (by decide) (by decide) rfl (by decide) ?_
        exact lk_6 C0 hK hi hL hl h kk
      by_cases k5e : k = 5
      · subst k5e
        refine lv_tableIn (tgt := 369) hx hb d_law_33 (by decide) (by decide) rfl (by decide) ?_
        exact lk_5 C0 hK hi hL hl h kk
      by_cases k4e : k = 4
      · subst k4e
        refine lv_tableIn (tgt := 336) hx hb d_law_33 (by decide) (by decide) rfl (by decide) ?_
        exact lk_4 C0 hK hi hL hl h kk
      by_cases k3e : k = 3
      · subst k3e
        refine lv_tableIn (tgt := 293) hx hb d_law_33 (by decide) (by decide) rfl (by decide) ?_
        exact lk_3 C0 hK hi hL hl h kk
      by_cases k2e : k = 2
      · subst k2e
        refine lv_tableIn (tgt := 240) hx hb d_law_33 (by decide) (by decide) rfl (by decide) ?_
        exact lk_2 C0 hK hi hL hl h kk
      by_cases k1e : k = 1
      · subst k1e
        refine lv_tableIn (tgt := 207) hx hb d_law_33 (by decide) (by decide) rfl (by decide) ?_
        exact lk_1 C0 hK hi hL hl h kk
      by_cases k0e : k = 0
      · subst k0e
        refine lv_tableIn (tgt := 104) hx hb d_law_33 (by decide) (by decide) rfl (by decide) ?_
        exact lk_0 C0 hK hi hL hl h kk
      omega
