/-- Arrays.fill -/
theorem wf_loop {nE : Nat} (hE : nE < 2147483648) (v : Int32) : ∀ (m fu k : Nat) (u : Nat → Int32), k + m = nE → m < fu →
    ∃ u', mf_Arrays_fill_L5 (nI nE) nE v fu (nI k) u = some u' ∧ (∀ i, k ≤ i → i < nE → u' i = v) ∧ (∀ i, i < k ∨ nE ≤ i → u' i = u i) := by
  intro m
  induction m with
  | zero =>
    intro fu k u h1 h2
    obtain ⟨fu, rfl⟩ : ∃ g, fu = g + 1 := ⟨fu - 1, by omega⟩
    rw [mf_Arrays_fill_L5, nI_ifLe (by omega) (by omega), if_pos (by omega)]
    exact ⟨u, rfl, fun i _ _ => by omega, fun i _ => rfl⟩
  | succ m ih =>
    intro fu k u h1 h2
    obtain ⟨fu, rfl⟩ : ∃ g, fu = g + 1 := ⟨fu - 1, by omega⟩
    rw [mf_Arrays_fill_L5, nI_ifLe (by omega) (by omega), if_neg (by omega), sd_g_t (sd_ixI (by omega) (by omega)), sd_let_s, sd_let_s, nI_1, nI_clamp (by omega)]
    obtain ⟨u', e1, e2, e3⟩ := ih fu (k + 1) (upd u k v) (by omega) (by omega)
    refine ⟨u', e1, fun i p q => ?_, fun i p => ?_⟩
    · rcases Nat.eq_or_lt_of_le p with z | z
      · rw [← z, e3 k (Or.inl (by omega))]; exact if_pos rfl
      · exact e2 i (by omega) q
    · rw [e3 i (by omega)]; exact if_neg (by omega)
theorem wf_fill {F nE : Nat} (hF : 18446744073709551616 ≤ F) (hE : nE < 2147483648) (v : Int32) (u : Nat → Int32) :
    ∃ u', mf_Arrays_fill F nE v u = some u' ∧ (∀ i, i < nE → u' i = v) := by
  obtain ⟨u', e1, e2, e3⟩ := wf_loop hE v nE F 0 u (by omega) (by omega)
  unfold mf_Arrays_fill
  rw [sd_let_s, show (0 : Int32) = nI 0 from rfl, e1]
  exact ⟨u', rfl, fun i h => e2 i (by omega) h⟩
/-- addSmall -/
theorem wa_loop {nE : Nat} (hE : 67 ≤ nE) : ∀ (m fu k : Nat) (c : Int32) (u : Nat → Int32), k + m = 67 → m < fu → dr_in 65536 (di u) k m → -1000 ≤ c.toInt → c.toInt ≤ 1000 →
    ∃ c' u', mf_Wide_addSmall_L4 nE fu c (nI k) u = some (c', u') ∧ -1000 ≤ c'.toInt ∧ c'.toInt ≤ 1000 ∧ dr 65536 (di u') k m + c'.toInt * 65536 ^ m = c.toInt + dr 65536 (di u) k m ∧ (∀ i, i < k ∨ k + m ≤ i → u' i = u i) ∧ dr_in 65536 (di u') k m := by
  intro m
  induction m with
  | zero =>
    intro fu k c u h1 h2 h3 h4 h5
    obtain ⟨fu, rfl⟩ : ∃ g, fu = g + 1 := ⟨fu - 1, by omega⟩
    rw [mf_Wide_addSmall_L4, show (67 : Int32) = nI 67 from rfl, nI_ifLe (by omega) (by omega), if_pos (by omega)]
    exact ⟨c, u, rfl, h4, h5, by simp [dr_0], fun i _ => rfl, fun i _ _ => by omega⟩
  | succ m ih =>
    intro fu k c u h1 h2 h3 h4 h5
    obtain ⟨fu, rfl⟩ : ∃ g, fu = g + 1 := ⟨fu - 1, by omega⟩
    have q1 := h3 k (by omega) (by omega)
    have e3 : (c + u k).toInt = c.toInt + di u k := by unfold di at *; rw [ni_add] <;> omega
    rw [mf_Wide_addSmall_L4, show (67 : Int32) = nI 67 from rfl, nI_ifLe (by omega) (by omega), if_neg (by omega)]
    simp only [sd_ixI (show k < nE by omega) (show k < 2147483648 by omega), sd_g_s, sd_let_s, nI_1, nI_clamp (show k < 2 ^ 31 by omega)]
    generalize hx : c + u k = x at e3
    have f1 := nb_i16 x
    have f3 := nb_ri16 x
    obtain ⟨c', u', g1, g2, g3, g4, g5, g6⟩ := ih fu (k + 1) (x >>> ((16 : Int32) &&& 31)) (upd u k (x &&& (65535 : Int32))) (by omega) (by omega) (fun i p q => by rw [di_upd, if_neg (by omega)]; exact h3 i (by omega) (by omega)) (by omega) (by omega)
    refine ⟨c', u', g1, g2, g3, ?_, ?_, ?_⟩
    · have g7 : u' k = x &&& (65535 : Int32) := by
        rw [g5 _ (Or.inl (by omega))]; exact if_pos rfl
      have g8 : dr 65536 (di (upd u k (x &&& (65535 : Int32)))) (k + 1) m = dr 65536 (di u) (k + 1) m :=
        dr_congr _ m _ (fun i p q => by rw [di_upd, if_neg (by omega)])
      rw [g8, f3] at g4
      rw [dr_s, dr_s, Int.pow_succ]
      have g9 : di u' k = x.toInt % 65536 := by unfold di; rw [g7]; exact f1
      rw [g9]
      have g10 := Int.emod_add_mul_ediv x.toInt 65536
      generalize dr 65536 (di u') (k + 1) m = y1 at *
      generalize dr 65536 (di u) (k + 1) m = y2 at *
      generalize (65536 : Int) ^ m = y4 at *
      generalize x.toInt % 65536 = z1 at *
      generalize x.toInt / 65536 = z2 at *
      grind
    · intro i p
      rw [g5 i (by omega)]
      exact if_neg (by omega)
    · intro i p q
      rcases Nat.eq_or_lt_of_le p with z | z
      · rw [← z]
        unfold di
        rw [g5 _ (Or.inl (by omega)), show upd u k (x &&& (65535 : Int32)) k = x &&& (65535 : Int32) from if_pos rfl, f1]
        omega
      · exact g6 i (by omega) (by omega)
theorem wa_addSmall {F : Nat} (hF : 18446744073709551616 ≤ F) (c : Int32) (u : Nat → Int32) (h3 : dr_in 65536 (di u) 0 67) (h4 : -1000 ≤ c.toInt) (h5 : c.toInt ≤ 1000) (h6 : -1000000 ≤ di u 67) (h7 : di u 67 ≤ 1000000) :
    ∃ u', mf_Wide_addSmall F 68 c u = some u' ∧ dr 65536 (di u') 0 68 = dr 65536 (di u) 0 68 + c.toInt ∧ dr_in 65536 (di u') 0 67 ∧ -1000 ≤ di u' 67 - di u 67 ∧ di u' 67 - di u 67 ≤ 1000 := by
  obtain ⟨c', u', g1, g2, g3, g4, g5, g6⟩ := wa_loop (nE := 68) (by omega) 67 F 0 c u (by omega) (by omega) h3 h4 h5
  unfold mf_Wide_addSmall
  rw [show (0 : Int32) = nI 0 from rfl, g1, sd_b2_s, show (67 : Int32) = nI 67 from rfl]
  simp only [nI_clamp (show 67 < 2 ^ 31 by omega), sd_ixI (show 67 < 68 by omega) (by omega), sd_g_s, sd_let_s]
  have a1 : u' 67 = u 67 := g5 _ (Or.inr (by omega))
  have a2 : (u' 67 + c').toInt = di u 67 + c'.toInt := by
    rw [a1]; unfold di at *; rw [ni_add] <;> omega
  refine ⟨_, rfl, ?_, ?_, ?_, ?_⟩
  · rw [dr_top _ _ 67 0, dr_top _ _ 67 0, Nat.zero_add, di_upd, if_pos rfl, a2]
    have e1 : dr 65536 (di (upd u' 67 (u' 67 + c'))) 0 67 = dr 65536 (di u') 0 67 :=
      dr_congr _ 67 _ (fun i p q => by rw [di_upd, if_neg (by omega)])
    rw [e1, Int.add_mul]
    omega
  · intro i p q
    rw [di_upd, if_neg (by omega)]
    exact g6 i p q
  · rw [di_upd, if_pos rfl, a2]; omega
  · rw [di_upd, if_pos rfl, a2]; omega
/-- topOf: the places from j on are 0 -/
theorem wo_loop {n : Nat} (hn : n < 2147483648) (u : Nat → Int32) : ∀ (m fu : Nat), m ≤ n → m < fu → ∃ j, j ≤ m ∧ mf_Wide_topOf_L5 n u fu (dnI m) = some (dnI j) ∧ (∀ i, j ≤ i → i < m → u i = 0) ∧ (j = 0 ∨ u (j - 1) ≠ 0) := by
  intro m
  induction m with
  | zero =>
    intro fu h1 h2
    obtain ⟨fu, rfl⟩ : ∃ g, fu = g + 1 := ⟨fu - 1, by omega⟩
    rw [mf_Wide_topOf_L5, if_pos dnI_n0]
    exact ⟨0, by omega, rfl, fun i _ _ => by omega, Or.inl rfl⟩
  | succ m ih =>
    intro fu h1 h2
    obtain ⟨fu, rfl⟩ : ∃ g, fu = g + 1 := ⟨fu - 1, by omega⟩
    rw [mf_Wide_topOf_L5, dnI_s, if_neg (dnI_np (by omega)), sd_g_t (sd_ixI (by omega) (by omega)), nI_clamp (by omega), sd_let_s, dnI_d]
    by_cases h : u m = 0
    · rw [if_pos h]
      obtain ⟨j, a1, a2, a3, a4⟩ := ih fu (by omega) (by omega)
      refine ⟨j, by omega, a2, fun i p q => ?_, a4⟩
      rcases Nat.lt_or_ge i m with z | z
      · exact a3 i p z
      · rw [show i = m by omega]; exact h
    · rw [if_neg h]
      exact ⟨m + 1, by omega, rfl, fun i _ _ => by omega, Or.inr h⟩
theorem wo_top {F n : Nat} (hF : 18446744073709551616 ≤ F) (hn : n < 2147483648) (u : Nat → Int32) : ∃ j, j ≤ n ∧ mf_Wide_topOf F n u = some (dnI j) ∧ (∀ i, j ≤ i → i < n → u i = 0) ∧ (j = 0 ∨ u (j - 1) ≠ 0) := by
  obtain ⟨j, a1, a2, a3, a4⟩ := wo_loop hn u n F (by omega) (by omega)
  refine ⟨j, a1, ?_, a3, a4⟩
  unfold mf_Wide_topOf
  rw [sd_let_s]
  have e : nI n - (1 : Int32) = dnI n := by
    rw [← dnI_d, ni_eq, Int32.toInt_sub, Int32.toInt_add]; rfl
  rw [e, a2]
  rfl
/-- putLong -/
theorem wp_loop {n : Nat} (hn : n < 2147483648) : ∀ (m fu k v : Nat) (u : Nat → Int32), k + m = n → m < fu → v < 65536 ^ m → v < 18446744073709551616 → (∀ i, k ≤ i → i < n → u i = 0) →
    ∃ u', mf_Wide_putLong_L6 n fu (lN v) (nI k) u = some u' ∧ dr 65536 (di u') k m = v ∧ dr_in 65536 (di u') k m ∧ (∀ i, i < k ∨ n ≤ i → u' i = u i) := by
  intro m
  induction m with
  | zero =>
    intro fu k v u h1 h2 h3 h4 h5
    obtain ⟨fu, rfl⟩ : ∃ g, fu = g + 1 := ⟨fu - 1, by omega⟩
    rw [mf_Wide_putLong_L6, nI_ifLe (by omega) (by omega), if_pos (by omega)]
    refine ⟨u, rfl, ?_, fun i _ _ => by omega, fun i _ => rfl⟩
    rw [Nat.pow_zero] at h3
    rw [dr_0, show v = 0 by omega]; rfl
  | succ m ih =>
    intro fu k v u h1 h2 h3 h4 h5
    obtain ⟨fu, rfl⟩ : ∃ g, fu = g + 1 := ⟨fu - 1, by omega⟩
    rw [mf_Wide_putLong_L6, nI_ifLe (by omega) (by omega), if_neg (by omega)]
    by_cases h0 : v = 0
    · subst h0
      rw [if_pos (show lN 0 = (0 : Int64) from rfl)]
      refine ⟨u, rfl, dr_zero _ _ _ (fun i p q => ?_), fun i p q => ?_, fun i _ => rfl⟩
      · unfold di; rw [h5 i p (by omega)]; rfl
      · unfold di; rw [h5 i p (by omega)]; exact ⟨by decide, by decide⟩
    · have v0 : ¬ lN v = (0 : Int64) := fun z => by
        have y := wb_tn (n := v) (by omega)
        rw [z] at y
        exact h0 y.symm
      rw [if_neg v0, sd_g_t (sd_ixI (by omega) (by omega)), sd_let_s, sd_let_s, sd_let_s, nI_1, nI_clamp (by omega)]
      have e1 : lN v &&& (65535 : Int64) = lN (v % 65536) := wb_mask (k := 16) (by omega) (by omega)
      have e2 : ((lN v).toUInt64 >>> ((16 : Int32).toInt64.toUInt64 &&& Int64.toUInt64 63)).toInt64 = lN (v / 65536) := wb_shr (k := 16) (by omega) (by omega)
      rw [e1, e2, lN_i]
      rw [Nat.pow_succ] at h3
      obtain ⟨u', a1, a2, a3, a4⟩ := ih fu (k + 1) (v / 65536) (upd u k (nI (v % 65536))) (by omega) (by omega) (by omega) (by omega) (fun i p q => by
        rw [show upd u k (nI (v % 65536)) i = u i from if_neg (by omega)]; exact h5 i (by omega) q)
      have b1 : di u' k = (v % 65536 : Nat) := by
        unfold di
        rw [a4 k (Or.inl (by omega)), show upd u k (nI (v % 65536)) k = nI (v % 65536) from if_pos rfl, nI_toInt (by omega)]
      refine ⟨u', a1, ?_, fun i p q => ?_, fun i p => ?_⟩
      · rw [dr_s, a2, b1]; omega
      · rcases Nat.eq_or_lt_of_le p with z | z
        · rw [← z, b1]; omega
        · exact a3 i (by omega) (by omega)
      · rw [a4 i (by omega)]; exact if_neg (by omega)
theorem wp_put {F n k : Nat} (hF : 18446744073709551616 ≤ F) (hn : n < 2147483648) (hk : k ≤ n) (v : Nat) (u : Nat → Int32) (h3 : v < 65536 ^ (n - k)) (h4 : v < 18446744073709551616) (h5 : ∀ i, k ≤ i → i < n → u i = 0) :
    ∃ u', mf_Wide_putLong F n (nI k) (lN v) u = some u' ∧ dr 65536 (di u') k (n - k) = v ∧ dr_in 65536 (di u') k (n - k) ∧ (∀ i, i < k ∨ n ≤ i → u' i = u i) := by
  obtain ⟨u', a1, a2, a3, a4⟩ := wp_loop hn (n - k) F k v u (by omega) (by omega) h3 h4 h5
  refine ⟨u', ?_, a2, a3, a4⟩
  unfold mf_Wide_putLong
  rw [a1]; rfl
