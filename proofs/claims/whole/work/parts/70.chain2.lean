/-! the numbers of the chain: fractions, and the class's chain -/
theorem pf_loop {n : Nat} (hn : n ≤ 24) (F : Nat) : ∀ (r fu fu' k : Nat) (x y w : Int64), k + r = n → r + 2 < fu → r < fu' → 0 < y.toInt → -9223372036854775808 < x.toInt →
    ∃ tg v tg' x' y', mf_Desk_partialOfFraction_L12 (nI n) F fu x y w (nI k) = some (tg, v) ∧ mf_Model_fractionPartial_L9 (nI n) F fu' x y (nI k) = some (tg', x', y') ∧ ((tg = 0 ∧ tg' = 0) ∨ (tg = 1 ∧ tg' = 1 ∧ mf_Math_floorDiv F x' y' = some v)) := by
  intro r
  induction r with
  | zero =>
    intro fu fu' k x y w h1 h2 h3 h4 h5
    obtain ⟨fu, rfl⟩ : ∃ g, fu = g + 1 + 1 := ⟨fu - 2, by omega⟩
    obtain ⟨fu', rfl⟩ : ∃ g, fu' = g + 1 := ⟨fu' - 1, by omega⟩
    obtain rfl : k = n := by omega
    obtain ⟨z, e1, e2⟩ := fd_floorDiv F (x := x) (y := y) h4 h5
    obtain ⟨m, e3, e4⟩ := fd_floorMod F (x := x) (y := y) h4
    have y0 : ¬ y = (0 : Int64) := fun q => by rw [q] at h4; exact absurd h4 (by decide)
    rw [mf_Desk_partialOfFraction_L12, mf_Model_fractionPartial_L9, nI_ifLt (by omega) (by omega), if_neg (by omega), if_neg y0, e1, sd_b1_s, e3, sd_b1_s, sd_let_s, nI_1, mf_Desk_partialOfFraction_L12, nI_ifLt (by omega) (by omega), if_pos (by omega), nI_ifLe (by omega) (by omega), if_pos (Nat.le_refl _)]
    exact ⟨1, z, 1, x, y, rfl, rfl, Or.inr ⟨rfl, rfl, e1⟩⟩
  | succ r ih =>
    intro fu fu' k x y w h1 h2 h3 h4 h5
    obtain ⟨fu, rfl⟩ : ∃ g, fu = g + 1 := ⟨fu - 1, by omega⟩
    obtain ⟨fu', rfl⟩ : ∃ g, fu' = g + 1 := ⟨fu' - 1, by omega⟩
    obtain ⟨z, e1, e2⟩ := fd_floorDiv F (x := x) (y := y) h4 h5
    obtain ⟨m, e3, e4⟩ := fd_floorMod F (x := x) (y := y) h4
    have y0 : ¬ y = (0 : Int64) := fun q => by rw [q] at h4; exact absurd h4 (by decide)
    have hm : 0 ≤ m.toInt := by rw [e4]; exact Int.emod_nonneg _ (by omega)
    rw [mf_Desk_partialOfFraction_L12, mf_Model_fractionPartial_L9, nI_ifLt (by omega) (by omega), if_neg (by omega), if_neg y0, e1, sd_b1_s, e3, sd_b1_s, sd_b1_s, sd_let_s, nI_1, nI_ifLe (by omega) (by omega), if_neg (by omega)]
    by_cases q : m = (0 : Int64)
    · obtain ⟨fu, rfl⟩ : ∃ g, fu = g + 1 := ⟨fu - 1, by omega⟩
      rw [if_pos q, mf_Desk_partialOfFraction_L12, nI_ifLt (by omega) (by omega), if_neg (by omega), if_pos q]
      exact ⟨0, z, 0, x, y, rfl, rfl, Or.inl ⟨rfl, rfl⟩⟩
    · have m0 : 0 < m.toInt := by
        rcases Int.lt_or_le 0 m.toInt with w | w
        · exact w
        · exact absurd (nj_eq.mpr (show m.toInt = (0 : Int64).toInt by show m.toInt = 0; omega)) q
      rw [if_neg q, sd_let_s]
      exact ih fu fu' (k + 1) y m z (by omega) (by omega) (by omega) m0 (by omega)
theorem pf_both {F n : Nat} (hF : 18446744073709551616 ≤ F) (hn : n ≤ 24) {x y : Int64} (h4 : 0 < y.toInt) (h5 : -9223372036854775808 < x.toInt) (o0 o1 o2 o3 : Int32) : ∃ v, mf_Desk_partialOfFraction F x y (nI n) = some v ∧ mf_Model_fractionPartial F x y (nI n) o0 o1 o2 o3 = some v := by
  obtain ⟨tg, v, tg', x', y', e1, e2, e3⟩ := pf_loop hn F n F F 0 x y 0 (by omega) (by omega) (by omega) h4 h5
  have e1' : mf_Desk_partialOfFraction_L12 (nI n) F F x y 0 0 = some (tg, v) := e1
  have e2' : mf_Model_fractionPartial_L9 (nI n) F F x y 0 = some (tg', x', y') := e2
  unfold mf_Desk_partialOfFraction mf_Model_fractionPartial
  rw [e1', sd_b2_s, e2', sd_b3_s]
  rcases e3 with ⟨a, b⟩ | ⟨a, b, c⟩
  · rw [a, b, if_pos rfl, if_pos rfl]; exact ⟨_, rfl, rfl⟩
  · rw [a, b, if_neg (by decide), if_neg (by decide), c, sd_b1_s]; exact ⟨v, rfl, rfl⟩
/-- one digit of a quotient -/
theorem ch_take {F k t V D : Nat} (hF : 18446744073709551616 ≤ F) (hkt : k + t + 1 < 66) {u w : Nat → Int32} (hu : dr_in 65536 (di u) 0 66) (hw : dr_in 65536 (di w) 0 66) (wt : w t ≠ 0) (hV : dr 65536 (di u) k (t + 2) = (V : Int)) (hD : dr 65536 (di w) 0 (t + 1) = (D : Int)) (hVD : V < D * 65536) :
    ∃ u', mf_Chain_takeAsOften F (nI k) (nI t) u w = some (nI (V / D), u') ∧ dr 65536 (di u') k (t + 2) = ((V % D : Nat) : Int) ∧ dr_in 65536 (di u') k (t + 2) ∧ (∀ i, i < k ∨ k + t + 1 < i → u' i = u i) := by
  have hui : dr_in 65536 (di u) k (t + 2) := fun i p q => hu i (by omega) (by omega)
  have hwi : dr_in 65536 (di w) 0 (t + 1) := fun i p q => hw i (by omega) (by omega)
  have wd0 : 0 < di w t := by
    have := hw t (by omega) (by omega)
    rcases Int.lt_or_le 0 (di w t) with z | z
    · exact z
    · exact absurd (ni_eq.mpr (show (w t).toInt = (0 : Int32).toInt by show di w t = 0; omega)) wt
  have hD0 : 0 < D := by
    rw [dr_top, Nat.zero_add] at hD
    have p1 := dr_pos 65536 (by decide) t 0 (fun i p q => hwi i p (by omega))
    have p2 : 1 * (65536 : Int) ^ t ≤ di w t * 65536 ^ t := Int.mul_le_mul_of_nonneg_right (by omega) (Int.le_of_lt (Int.pow_pos (by decide)))
    have p3 : (0 : Int) < 65536 ^ t := Int.pow_pos (by decide)
    generalize di w t * 65536 ^ t = y at *
    generalize (65536 : Int) ^ t = y2 at *
    omega
  have qlt : V / D < 65536 := by rw [Nat.div_lt_iff_lt_mul hD0, Nat.mul_comm]; exact hVD
  -- the guess
  have guess : ∃ g, mf_Wide_guess F 66 66 (nI k) (nI t) u w = some (nI g) ∧ (∀ q, q ≤ 65535 → q * D ≤ V → q ≤ g) ∧ g * D ≤ V + D ∧ g ≤ 65535 := by
    rcases Nat.eq_zero_or_pos t with z | z
    · subst z
      obtain ⟨d, hd⟩ := Int.eq_ofNat_of_zero_le (hwi 0 (by omega) (by omega)).1
      obtain ⟨b, hb⟩ := Int.eq_ofNat_of_zero_le (hui k (by omega) (by omega)).1
      obtain ⟨a, ha⟩ := Int.eq_ofNat_of_zero_le (hui (k + 1) (by omega) (by omega)).1
      have l1 := (hwi 0 (by omega) (by omega)).2
      have l2 := (hui k (by omega) (by omega)).2
      have l3 := (hui (k + 1) (by omega) (by omega)).2
      rw [dr_s, dr_0, hd] at hD
      rw [dr_s, dr_s, dr_0, ha, hb] at hV
      have eD : D = d := by omega
      have eV : V = a * 65536 + b := by omega
      obtain ⟨c, hc1, hc2⟩ : ∃ c : Nat, ((0 + k = 0 ∧ c = 0) ∨ (0 < 0 + k ∧ di u (0 + k - 1) = c)) ∧ c < 65536 := by
        rcases Nat.eq_zero_or_pos k with y | y
        · exact ⟨0, Or.inl ⟨by omega, rfl⟩, by omega⟩
        · have h1 := hu (0 + k - 1) (by omega) (by omega)
          obtain ⟨c, hc⟩ := Int.eq_ofNat_of_zero_le h1.1
          exact ⟨c, Or.inr ⟨by omega, hc⟩, by omega⟩
      have g := wg_guess F (nT := 66) (nR := 66) (off := k) (top := 0) (a := a) (b := b) (c := c) (d := d) (e := 0) (cT := u) (cR := w) (by omega) (by omega) (by omega) (by rw [← ha]; congr 1; omega) (by rw [← hb]; congr 1; omega) hc1 hd (Or.inl ⟨rfl, rfl⟩) (by omega) (by omega) hc2 (by omega) (by omega) (by omega)
      have e : (a * 4294967296 + b * 65536 + c) / (d * 65536 + 0) = V / D := by
        rw [eD, eV, Nat.add_zero, Nat.mul_comm d 65536, ← Nat.div_div_eq_div_mul]
        congr 1
        omega
      rw [e, Nat.min_eq_left (by omega)] at g
      refine ⟨V / D, g, fun q _ h => (Nat.le_div_iff_mul_le hD0).mpr h, ?_, by omega⟩
      have := Nat.div_mul_le_self V D
      omega
    · obtain ⟨s, rfl⟩ : ∃ s, t = s + 1 := ⟨t - 1, by omega⟩
      obtain ⟨d, e, d1, e1, dl, el, L1, L2⟩ := dr_top2 (m := s) hwi hD
      obtain ⟨a, b, c, a1, b1, c1, al, bl, cl, U1, U2⟩ := dr_top3 (m := s) hui hV
      rw [show 0 + s + 1 = s + 1 by omega] at d1
      rw [show 0 + s = s by omega] at e1
      have d0 : 0 < d := by omega
      have g := wg_guess F (nT := 66) (nR := 66) (off := k) (top := s + 1) (a := a) (b := b) (c := c) (d := d) (e := e) (cT := u) (cR := w) (by omega) (by omega) (by omega)
        (by rw [← a1]; congr 1; omega) (by rw [← b1]; congr 1; omega) (Or.inr ⟨by omega, by rw [← c1]; congr 1; omega⟩) d1 (Or.inr ⟨by omega, by rw [← e1]; congr 1⟩) al bl cl dl el d0
      obtain ⟨g1, g2, g3⟩ := gs_bound U1 U2 L1 L2 (by omega) rfl
      exact ⟨_, g, g1, g2, g3⟩
  obtain ⟨g, g0, g1, g2, g3⟩ := guess
  have dm := Nat.div_add_mod V D
  have ml := Nat.mod_lt V hD0
  have gq : V / D ≤ g := g1 (V / D) (by omega) (Nat.div_mul_le_self V D)
  have gq2 : g ≤ V / D + 1 := by
    rcases Nat.lt_or_ge (V / D + 1) g with z | z
    · exfalso
      have : (V / D + 2) * D ≤ g * D := Nat.mul_le_mul_right _ z
      have e : (V / D + 2) * D = D * (V / D) + 2 * D := by generalize V / D = x; grind
      omega
    · exact z
  have ut := hui (k + (t + 1)) (by omega) (by omega)
  obtain ⟨x, t1, t2, t3, t4, t5, t6⟩ := wt_take (F := F) (off := k) (nT := 66) (nR := 66) (s := 0) (m := t + 1) hF (nI g) u w (by omega) (by omega) (by omega) (by omega) (by rw [nI_toInt (by omega)]; omega) (fun i p q => by have := hwi i p (by omega); omega) (by rw [show 0 + (t + 1) + k = k + (t + 1) by omega]; omega)
  rw [show 0 + (t + 1) - 1 = t by omega] at t1
  rw [show 0 + k = k by omega] at t2 t3 t4
  rw [show 0 + (t + 1) + k = k + (t + 1) by omega] at t5 t6
  rw [show t + 1 + 1 = t + 2 from rfl, hV, hD, nI_toInt (by omega)] at t2
  have t1' : mf_Wide_take F 66 66 (nI k) 0 (nI t) (nI g) u w = some x := t1
  unfold mf_Chain_takeAsOften
  rw [g0, sd_b1_s, t1', sd_b1_s, nI_add, nI_1, sd_g_t (sd_ixI (by omega) (by omega)), nI_clamp (by omega), show t + k + 1 = k + (t + 1) by omega]
  have sg := dr_sgn (f := di x) (k := k) (m := t + 1) t4
  have fin : ∀ (y : Nat → Int32), dr_in 65536 (di y) k (t + 1) → dr 65536 (di y) k (t + 2) = ((V % D : Nat) : Int) → dr_in 65536 (di y) k (t + 2) := by
    intro y h1 h2
    have s1 := (dr_sgn (f := di y) (k := k) (m := t + 1) h1).mpr (by rw [show t + 1 + 1 = t + 2 from rfl, h2]; omega)
    have l1 := dr_pos 65536 (by decide) (t + 1) k h1
    have wl := dr_lt 65536 (by decide) (t + 1) 0 hwi
    rw [hD] at wl
    rw [show t + 2 = t + 1 + 1 from rfl, dr_top] at h2
    intro i p q
    rcases Nat.lt_or_ge i (k + (t + 1)) with z | z
    · exact h1 i p z
    · rw [show i = k + (t + 1) by omega]
      refine ⟨s1, ?_⟩
      rcases Int.lt_or_le 0 (di y (k + (t + 1))) with r | r
      · exfalso
        have m1 : 1 * (65536 : Int) ^ (t + 1) ≤ di y (k + (t + 1)) * 65536 ^ (t + 1) := Int.mul_le_mul_of_nonneg_right (by omega) (Int.le_of_lt (Int.pow_pos (by decide)))
        generalize di y (k + (t + 1)) * (65536 : Int) ^ (t + 1) = y1 at *
        generalize (65536 : Int) ^ (t + 1) = y2 at *
        omega
      · omega
  by_cases c : g = V / D
  · have val : dr 65536 (di x) k (t + 2) = ((V % D : Nat) : Int) := by
      rw [t2, c, ← Int.natCast_mul, Nat.mul_comm (V / D) D]; omega
    have s0 : (0 : Int32) ≤ x (k + (t + 1)) := ni_le.mpr (sg.mpr (by rw [show t + 1 + 1 = t + 2 from rfl, val]; omega))
    rw [if_pos s0, sd_b2_s, c]
    exact ⟨x, rfl, val, fin x t4 val, fun i p => t3 i (by omega)⟩
  · have gg : g = V / D + 1 := by omega
    have val : dr 65536 (di x) k (t + 2) = ((V % D : Nat) : Int) - D := by
      rw [t2, gg, ← Int.natCast_mul, Nat.add_mul, Nat.one_mul, Nat.mul_comm (V / D) D]; omega
    have s0 : ¬ (0 : Int32) ≤ x (k + (t + 1)) := fun z => by
      have := sg.mp (ni_le.mp z)
      rw [show t + 1 + 1 = t + 2 from rfl, val] at this
      omega
    obtain ⟨y, a1, a2, a3, a4, a5, a6⟩ := wt_take (F := F) (off := k) (nT := 66) (nR := 66) (s := 0) (m := t + 1) hF (-1) x w (by omega) (by omega) (by omega) (by omega) (by decide) (fun i p q => by have := hwi i p (by omega); omega) (by rw [show 0 + (t + 1) + k = k + (t + 1) by omega]; omega)
    rw [show 0 + (t + 1) - 1 = t by omega] at a1
    rw [show 0 + k = k by omega] at a2 a3 a4
    rw [show t + 1 + 1 = t + 2 from rfl, val, hD, show (-1 : Int32).toInt = -1 from rfl] at a2
    have a1' : mf_Wide_take F 66 66 (nI k) 0 (nI t) (-1) x w = some y := a1
    have val2 : dr 65536 (di y) k (t + 2) = ((V % D : Nat) : Int) := by rw [a2]; omega
    rw [if_neg s0, a1', sd_b1_s, sd_let_s, sd_b2_s, gg, dnI_d, dnI_s]
    exact ⟨y, rfl, val2, fin y a4 val2, fun i p => by rw [a3 i (by omega), t3 i (by omega)]⟩
