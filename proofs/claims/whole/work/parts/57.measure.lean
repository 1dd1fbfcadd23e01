/-! the reference's root, quotient and ENDS -/
theorem cmpI_neg {v w : Nat} {α : Type} {x y : α} : (if cmpI v w < 0 then x else y) = if v < w then x else y := by
  unfold cmpI
  by_cases h1 : v = w
  · rw [if_pos h1, if_neg (by decide), if_neg (by omega)]
  · rw [if_neg h1]
    by_cases h2 : w ≤ v
    · rw [if_pos h2, if_neg (by decide), if_neg (by omega)]
    · rw [if_neg h2, if_pos (by decide), if_pos (by omega)]
theorem rk_loop {F V : Nat} (hF : 18446744073709551616 ≤ F) {sq : Nat → Int64} (hs : ww sq V) (hV : V * 8 + 8 < 4294967296 ^ 76) : ∀ (k fu : Nat) (pt ro re : Nat → Int64) (R Q : Nat), k ≤ 1216 → k < fu → ww ro R → ww re Q → R * R + Q = V / 4 ^ k → Q ≤ 2 * R →
    ∃ pt' ro' re' R', mf_Model_takeRoot_L30 F sq fu (dnI k) pt ro re = some (pt', ro', re') ∧ ww ro' R' ∧ R' * R' ≤ V ∧ V < (R' + 1) * (R' + 1) := by
  intro k
  induction k with
  | zero =>
    intro fu pt ro re R Q h1 h2 h3 h4 h5 h6
    obtain ⟨fu, rfl⟩ : ∃ g, fu = g + 1 := ⟨fu - 1, by omega⟩
    rw [mf_Model_takeRoot_L30, if_pos dnI_n0]
    rw [Nat.pow_zero, Nat.div_one] at h5
    refine ⟨pt, ro, re, R, rfl, h3, by omega, ?_⟩
    have : (R + 1) * (R + 1) = R * R + 2 * R + 1 := by grind
    omega
  | succ k ih =>
    intro fu pt ro re R Q h1 h2 h3 h4 h5 h6
    obtain ⟨fu, rfl⟩ : ∃ g, fu = g + 1 := ⟨fu - 1, by omega⟩
    have p0 : 4 ^ k = 2 ^ (2 * k) := by rw [Nat.pow_mul]
    have y2 : V / 2 ^ (2 * k + 1) = V / 2 ^ (2 * k) / 2 := by rw [Nat.pow_succ, Nat.div_div_eq_div_mul]
    have y4 : V / 4 ^ (k + 1) = V / 2 ^ (2 * k) / 4 := by rw [Nat.pow_succ, p0, Nat.div_div_eq_div_mul]
    have yv : V / 2 ^ (2 * k) ≤ V := Nat.div_le_self _ _
    rw [y4] at h5
    have rr : R ≤ R * R := Nat.le_mul_self R
    have b1 := ri_bit F hs (k := 2 * k + 1) (by omega)
    have b0 := ri_bit F hs (k := 2 * k) (by omega)
    rw [y2] at b1
    rw [p0] at ih
    generalize V / 2 ^ (2 * k) = y at *
    have by1 : y / 2 % 2 ≤ 1 := by omega
    have by0 : y % 2 ≤ 1 := by omega
    obtain ⟨re1, t1, w1⟩ := rt_twice hF h4 by1 (by omega)
    obtain ⟨re2, t2, w2⟩ := rt_twice hF w1 by0 (by omega)
    obtain ⟨pa, t3, w3⟩ := rc_copy hF h3 pt
    obtain ⟨pb, t4, w4⟩ := rt_twice hF w3 (show 0 ≤ 1 by omega) (by omega)
    obtain ⟨pc, t5, w5⟩ := rt_twice hF w4 (show 1 ≤ 1 by omega) (by omega)
    have t4' : mf_Model_twice F 0 pa = some pb := t4
    have t5' : mf_Model_twice F 1 pb = some pc := t5
    rw [mf_Model_takeRoot_L30, dnI_s, if_neg (dnI_np (by omega)), nI_2m, nI_1, b1, sd_b1_s, t1, sd_b1_s, b0, sd_b1_s, t2, sd_b1_s, t3, sd_b1_s, t4', sd_b1_s, t5', sd_b1_s, rp_compare hF w2 w5, sd_b1_s, cmpI_neg, dnI_d]
    by_cases c : 2 * (2 * Q + y / 2 % 2) + y % 2 < 2 * (2 * R + 0) + 1
    · obtain ⟨ro1, t6, w6⟩ := rt_twice hF h3 (show 0 ≤ 1 by omega) (by omega)
      have t6' : mf_Model_twice F 0 ro = some ro1 := t6
      rw [if_pos c, sd_b1_s, if_pos rfl, sd_b1_s, if_pos rfl, sd_b1_s, t6', sd_b1_s, sd_let_s]
      exact ih fu pc ro1 re2 (2 * R + 0) (2 * (2 * Q + y / 2 % 2) + y % 2) (by omega) (by omega) w6 w2 (by
        have : (2 * R + 0) * (2 * R + 0) = 4 * (R * R) := by grind
        omega) (by omega)
    · obtain ⟨re3, t7, w7⟩ := rb_sub hF w2 w5 (by omega)
      obtain ⟨ro1, t6, w6⟩ := rt_twice hF h3 (show 1 ≤ 1 by omega) (by omega)
      have t6' : mf_Model_twice F 1 ro = some ro1 := t6
      rw [if_neg c, sd_b1_s, if_neg (by decide), t7, sd_b1_s, sd_b1_s, if_neg (by decide), sd_b1_s, t6', sd_b1_s, sd_let_s]
      exact ih fu pc ro1 re3 (2 * R + 1) (2 * (2 * Q + y / 2 % 2) + y % 2 - (2 * (2 * R + 0) + 1)) (by omega) (by omega) w6 w7 (by
        have : (2 * R + 1) * (2 * R + 1) = 4 * (R * R) + 4 * R + 1 := by grind
        omega) (by omega)
theorem rk_root {F V : Nat} (hF : 18446744073709551616 ≤ F) {sq : Nat → Int64} (hs : ww sq V) (hV : V * 8 + 8 < 4294967296 ^ 76) (o0 o1 o2 o3 : Int32) (ro re pt : Nat → Int64) :
    ∃ ro' re' pt' R, mf_Model_takeRoot F o0 o1 o2 o3 ro re sq pt = some (ro', re', pt') ∧ ww ro' R ∧ R * R ≤ V ∧ V < (R + 1) * (R + 1) := by
  obtain ⟨r1, t1, w1⟩ := rs_set hF (v := 0) (by omega) ro
  obtain ⟨r2, t2, w2⟩ := rs_set hF (v := 0) (by omega) re
  obtain ⟨b, t3, w3, w4⟩ := rl_bits hF hs
  have t1' : mf_Model_set F 0 ro = some r1 := t1
  have t2' : mf_Model_set F 0 re = some r2 := t2
  unfold mf_Model_takeRoot
  have d1 : nI (b + 1) / (2 : Int32) = nI ((b + 1) / 2) := pk_div (d := 2) (by omega) (by omega) (by omega)
  have d2 : nI ((b + 1) / 2) - (1 : Int32) = dnI ((b + 1) / 2) := by
    rw [← dnI_d, ni_eq, Int32.toInt_sub, Int32.toInt_add]; rfl
  rw [t1', sd_b1_s, t2', sd_b1_s, t3, sd_b1_s, sd_let_s, nI_1, d1, d2]
  have z : V / 4 ^ ((b + 1) / 2) = 0 := by
    apply Nat.div_eq_of_lt
    have : 2 ^ b ≤ 2 ^ (2 * ((b + 1) / 2)) := Nat.pow_le_pow_right (by omega) (by omega)
    rw [Nat.pow_mul] at this
    exact Nat.lt_of_lt_of_le w3.1 this
  obtain ⟨pt', ro', re', R', g1, g2, g3, g4⟩ := rk_loop hF hs hV ((b + 1) / 2) F pt r1 r2 0 0 (by omega) (by omega) w1 w2 (by rw [z]) (by omega)
  rw [g1, sd_b3_s]
  exact ⟨ro', re', pt', R', rfl, g2, g3, g4⟩
/-- divideRoot -/
theorem rd_loop {F R d : Nat} (hF : 18446744073709551616 ≤ F) {ro : Nat → Int64} (hr : ww ro R) (hR : R * 8 + 8 < 4294967296 ^ 76) (hd0 : 0 < d) (hd : d ≤ 1000000000) : ∀ (k fu l P : Nat) (pt : Nat → Int64), k ≤ 2432 → k < fu → l < d → ww pt P → R / 2 ^ k = d * P + l →
    ∃ pt', mf_Model_divideRoot_L21 F ro (lN d) fu (lN l) (dnI k) pt = some pt' ∧ ww pt' (R / d) := by
  intro k
  induction k with
  | zero =>
    intro fu l P pt h1 h2 h3 h4 h5
    obtain ⟨fu, rfl⟩ : ∃ g, fu = g + 1 := ⟨fu - 1, by omega⟩
    rw [mf_Model_divideRoot_L21, if_pos dnI_n0]
    rw [Nat.pow_zero, Nat.div_one] at h5
    have e : R / d = P := by
      rw [h5, Nat.mul_add_div hd0, Nat.div_eq_of_lt h3, Nat.add_zero]
    exact ⟨pt, rfl, by rw [e]; exact h4⟩
  | succ k ih =>
    intro fu l P pt h1 h2 h3 h4 h5
    obtain ⟨fu, rfl⟩ : ∃ g, fu = g + 1 := ⟨fu - 1, by omega⟩
    have y2 : R / 2 ^ (k + 1) = R / 2 ^ k / 2 := by rw [Nat.pow_succ, Nat.div_div_eq_div_mul]
    have yv : R / 2 ^ k ≤ R := Nat.div_le_self _ _
    rw [y2] at h5
    have b0 := ri_bit F hr (k := k) (by omega)
    generalize R / 2 ^ k = y at *
    have PP : P ≤ d * P := Nat.le_mul_of_pos_left P hd0
    rw [mf_Model_divideRoot_L21, dnI_s, if_neg (dnI_np (by omega)), b0, sd_b1_s, sd_let_s, nI_l (by omega), show (2 : Int64) = lN 2 from rfl, lN_mul, lN_add, lN_ifLt (by omega) (by omega), dnI_d]
    by_cases c : 2 * l + y % 2 < d
    · obtain ⟨p1, t6, w6⟩ := rt_twice hF h4 (show 0 ≤ 1 by omega) (by omega)
      have t6' : mf_Model_twice F 0 pt = some p1 := t6
      rw [if_pos c, sd_b1_s, if_pos rfl, sd_b1_s, if_pos rfl, sd_b1_s, t6', sd_b1_s, sd_let_s]
      exact ih fu (2 * l + y % 2) (2 * P + 0) p1 (by omega) (by omega) c w6 (by
        have : d * (2 * P + 0) = 2 * (d * P) := by grind
        omega)
    · obtain ⟨p1, t6, w6⟩ := rt_twice hF h4 (show 1 ≤ 1 by omega) (by omega)
      have t6' : mf_Model_twice F 1 pt = some p1 := t6
      rw [if_neg c, sd_b1_s, if_neg (by decide), sd_let_s, lN_sub (by omega), sd_b1_s, if_neg (by decide), sd_b1_s, t6', sd_b1_s, sd_let_s]
      exact ih fu (2 * l + y % 2 - d) (2 * P + 1) p1 (by omega) (by omega) (by omega) w6 (by
        have : d * (2 * P + 1) = 2 * (d * P) + d := by grind
        omega)
theorem rd_divide {F R d : Nat} (hF : 18446744073709551616 ≤ F) {ro : Nat → Int64} (hr : ww ro R) (hR : R * 8 + 8 < 4294967296 ^ 76) (hd0 : 0 < d) (hd : d ≤ 1000000000) (o0 o1 o2 o3 : Int32) (pt : Nat → Int64) :
    ∃ pt', mf_Model_divideRoot F (lN d) o0 o1 o2 o3 ro pt = some pt' ∧ ww pt' (R / d) := by
  obtain ⟨r1, t1, w1⟩ := rs_set hF (v := 0) (by omega) pt
  obtain ⟨b, t3, w3, w4⟩ := rl_bits hF hr
  have t1' : mf_Model_set F 0 pt = some r1 := t1
  unfold mf_Model_divideRoot
  have d2 : nI b - (1 : Int32) = dnI b := by
    rw [← dnI_d, ni_eq, Int32.toInt_sub, Int32.toInt_add]; rfl
  rw [t1', sd_b1_s, t3, sd_b1_s, sd_let_s, d2]
  obtain ⟨pt', g1, g2⟩ := rd_loop hF hr hR hd0 hd b F 0 0 r1 (by omega) (by omega) hd0 w1 (by rw [Nat.div_eq_of_lt w3.1]; rfl)
  have g1' : mf_Model_divideRoot_L21 F ro (lN d) F 0 (dnI b) r1 = some pt' := g1
  rw [g1', sd_b1_s]
  exact ⟨pt', rfl, g2⟩
theorem pw_2048 : (2 : Nat) ^ 2048 = 65536 ^ 128 := by decide +kernel
theorem pw_V : 1000000000 * 1000000000 * 1000000000 * 65536 ^ 128 * 8 + 8 < 4294967296 ^ 76 := by decide +kernel
/-- measure: the size of the term t -/
theorem me_measure {F t n d r : Nat} (hF : 18446744073709551616 ≤ F) (ht : t < 64) (o0 o1 o2 o3 : Int32) {cn cd cr : Nat → Int64} (en : (cn t).toInt.natAbs = n) (ed : cd t = lN d) (er : cr t = lN r) (hn : n ≤ 1000000000) (hd0 : 0 < d) (hd : d ≤ 1000000000) (hr : r ≤ 1000000000) (ro re sq pt : Nat → Int64) :
    ∃ ro' re' sq' pt' w, mf_Model_measure F (nI t) o0 o1 o2 o3 cn cd cr ro re sq pt = some (ro', re', sq', pt') ∧ ww pt' w ∧ is_w n d r w := by
  have hnn : n * n ≤ 1000000000 * 1000000000 := Nat.mul_le_mul hn hn
  have hnr : n * n * r ≤ 1000000000 * 1000000000 * 1000000000 := Nat.mul_le_mul hnn hr
  have hV0 : n * n * r * 65536 ^ 128 * 8 + 8 < 4294967296 ^ 76 := by
    have h1 : n * n * r * 65536 ^ 128 ≤ 1000000000 * 1000000000 * 1000000000 * 65536 ^ 128 := Nat.mul_le_mul_right _ hnr
    have h2 := pw_V
    generalize 65536 ^ 128 = y at *
    generalize 4294967296 ^ 76 = z at *
    omega
  have small : ∀ x : Nat, x ≤ 1000000000 * 1000000000 * 1000000000 → x < 4294967296 ^ 76 := fun x hx => by
    have : 4294967296 ^ 3 ≤ 4294967296 ^ 76 := Nat.pow_le_pow_right (by omega) (by omega)
    have e : 4294967296 ^ 3 = 79228162514264337593543950336 := by decide
    omega
  obtain ⟨s1, t1, w1⟩ := rs_set hF (v := n) (by omega) sq
  obtain ⟨s2, t2, w2⟩ := rm_mul hF (a := n) w1 hn (small _ (by omega)) (small _ (by omega))
  obtain ⟨s3, t3, w3⟩ := rm_mul hF (a := r) w2 hr (small _ hnr) (small _ (by omega))
  obtain ⟨s4, t4, w4⟩ := rh_shift hF (n := 2048) w3 (by omega) (by rw [pw_2048]; omega)
  rw [pw_2048] at w4
  obtain ⟨ro', re', pt', R, t5, w5, w6, w7⟩ := rk_root hF w4 hV0 o0 o1 o2 o3 ro re pt
  have hRV : R ≤ R * R := Nat.le_mul_self R
  obtain ⟨pt2, t6, w8⟩ := rd_divide hF w5 (by omega) hd0 hd o0 o1 o2 o3 pt'
  have t4' : mf_Model_shift F 2048 s3 = some s4 := t4
  unfold mf_Model_measure
  rw [sd_g_t (sd_ixI ht (by omega)), sd_let_s, nI_clamp (by omega), nj_abs (by omega), en, t1, sd_b1_s, t2, sd_b1_s, sd_g_t (sd_ixI ht (by omega)), er, t3, sd_b1_s, t4', sd_b1_s, t5, sd_b3_s, sd_g_t (sd_ixI ht (by omega)), ed, t6, sd_b1_s]
  exact ⟨ro', re', s4, pt2, R / d, rfl, w8, R, w6, w7, rfl⟩
