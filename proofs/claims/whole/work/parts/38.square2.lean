theorem lN_bits (n : Nat) (h : n < 9223372036854775808) : (lN n).toInt = n := pk_lT (by omega)
theorem sd_zL {n : Nat} (h0 : 0 < n) (h : n < 9223372036854775808) : sd_zJ (lN n) = true := sd_zJt (by rw [lN_bits n h]; omega)
theorem lN_j (n : Nat) (h : n < 9223372036854775808) : lN n = jI n := jI_eq (lN_bits n h)
theorem lN_ltI {a b : Nat} (ha : a < 9223372036854775808) (hb : b < 9223372036854775808) : lN a < lN b ↔ a < b := pk_lLT (by omega) (by omega)
theorem lN_leI {a b : Nat} (ha : a < 9223372036854775808) (hb : b < 9223372036854775808) : lN a ≤ lN b ↔ a ≤ b := pk_lLE (by omega) (by omega)
theorem lN_eqI {a b : Nat} (ha : a < 9223372036854775808) (hb : b < 9223372036854775808) : lN a = lN b ↔ a = b := pk_lEQ (by omega) (by omega)
theorem lN_ifLt {a b : Nat} (ha : a < 9223372036854775808) (hb : b < 9223372036854775808) {α : Type} {x y : α} : (if lN a < lN b then x else y) = if a < b then x else y := by
  by_cases h : a < b
  · rw [if_pos ((lN_ltI ha hb).mpr h), if_pos h]
  · rw [if_neg (fun z => h ((lN_ltI ha hb).mp z)), if_neg h]
theorem lN_ifLe {a b : Nat} (ha : a < 9223372036854775808) (hb : b < 9223372036854775808) {α : Type} {x y : α} : (if lN a ≤ lN b then x else y) = if a ≤ b then x else y := by
  by_cases h : a ≤ b
  · rw [if_pos ((lN_leI ha hb).mpr h), if_pos h]
  · rw [if_neg (fun z => h ((lN_leI ha hb).mp z)), if_neg h]
theorem lN_ifEq {a b : Nat} (ha : a < 9223372036854775808) (hb : b < 9223372036854775808) {α : Type} {x y : α} : (if lN a = lN b then x else y) = if a = b then x else y := by
  by_cases h : a = b
  · rw [if_pos ((lN_eqI ha hb).mpr h), if_pos h]
  · rw [if_neg (fun z => h ((lN_eqI ha hb).mp z)), if_neg h]
theorem lN_divI {a b : Nat} (ha : a < 9223372036854775808) (h0 : 0 < b) (hb : b < 9223372036854775808) : lN a / lN b = lN (a / b) := pk_lDiv (by omega) h0 (by omega)
theorem lN_remI {a b : Nat} (ha : a < 9223372036854775808) (h0 : 0 < b) (hb : b < 9223372036854775808) : lN a - lN a / lN b * lN b = lN (a % b) := pk_lRem (by omega) h0 (by omega)
theorem sq_lt {a b : Nat} (h : a < b) : a * a < b * b := Nat.mul_lt_mul'' h h
/-- wholeRoot, bit by bit -/
theorem mf_root_loop {m : Nat} (hm : m < 268435456) : ∀ (e fu f : Nat), f * f ≤ m → m < (f + 2 ^ (e + 1)) * (f + 2 ^ (e + 1)) → f + 2 ^ (e + 1) ≤ 16384 → e + 2 ≤ fu → ∃ r, mf_Whole_wholeRoot_L7 (lN m) fu (lN f) (lN (2 ^ e)) = some (lN r) ∧ r * r ≤ m ∧ m < (r + 1) * (r + 1) := by
  intro e
  induction e with
  | zero =>
    intro fu f h1 h2 h3 h4
    obtain ⟨g, rfl⟩ : ∃ g, fu = g + 1 + 1 := ⟨fu - 2, by omega⟩
    have hz : (0 : Int64) = lN 0 := rfl
    have ht : (2 : Int64) = lN 2 := rfl
    have b1 : (f + 1) * (f + 1) ≤ 16384 * 16384 := Nat.mul_le_mul (by omega) (by omega)
    rw [mf_Whole_wholeRoot_L7, hz, lN_ifLe (by omega) (by omega), if_neg (by omega), Nat.pow_zero, lN_add, lN_mul, lN_ifLt (by omega) (by omega), ht, lN_divI (by omega) (by omega) (by omega)]
    simp only [Nat.reduceAdd, Nat.reducePow] at h2
    by_cases q : m < (f + 1) * (f + 1)
    · rw [if_pos q, sd_b1_s, sd_let_s, mf_Whole_wholeRoot_L7, hz, if_pos ((lN_leI (by omega) (by omega)).mpr (by omega))]
      exact ⟨f, rfl, h1, q⟩
    · rw [if_neg q, sd_let_s, sd_b1_s, sd_let_s, mf_Whole_wholeRoot_L7, hz, if_pos ((lN_leI (by omega) (by omega)).mpr (by omega))]
      exact ⟨f + 1, rfl, by omega, h2⟩
  | succ e ih =>
    intro fu f h1 h2 h3 h4
    obtain ⟨g, rfl⟩ : ∃ g, fu = g + 1 := ⟨fu - 1, by omega⟩
    have hz : (0 : Int64) = lN 0 := rfl
    have ht : (2 : Int64) = lN 2 := rfl
    have p1 : 2 ^ (e + 1) = 2 * 2 ^ e := by rw [Nat.pow_succ]; omega
    have p2 : 2 ^ (e + 1 + 1) = 2 * 2 ^ (e + 1) := by rw [Nat.pow_succ]; omega
    have p3 : 0 < 2 ^ e := Nat.two_pow_pos e
    have b1 : (f + 2 ^ (e + 1)) * (f + 2 ^ (e + 1)) ≤ 16384 * 16384 := Nat.mul_le_mul (by omega) (by omega)
    have p4 : 2 ^ (e + 1) / 2 = 2 ^ e := by omega
    rw [mf_Whole_wholeRoot_L7, hz, lN_ifLe (by omega) (by omega), if_neg (by omega), lN_add, lN_mul, lN_ifLt (by omega) (by omega), ht, lN_divI (by omega) (by omega) (by omega), p4]
    by_cases q : m < (f + 2 ^ (e + 1)) * (f + 2 ^ (e + 1))
    · rw [if_pos q, sd_b1_s, sd_let_s]
      exact ih g f h1 q (by omega) (by omega)
    · rw [if_neg q, sd_let_s, sd_b1_s, sd_let_s]
      refine ih g (f + 2 ^ (e + 1)) (by omega) ?_ (by omega) (by omega)
      rw [show f + 2 ^ (e + 1) + 2 ^ (e + 1) = f + 2 ^ (e + 1 + 1) by omega]
      exact h2
theorem mf_wholeRoot {F m : Nat} (hF : 200 ≤ F) (hm : m < 268435456) : ∃ r, mf_Whole_wholeRoot F (lN m) = some (lN r) ∧ r * r ≤ m ∧ m < (r + 1) * (r + 1) := by
  obtain ⟨r, e, h⟩ := mf_root_loop hm 13 F 0 (by omega) (by simp only [Nat.reduceAdd, Nat.reducePow]; omega) (by simp only [Nat.reduceAdd, Nat.reducePow]; omega) (by omega)
  refine ⟨r, ?_, h⟩
  unfold mf_Whole_wholeRoot
  have e' : mf_Whole_wholeRoot_L7 (lN m) F 0 8192 = some (lN r) := e
  rw [e', sd_b1_s]
/-- all of one p goes out -/
theorem mf_sq_inner {m p : Nat} (hm : m ≤ 100000000) (hp : 2 ≤ p) (hp2 : p < 1000) : ∀ (fu left side K t : Nat), sq_inv m side left K p → left * 2 ^ t ≤ m → left < fu → side ≤ 10000 → left ≤ m →
    ∃ left' side' K', mf_Whole_sideOfGreatestSquare_L26 (lN p) fu (lN left) (lN side) (nI t) = some (lN left', lN side') ∧ sq_inv m side' left' K' p ∧ ¬ p ∣ left' ∧ left' ≤ left := by
  intro fu
  induction fu with
  | zero => intro left side K t _ _ h; exact absurd h (by omega)
  | succ fu ih =>
    intro left side K t hi ht hf hs hl
    have l0 := hi.2.2.1
    have hz : (0 : Int64) = lN 0 := rfl
    have t32 : t < 32 := by
      rcases Nat.lt_or_ge t 32 with q | q
      · exact q
      · exfalso
        have a1 : 2 ^ 32 ≤ 2 ^ t := Nat.pow_le_pow_right (by omega) q
        have a2 : 1 * 2 ^ t ≤ left * 2 ^ t := Nat.mul_le_mul_right _ l0
        omega
    rw [mf_Whole_sideOfGreatestSquare_L26, if_neg (fun q => by have := (ni_leL (C := 32) (c := 32) rfl (by omega)).mp q; omega), sd_g_t (sd_zL (by omega) (by omega)), lN_remI (by omega) (by omega) (by omega), hz, lN_ifEq (by have := Nat.mod_lt left (show 0 < p by omega); omega) (by omega)]
    by_cases h1 : left % p = 0
    · obtain ⟨l1, rfl⟩ : ∃ l1, left = l1 * p := ⟨left / p, by have := Nat.div_add_mod left p; rw [h1, Nat.add_zero] at this; rw [Nat.mul_comm]; exact this.symm⟩
      have l1e : l1 * p / p = l1 := Nat.mul_div_cancel _ (by omega)
      have l1p : 0 < l1 := by
        rcases Nat.eq_zero_or_pos l1 with z | z
        · subst z; simp at l0
        · exact z
      have l1h : l1 * 2 ≤ l1 * p := Nat.mul_le_mul_left _ hp
      rw [if_pos h1, sd_g_t (sd_zL (by omega) (by omega)), lN_divI (by omega) (by omega) (by omega), l1e, sd_let_s, sd_g_t (sd_zL (by omega) (by omega)), lN_remI (by omega) (by omega) (by omega), lN_ifEq (by have := Nat.mod_lt l1 (show 0 < p by omega); omega) (by omega)]
      by_cases h2 : l1 % p = 0
      · obtain ⟨l2, rfl⟩ : ∃ l2, l1 = l2 * p := ⟨l1 / p, by have := Nat.div_add_mod l1 p; rw [h2, Nat.add_zero] at this; rw [Nat.mul_comm]; exact this.symm⟩
        have l2e : l2 * p / p = l2 := Nat.mul_div_cancel _ (by omega)
        have l2h : l2 * 2 ≤ l2 * p := Nat.mul_le_mul_left _ hp
        have hi2 := sq_pair hi hp
        have hside : side * p ≤ 10000 := by
          rcases Nat.lt_or_ge 10000 (side * p) with z | z
          · exfalso
            have a1 : 10001 * 10001 ≤ side * p * (side * p) := Nat.mul_le_mul z z
            have a2 : side * p * (side * p) * 1 ≤ side * p * (side * p) * l2 := Nat.mul_le_mul_left _ hi2.2.2.1
            have a3 : side * p * (side * p) * l2 * 1 ≤ side * p * (side * p) * l2 * K := Nat.mul_le_mul_left _ hi2.2.2.2.1
            have a4 := hi2.1
            omega
          · exact z
        have tt : l2 * 2 ^ (t + 1) ≤ m := by
          have a1 : l2 * 2 ^ (t + 1) = l2 * 2 * 2 ^ t := by rw [Nat.pow_succ]; ac_rfl
          have a2 : l2 * 2 * 2 ^ t ≤ l2 * p * p * 2 ^ t := Nat.mul_le_mul_right _ (by omega)
          omega
        rw [if_pos h2, sd_g_t (sd_zL (by omega) (by omega)), lN_divI (by omega) (by omega) (by omega), l2e, sd_let_s, lN_mul, sd_let_s, sd_b2_s, sd_let_s, nI_1]
        obtain ⟨left', side', K', e, q1, q2, q3⟩ := ih l2 (side * p) K (t + 1) hi2 tt (by omega) hside (by omega)
        exact ⟨left', side', K', e, q1, q2, by omega⟩
      · have hn : ¬ p ∣ l1 := fun z => h2 (Nat.mod_eq_zero_of_dvd z)
        have hi2 := sq_single hi hp hn
        have tt : l1 * 2 ^ (t + 1) ≤ m := by
          have a1 : l1 * 2 ^ (t + 1) = l1 * 2 * 2 ^ t := by rw [Nat.pow_succ]; ac_rfl
          have a2 : l1 * 2 * 2 ^ t ≤ l1 * p * 2 ^ t := Nat.mul_le_mul_right _ (by omega)
          omega
        rw [if_neg h2, sd_b2_s, sd_let_s, nI_1]
        obtain ⟨left', side', K', e, q1, q2, q3⟩ := ih l1 side (K * p) (t + 1) hi2 tt (by omega) hs (by omega)
        exact ⟨left', side', K', e, q1, q2, by omega⟩
    · rw [if_neg h1]
      exact ⟨left, side, K, rfl, hi, fun z => h1 (Nat.mod_eq_zero_of_dvd z), Nat.le_refl _⟩
theorem sq_inv_side {m side left K p : Nat} (hm : m ≤ 100000000) (h : sq_inv m side left K p) : side ≤ 10000 ∧ left ≤ m := by
  obtain ⟨h1, h2, h3, h4, -⟩ := h
  have a0 : 1 * 1 ≤ side * side := Nat.mul_le_mul h2 h2
  have a1 : side * side * 1 ≤ side * side * left := Nat.mul_le_mul_left _ h3
  have a2 : side * side * left * 1 ≤ side * side * left * K := Nat.mul_le_mul_left _ h4
  have a3 : 1 * left ≤ side * side * left := Nat.mul_le_mul_right _ (by omega)
  refine ⟨?_, by omega⟩
  rcases Nat.lt_or_ge 10000 side with z | z
  · exfalso
    have a4 : 10001 * 10001 ≤ side * side := Nat.mul_le_mul z z
    omega
  · exact z
theorem mf_sq_outer {F m : Nat} (hF : 18446744073709551616 ≤ F) (hm : m ≤ 100000000) : ∀ (fu left side K p : Nat), sq_inv m side left K p → 2 ≤ p → p ≤ 466 → 500 - p < fu →
    ∃ left' side' K' p', mf_Whole_sideOfGreatestSquare_L10 F fu (lN left) (lN side) (lN p) = some (lN left', lN side') ∧ sq_inv m side' left' K' p' ∧ 2 ≤ p' ∧ left' < p' * p' * p' := by
  intro fu
  induction fu with
  | zero => intro left side K p _ _ _ h; exact absurd h (by omega)
  | succ fu ih =>
    intro left side K p hi hp hp2 hf
    obtain ⟨hs, hl⟩ := sq_inv_side hm hi
    have b1 : p * p ≤ 466 * 466 := Nat.mul_le_mul hp2 hp2
    have b2 : p * p * p ≤ 466 * 466 * 466 := Nat.mul_le_mul b1 hp2
    rw [mf_Whole_sideOfGreatestSquare_L10, lN_mul, lN_mul, lN_ifLt (by omega) (by omega)]
    by_cases q : left < p * p * p
    · rw [if_pos q]
      exact ⟨left, side, K, p, rfl, hi, hp, q⟩
    · have p464 : p ≤ 465 := by
        rcases Nat.lt_or_ge 465 p with z | z
        · exfalso
          have c1 : 466 * 466 ≤ p * p := Nat.mul_le_mul z z
          have c2 : 466 * 466 * 466 ≤ p * p * p := Nat.mul_le_mul c1 z
          omega
        · exact z
      obtain ⟨left', side', K', e, q1, q2, q3⟩ := mf_sq_inner hm hp (by omega) F left side K 0 hi (by simp only [Nat.pow_zero]; omega) (by omega) hs hl
      have e' : mf_Whole_sideOfGreatestSquare_L26 (lN p) F (lN left) (lN side) 0 = some (lN left', lN side') := e
      rw [if_neg q, e', sd_b2_s, sd_let_s, show (1 : Int64) = lN 1 from rfl, lN_add]
      exact ih left' side' K' (p + 1) (sq_next q1 q2) (by omega) (by omega) (by omega)
/-- sideOfGreatestSquare -/
theorem mf_side {F m : Nat} (hF : 18446744073709551616 ≤ F) (hm0 : 0 < m) (hm : m ≤ 100000000) : ∃ s q, mf_Whole_sideOfGreatestSquare F (lN m) = some (lN s) ∧ m = s * s * q ∧ sq_free q ∧ 0 < s ∧ s ≤ 10000 := by
  have hi : sq_inv m 1 m 1 2 := ⟨by omega, by omega, hm0, by omega, fun d hd => by have := Nat.le_of_dvd (by omega) hd; rcases Nat.lt_or_ge d 2 with z | z; (· rcases Nat.eq_zero_or_pos d with w | w; (· subst w; have := Nat.eq_zero_of_zero_dvd (show 0 ∣ 1 from hd); omega); (· omega)); (· have := Nat.mul_le_mul z z; omega), Nat.coprime_one_left m, fun d a b => absurd b (by omega)⟩
  obtain ⟨left, side, K, p, e, h1, h2, h3⟩ := mf_sq_outer hF hm F m 1 1 2 hi (by omega) (by omega) (by omega)
  obtain ⟨hs, hl⟩ := sq_inv_side hm h1
  obtain ⟨r, er, r1, r2⟩ := mf_wholeRoot (F := F) (m := left) (by omega) (by omega)
  obtain ⟨s, q, es, eq1, eq2, eq3⟩ := sq_last h1 h2 h3 r1 r2
  have s4 : s ≤ 10000 := by
    have q0 : 0 < q := by
      rcases Nat.eq_zero_or_pos q with z | z
      · subst z; simp at eq1; omega
      · exact z
    rcases Nat.lt_or_ge 10000 s with z | z
    · exfalso
      have a1 : 10001 * 10001 ≤ s * s := Nat.mul_le_mul z z
      have a2 : s * s * 1 ≤ s * s * q := Nat.mul_le_mul_left _ q0
      omega
    · exact z
  have rl : r ≤ 10000 := by
    rcases Nat.lt_or_ge 10000 r with z | z
    · exfalso
      have a1 : 10001 * 10001 ≤ r * r := Nat.mul_le_mul z z
      omega
    · exact z
  have rr : r * r ≤ 10000 * 10000 := Nat.mul_le_mul rl rl
  refine ⟨s, q, ?_, eq1, eq2, eq3, s4⟩
  unfold mf_Whole_sideOfGreatestSquare
  have e' : mf_Whole_sideOfGreatestSquare_L10 F F (lN m) 1 2 = some (lN left, lN side) := e
  rw [e', sd_b2_s, er, sd_b1_s, show (0 : Int64) = lN 0 from rfl, lN_ifLe (by omega) (by omega)]
  by_cases z : r ≤ 0
  · rw [if_pos z, sd_b1_s]
    rw [if_neg (fun w => by omega)] at es
    rw [es]
  · rw [if_neg z, lN_mul, lN_ifEq (by omega) (by omega)]
    by_cases w : r * r = left
    · rw [if_pos w, sd_b1_s, lN_mul]
      rw [if_pos ⟨by omega, w⟩] at es
      rw [es]
    · rw [if_neg w, sd_b1_s]
      rw [if_neg (fun v => w v.2)] at es
      rw [es]
