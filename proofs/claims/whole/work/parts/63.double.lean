/-! nearest of a fraction, both sides -/
theorem lS_shr {a k : Nat} (ha : a < 9223372036854775808) (hk : k < 64) : lN a >>> ((nI k).toInt64 &&& 63) = lN (a / 2 ^ k) := by
  apply nb_lN
  rw [nb_shr _ _ k (nb_shs k hk), lN_bits a ha]
  rfl
theorem lS_r1 {a : Nat} (ha : a < 9223372036854775808) : lN a >>> ((1 : Int32).toInt64 &&& 63) = lN (a / 2) := lS_shr (k := 1) ha (by omega)
theorem lS_l1 (a : Nat) : lN a <<< ((1 : Int32).toInt64 &&& 63) = lN (a * 2) := wb_shl a (k := 1) (by omega)
theorem lS_l52 (a : Nat) : lN a <<< ((52 : Int32).toInt64 &&& 63) = lN (a * 4503599627370496) := wb_shl a (k := 52) (by omega)
theorem lS_or {a b k : Nat} (hb : b < 2 ^ k) (h : a * 2 ^ k + b < 18446744073709551616) : lN (a * 2 ^ k) ||| lN b = lN (a * 2 ^ k + b) := by
  rw [wb_or (by omega) (by omega)]
  have := Nat.shiftLeft_add_eq_or_of_lt hb a
  rw [Nat.shiftLeft_eq] at this
  rw [this]
/-- the bits of a double with exponent field e and rounded digits d -/
def dblN (e d : Nat) : Nat := e * 4503599627370496 + d - 4503599627370496
def sgJ (neg : Int32) (x : Int64) : Int64 := if neg = 0 then x else x ||| (-9223372036854775808 : Int64)
def upN (b : Nat) (more : Int32) : Nat := if b % 2 = 1 ∧ (¬ more = 0 ∨ b / 2 % 2 = 1) then 1 else 0
theorem jn_cls (F : Nat) {b e : Nat} {p neg more : Int32} (hb1 : 9007199254740992 ≤ b) (hb2 : b < 18014398509481984) (hp : p.toInt + 1023 = e) (he : e ≤ 2046) : mf_Doubles_join F neg p (lN b) more = some (sgJ neg (lN (dblN e (b / 2 + upN b more)))) := by
  have p1 : p + (1023 : Int32) = nI e := by
    rw [ni_eq, nI_toInt (by omega), ni_add] <;> rw [show (1023 : Int32).toInt = 1023 from rfl] <;> omega
  unfold mf_Doubles_join
  rw [sd_let_s, lS_r1 (by omega), wb_a1 (by omega), wb_a1 (by omega), show (1 : Int64) = lN 1 from rfl, lN_ifEq (by omega) (by omega), lN_ifEq (by omega) (by omega)]
  have y : (if b % 2 = 1 then (if more = 0 then (if b / 2 % 2 = 1 then (some (1 : Int32)) else (some (0 : Int32))) else (some (1 : Int32))) else (some (0 : Int32))) = some (nI (upN b more)) := by
    unfold upN
    by_cases h1 : b % 2 = 1
    · rw [if_pos h1]
      by_cases h2 : more = 0
      · rw [if_pos h2]
        by_cases h3 : b / 2 % 2 = 1
        · rw [if_pos h3, if_pos ⟨h1, Or.inr h3⟩]; rfl
        · rw [if_neg h3, if_neg (fun z => by rcases z.2 with w | w; exact w h2; exact h3 w)]; rfl
      · rw [if_neg h2, if_pos ⟨h1, Or.inl h2⟩]; rfl
    · rw [if_neg h1, if_neg (fun z => h1 z.1)]; rfl
  have ub : upN b more ≤ 1 := by unfold upN; by_cases h : b % 2 = 1 ∧ (¬ more = 0 ∨ b / 2 % 2 = 1) <;> simp [h]
  rw [y, sd_b1_s, sd_let_s, p1, nI_l (by omega), lS_l52, lN_add, show (4503599627370496 : Int64) = lN 4503599627370496 from rfl, lN_sub (by omega), show (0 : Int32) = nI 0 from rfl, nI_ifEq (by omega) (by omega)]
  have y2 : (if upN b more = 0 then some (0 : Int64) else some (lN 1)) = some (lN (upN b more)) := by
    rcases (show upN b more = 0 ∨ upN b more = 1 by omega) with z | z
    · rw [z, if_pos rfl]; rfl
    · rw [z, if_neg (by decide)]
  rw [y2, sd_b1_s, sd_let_s, lN_add]
  have e3 : e * 4503599627370496 + b / 2 - 4503599627370496 + upN b more = dblN e (b / 2 + upN b more) := by unfold dblN; omega
  rw [e3]
  unfold sgJ
  show sd_b1 (if neg = 0 then _ else _) _ = _
  by_cases h : neg = 0
  · rw [if_pos h, if_pos h, sd_b1_s]
  · rw [if_neg h, if_neg h, sd_b1_s]
theorem jn_ref {d e : Nat} {x : Int32} (h1 : 4503599627370496 ≤ d) (h2 : d ≤ 9007199254740992) (hx : x.toInt + 1075 = e) (he : e ≤ 2046) :
    (sd_b2 (if (lN d >>> ((53 : Int32).toInt64 &&& 63)) = (0 : Int64) then (some (lN d, x)) else (sd_let ((lN d >>> ((1 : Int32).toInt64 &&& 63))) fun x9_8 => (sd_let (x + (1 : Int32)) fun x13_2 => (some (x9_8, x13_2))))) fun x9_7 x13_1 => (some (((((x13_1 + (1075 : Int32)).toInt64) <<< ((52 : Int32).toInt64 &&& 63)) ||| (x9_7 &&& (4503599627370495 : Int64)))))) = some (lN (dblN e d)) := by
  have c1 : (1075 : Int32).toInt = 1075 := rfl
  have s53 : lN d >>> ((53 : Int32).toInt64 &&& 63) = lN (d / 9007199254740992) := lS_shr (k := 53) (by omega) (by omega)
  have m52 : ∀ a : Nat, a < 18446744073709551616 → lN a &&& (4503599627370495 : Int64) = lN (a % 4503599627370496) := fun a ha => wb_mask (k := 52) (by omega) (by omega)
  rw [s53, show (0 : Int64) = lN 0 from rfl, lN_ifEq (by omega) (by omega)]
  by_cases c : d / 9007199254740992 = 0
  · have e1 : x + (1075 : Int32) = nI e := by
      rw [ni_eq, nI_toInt (by omega), ni_add] <;> rw [c1] <;> omega
    rw [if_pos c, sd_b2_s, e1, nI_l (by omega), lS_l52, m52 d (by omega)]
    have := lS_or (a := e) (b := d % 4503599627370496) (k := 52) (by omega) (by omega)
    have e2 : e * 2 ^ 52 + d % 4503599627370496 = dblN e d := by unfold dblN; omega
    rw [e2] at this
    exact congrArg some this
  · have ed : d = 9007199254740992 := by omega
    have e1 : x + (1 : Int32) + (1075 : Int32) = nI (e + 1) := by
      have a1 : (x + (1 : Int32)).toInt = x.toInt + 1 := by rw [ni_add] <;> rw [show (1 : Int32).toInt = 1 from rfl] <;> omega
      rw [ni_eq, nI_toInt (by omega), ni_add] <;> rw [a1, c1] <;> omega
    rw [if_neg c, sd_let_s, sd_let_s, sd_b2_s, e1, nI_l (by omega), lS_l52, lS_r1 (by omega), m52 _ (by omega)]
    have := lS_or (a := e + 1) (b := d / 2 % 4503599627370496) (k := 52) (by omega) (by omega)
    have e2 : (e + 1) * 2 ^ 52 + d / 2 % 4503599627370496 = dblN e d := by unfold dblN; omega
    rw [e2] at this
    exact congrArg some this
/-- the first shifts -/
theorem nf_up {d : Nat} (hd : d ≤ 1000000000) : ∀ (n fu k a : Nat) (P S : Int32), d ≤ a * 2 ^ n → 0 < a → a ≤ 2000000000 → n + k ≤ 31 → n < fu → -100 ≤ P.toInt - n → P.toInt ≤ 100 → -100 ≤ S.toInt → S.toInt + n ≤ 100 →
    ∃ t P' S', t ≤ n ∧ mf_Doubles_ofFraction_L23 (lN d) fu (lN a) P (nI k) = some (lN (a * 2 ^ t), P') ∧ mf_Model_nearestFraction_L9 (lN d) fu (lN a) S = some (lN (a * 2 ^ t), S') ∧ P'.toInt = P.toInt - t ∧ S'.toInt = S.toInt + t ∧ d ≤ a * 2 ^ t ∧ (t = 0 ∨ a * 2 ^ t < 2 * d) := by
  intro n
  induction n with
  | zero =>
    intro fu k a P S h1 h2 h3 h4 h5 h6 h7 h8 h9
    obtain ⟨fu, rfl⟩ : ∃ g, fu = g + 1 := ⟨fu - 1, by omega⟩
    rw [mf_Doubles_ofFraction_L23, mf_Model_nearestFraction_L9, show (32 : Int32) = nI 32 from rfl, nI_ifLe (by omega) (by omega), if_neg (by omega), lN_ifLe (by omega) (by omega), lN_ifLe (by omega) (by omega), if_pos (by omega), if_pos (by omega)]
    exact ⟨0, P, S, by omega, by rw [Nat.pow_zero, Nat.mul_one], by rw [Nat.pow_zero, Nat.mul_one], by omega, by omega, h1, Or.inl rfl⟩
  | succ n ih =>
    intro fu k a P S h1 h2 h3 h4 h5 h6 h7 h8 h9
    obtain ⟨fu, rfl⟩ : ∃ g, fu = g + 1 := ⟨fu - 1, by omega⟩
    rw [mf_Doubles_ofFraction_L23, mf_Model_nearestFraction_L9, show (32 : Int32) = nI 32 from rfl, nI_ifLe (by omega) (by omega), if_neg (by omega), lN_ifLe (by omega) (by omega), lN_ifLe (by omega) (by omega)]
    by_cases c : d ≤ a
    · rw [if_pos c, if_pos c]
      exact ⟨0, P, S, by omega, by rw [Nat.pow_zero, Nat.mul_one], by rw [Nat.pow_zero, Nat.mul_one], by omega, by omega, by omega, Or.inl rfl⟩
    · have p1 : (P + (-1 : Int32)).toInt = P.toInt - 1 := by rw [ni_add] <;> rw [show (-1 : Int32).toInt = -1 from rfl] <;> omega
      have s1 : (S + (1 : Int32)).toInt = S.toInt + 1 := by rw [ni_add] <;> rw [show (1 : Int32).toInt = 1 from rfl] <;> omega
      rw [if_neg c, if_neg c, sd_let_s, sd_let_s, sd_let_s, sd_let_s, sd_let_s, lS_l1, show (2 : Int64) = lN 2 from rfl, lN_mul, nI_1]
      obtain ⟨t, P', S', g1, g2, g3, g4, g5, g6, g7⟩ := ih fu (k + 1) (a * 2) (P + (-1 : Int32)) (S + (1 : Int32)) (by rw [Nat.mul_assoc, Nat.mul_comm 2, ← Nat.pow_succ]; exact h1) (by omega) (by omega) (by omega) (by omega) (by omega) (by omega) (by omega) (by omega)
      have e : a * 2 * 2 ^ t = a * 2 ^ (t + 1) := by rw [Nat.mul_assoc, Nat.mul_comm 2, ← Nat.pow_succ]
      rw [e] at g2 g3 g6 g7
      refine ⟨t + 1, P', S', by omega, g2, g3, by omega, by omega, g6, Or.inr ?_⟩
      rcases g7 with z | z
      · rw [z, Nat.zero_add, Nat.pow_one]; omega
      · exact z
theorem nf_down {U : Nat} (hU : U ≤ 4000000000) : ∀ (n fu k d : Nat) (P S : Int32), U < 2 * (d * 2 ^ n) → d ≤ U → n + k ≤ 31 → n < fu → -100 ≤ P.toInt → P.toInt + n ≤ 100 → -100 ≤ S.toInt - n → S.toInt ≤ 100 →
    ∃ t P' S', t ≤ n ∧ mf_Doubles_ofFraction_L58 (lN U) fu (lN d) P (nI k) = some (lN (d * 2 ^ t), P') ∧ mf_Model_nearestFraction_L29 (lN U) fu (lN d) S = some (lN (d * 2 ^ t), S') ∧ P'.toInt = P.toInt + t ∧ S'.toInt = S.toInt - t ∧ U < 2 * (d * 2 ^ t) ∧ d * 2 ^ t ≤ U := by
  intro n
  induction n with
  | zero =>
    intro fu k d P S h1 h2 h4 h5 h6 h7 h8 h9
    obtain ⟨fu, rfl⟩ : ∃ g, fu = g + 1 := ⟨fu - 1, by omega⟩
    rw [mf_Doubles_ofFraction_L58, mf_Model_nearestFraction_L29, show (32 : Int32) = nI 32 from rfl, nI_ifLe (by omega) (by omega), if_neg (by omega), show (2 : Int64) = lN 2 from rfl, lN_mul, lN_ifLt (by omega) (by omega), lN_ifLt (by omega) (by omega), if_pos (by omega), if_pos (by omega)]
    exact ⟨0, P, S, by omega, by rw [Nat.pow_zero, Nat.mul_one], by rw [Nat.pow_zero, Nat.mul_one], by omega, by omega, h1, by omega⟩
  | succ n ih =>
    intro fu k d P S h1 h2 h4 h5 h6 h7 h8 h9
    obtain ⟨fu, rfl⟩ : ∃ g, fu = g + 1 := ⟨fu - 1, by omega⟩
    rw [mf_Doubles_ofFraction_L58, mf_Model_nearestFraction_L29, show (32 : Int32) = nI 32 from rfl, nI_ifLe (by omega) (by omega), if_neg (by omega), show (2 : Int64) = lN 2 from rfl, lN_mul, lN_ifLt (by omega) (by omega), lN_ifLt (by omega) (by omega)]
    by_cases c : U < 2 * d
    · rw [if_pos c, if_pos c]
      exact ⟨0, P, S, by omega, by rw [Nat.pow_zero, Nat.mul_one], by rw [Nat.pow_zero, Nat.mul_one], by omega, by omega, by omega, by omega⟩
    · have p1 : (S + (-1 : Int32)).toInt = S.toInt - 1 := by rw [ni_add] <;> rw [show (-1 : Int32).toInt = -1 from rfl] <;> omega
      have s1 : (P + (1 : Int32)).toInt = P.toInt + 1 := by rw [ni_add] <;> rw [show (1 : Int32).toInt = 1 from rfl] <;> omega
      rw [if_neg c, if_neg c, sd_let_s, sd_let_s, sd_let_s, sd_let_s, sd_let_s, lS_l1, lN_mul, nI_1]
      obtain ⟨t, P', S', g1, g2, g3, g4, g5, g6, g7⟩ := ih fu (k + 1) (d * 2) (P + (1 : Int32)) (S + (-1 : Int32)) (by rw [Nat.mul_assoc d, Nat.mul_comm 2 (2 ^ n), ← Nat.pow_succ]; exact h1) (by omega) (by omega) (by omega) (by omega) (by omega) (by omega) (by omega)
      have e : d * 2 * 2 ^ t = d * 2 ^ (t + 1) := by rw [Nat.mul_assoc, Nat.mul_comm 2, ← Nat.pow_succ]
      rw [e] at g2 g3 g6 g7
      exact ⟨t + 1, P', S', by omega, g2, g3, by omega, by omega, g6, g7⟩
/-- the bits -/
theorem nf_bits {y : Nat} (hy : y ≤ 4000000000) (hy0 : 0 < y) : ∀ (r fu k x m : Nat), k + r = 54 → r < fu → x < 2 * y → (m + 1) * 2 ^ r ≤ 18014398509481984 →
    ∃ x' m', mf_Doubles_ofFraction_L100 (lN y) fu (lN x) (lN m) (nI k) = some (lN x', lN m') ∧ mf_Model_nearestFraction_L59 (lN y) fu (lN x) (lN m) (nI k) = some (lN x', lN m') ∧ m * 2 ^ r ≤ m' ∧ m' < (m + 1) * 2 ^ r ∧ x' < 2 * y := by
  intro r
  induction r with
  | zero =>
    intro fu k x m h1 h2 h3 h4
    obtain ⟨fu, rfl⟩ : ∃ g, fu = g + 1 := ⟨fu - 1, by omega⟩
    rw [mf_Doubles_ofFraction_L100, mf_Model_nearestFraction_L59, show (54 : Int32) = nI 54 from rfl, nI_ifLe (by omega) (by omega), nI_ifLe (by omega) (by omega), if_pos (by omega), if_pos (by omega)]
    exact ⟨x, m, rfl, rfl, by omega, by omega, h3⟩
  | succ r ih =>
    intro fu k x m h1 h2 h3 h4
    obtain ⟨fu, rfl⟩ : ∃ g, fu = g + 1 := ⟨fu - 1, by omega⟩
    have pr : 0 < 2 ^ r := Nat.pow_pos (by omega)
    have mb : (m + 1) * 2 * 1 ≤ (m + 1) * 2 * 2 ^ r := Nat.mul_le_mul_left _ pr
    have ps : ∀ a : Nat, a * 2 ^ (r + 1) = a * 2 * 2 ^ r := fun a => by rw [Nat.pow_succ, Nat.mul_comm (2 ^ r), Nat.mul_assoc]
    rw [ps] at h4
    rw [mf_Doubles_ofFraction_L100, mf_Model_nearestFraction_L59, show (54 : Int32) = nI 54 from rfl, nI_ifLe (by omega) (by omega), nI_ifLe (by omega) (by omega), if_neg (show ¬ 54 ≤ k by omega), if_neg (show ¬ 54 ≤ k by omega), lN_ifLt (by omega) (by omega), sd_let_s, lS_l1, lN_ifLt (by omega) (by omega)]
    by_cases c : x < y
    · rw [if_pos c, if_pos c, sd_b1_s, if_pos rfl, sd_b1_s, sd_let_s, if_pos rfl, sd_b1_s, sd_let_s, sd_let_s, sd_b2_s, sd_let_s, sd_let_s, lS_l1, nI_1, show (0 : Int32).toInt64 = lN 0 from rfl, show (2 : Int64) = lN 2 from rfl, lN_mul, lN_mul, lN_add, Nat.add_zero, Nat.mul_comm 2 m, Nat.mul_comm 2 x]
      obtain ⟨x', m', g1, g2, g3, g4, g5⟩ := ih fu (k + 1) (x * 2) (m * 2) (by omega) (by omega) (by omega) (by
        have : (m * 2 + 1) * 2 ^ r ≤ (m + 1) * 2 * 2 ^ r := Nat.mul_le_mul_right _ (by omega)
        omega)
      refine ⟨x', m', g1, g2, by rw [ps]; exact g3, ?_, g5⟩
      have : (m * 2 + 1) * 2 ^ r ≤ (m + 1) * 2 * 2 ^ r := Nat.mul_le_mul_right _ (by omega)
      rw [ps]; omega
    · have o1 : lN (m * 2) ||| (1 : Int64) = lN (m * 2 + 1) := lS_or (a := m) (b := 1) (k := 1) (by omega) (by omega)
      rw [if_neg c, if_neg c, sd_b1_s, if_neg (by decide), sd_b1_s, sd_let_s, if_neg (by decide), sd_b1_s, sd_let_s, sd_let_s, sd_let_s, sd_let_s, sd_b2_s, sd_let_s, sd_let_s, lN_sub (by omega), lS_l1, nI_1, o1, show (1 : Int32).toInt64 = lN 1 from rfl, show (2 : Int64) = lN 2 from rfl, lN_mul, lN_mul, lN_add, Nat.mul_comm 2 m, Nat.mul_comm 2 (x - y)]
      obtain ⟨x', m', g1, g2, g3, g4, g5⟩ := ih fu (k + 1) ((x - y) * 2) (m * 2 + 1) (by omega) (by omega) (by omega) (by
        have : (m * 2 + 1 + 1) * 2 ^ r ≤ (m + 1) * 2 * 2 ^ r := Nat.mul_le_mul_right _ (by omega)
        omega)
      refine ⟨x', m', g1, g2, ?_, ?_, g5⟩
      · have : m * 2 * 2 ^ r ≤ (m * 2 + 1) * 2 ^ r := Nat.mul_le_mul_right _ (by omega)
        rw [ps]; omega
      · have : (m * 2 + 1 + 1) * 2 ^ r ≤ (m + 1) * 2 * 2 ^ r := Nat.mul_le_mul_right _ (by omega)
        rw [ps]; omega
theorem and_2 (m : Nat) : m &&& 2 = 0 ↔ m / 2 % 2 = 0 := by
  have h1 : (m &&& 2) % 2 ^ 2 = (m % 2 ^ 2) &&& (2 % 2 ^ 2) := Nat.and_mod_two_pow
  have h2 : m &&& 2 ≤ 2 := Nat.and_le_right
  rcases (show m % 4 = 0 ∨ m % 4 = 1 ∨ m % 4 = 2 ∨ m % 4 = 3 by omega) with z | z | z | z
  · rw [show 2 ^ 2 = 4 from rfl, z] at h1; have : (0 : Nat) &&& (2 % 4) = 0 := by decide
    omega
  · rw [show 2 ^ 2 = 4 from rfl, z] at h1; have : (1 : Nat) &&& (2 % 4) = 0 := by decide
    omega
  · rw [show 2 ^ 2 = 4 from rfl, z] at h1; have : (2 : Nat) &&& (2 % 4) = 2 := by decide
    omega
  · rw [show 2 ^ 2 = 4 from rfl, z] at h1; have : (3 : Nat) &&& (2 % 4) = 2 := by decide
    omega
theorem nf_both {F : Nat} (hF : 18446744073709551616 ≤ F) {a d : Nat} {vT : Int64} (ha : a ≤ 1000000000) (ha0 : 0 < a) (hd : d ≤ 1000000000) (hd0 : 0 < d) (hv : vT.toInt.natAbs = a) :
    ∃ x, mf_Model_nearestFraction F (lN a) (lN d) = some x ∧ mf_Doubles_ofFraction F vT (lN d) = some (sgJ (if (0 : Int64) ≤ vT then 0 else 1) x) := by
  have z0 : (0 : Int64).toInt = 0 := rfl
  have vz : ¬ vT = (0 : Int64) := fun z => by rw [z, z0] at hv; omega
  obtain ⟨t, P1, S1, g1, g2, g3, g4, g5, g6, g7⟩ := nf_up hd 30 F 0 a 0 0 (by
    have : 1 * 2 ^ 30 ≤ a * 2 ^ 30 := Nat.mul_le_mul_right _ ha0
    omega) ha0 (by omega) (by omega) (by omega) (by decide) (by decide) (by decide) (by decide)
  have zI : (0 : Int32).toInt = 0 := rfl
  rw [zI] at g4 g5
  have hU : a * 2 ^ t ≤ 2000000000 := by
    rcases g7 with z | z
    · rw [z, Nat.pow_zero]; omega
    · omega
  have hUd : a * 2 ^ t < 2 * (d * 2 ^ 30) := by
    have : 1 * 2 ^ 30 ≤ d * 2 ^ 30 := Nat.mul_le_mul_right _ hd0
    omega
  generalize hUU : a * 2 ^ t = U at *
  obtain ⟨s, P2, S2, k1, k2, k3, k4, k5, k6, k7⟩ := nf_down (U := U) (by omega) 30 F 0 d P1 S1 hUd g6 (by omega) (by omega) (by omega) (by omega) (by omega) (by omega)
  generalize hyy : d * 2 ^ s = y at *
  have y0 : 0 < y := by omega
  obtain ⟨fu, hfu⟩ : ∃ g, F = g + 1 := ⟨F - 1, by omega⟩
  obtain ⟨x', m', b1, b2, b3, b4, b5⟩ := nf_bits (y := y) (by omega) y0 54 F 0 U 0 (by omega) (by omega) (by omega) (by decide)
  rw [show (0 + 1) * 2 ^ 54 = 18014398509481984 from by decide] at b4
  clear b3
  have b6 : 9007199254740992 ≤ m' := by
    obtain ⟨x2, m2, c1, c2, c3, c4, c5⟩ := nf_bits (y := y) (by omega) y0 53 fu 1 ((U - y) * 2) 1 (by omega) (by omega) (by omega) (by decide)
    rw [show (1 + 1) * 2 ^ 53 = 18014398509481984 from by decide] at c4
    rw [show 1 * 2 ^ 53 = 9007199254740992 from by decide] at c3
    have e : mf_Doubles_ofFraction_L100 (lN y) F (lN U) (lN 0) (nI 0) = mf_Doubles_ofFraction_L100 (lN y) fu (lN ((U - y) * 2)) (lN 1) (nI 1) := by
      rw [hfu, mf_Doubles_ofFraction_L100, show (54 : Int32) = nI 54 from rfl, nI_ifLe (by omega) (by omega), if_neg (by omega), lN_ifLt (by omega) (by omega), if_neg (by omega), sd_b1_s, if_neg (by decide), sd_b1_s, sd_let_s, if_neg (by decide), sd_b1_s, sd_let_s, sd_let_s, lN_sub (by omega), show (2 : Int64) = lN 2 from rfl, lN_mul, nI_1, Nat.mul_comm 2 (U - y)]
      rfl
    rw [b1, c1] at e
    have em : lN m' = lN m2 := congrArg (fun z : Int64 × Int64 => z.2) (Option.some.inj e)
    have := (lN_eqI (by omega) (by omega)).mp em
    omega
  have b7 : m' < 18014398509481984 := by omega
  have b1' : mf_Doubles_ofFraction_L100 (lN y) F (lN U) 0 0 = some (lN x', lN m') := b1
  have b2' : mf_Model_nearestFraction_L59 (lN y) F (lN U) 0 0 = some (lN x', lN m') := b2
  have g2' : mf_Doubles_ofFraction_L23 (lN d) F (lN a) 0 0 = some (lN U, P1) := g2
  have k2' : mf_Doubles_ofFraction_L58 (lN U) F (lN d) P1 0 = some (lN y, P2) := k2
  obtain ⟨e, he⟩ : ∃ e : Nat, P2.toInt + 1023 = e := ⟨(P2.toInt + 1023).toNat, by omega⟩
  refine ⟨lN (dblN e (m' / 2 + upN m' (if lN x' = (0 : Int64) then 0 else 1))), ?_, ?_⟩
  · unfold mf_Model_nearestFraction
    rw [g3, sd_b2_s, k3, sd_b2_s, b2', sd_b2_s, wb_a1 (by omega)]
    have y1 : (if lN (m' % 2) = (1 : Int64) then (some (1 : Int32)) else (some (0 : Int32))) = some (nI (m' % 2)) := by
      rw [show (1 : Int64) = lN 1 from rfl, lN_ifEq (by omega) (by omega)]
      rcases (show m' % 2 = 0 ∨ m' % 2 = 1 by omega) with z | z
      · rw [z, if_neg (by decide)]; rfl
      · rw [z, if_pos rfl]; rfl
    have w2 : lN m' &&& (2 : Int64) = lN (m' &&& 2) := wb_and (b := 2) (by omega) (by omega)
    have l2 : m' &&& 2 ≤ 2 := Nat.and_le_right
    have y2 : (if nI (m' % 2) = 0 then (some (0 : Int32)) else (if lN x' = (0 : Int64) then (if lN (m' &&& 2) = (0 : Int64) then (some (0 : Int32)) else (some (1 : Int32))) else (some (1 : Int32)))) = some (nI (upN m' (if lN x' = (0 : Int64) then 0 else 1))) := by
      rw [show (0 : Int32) = nI 0 from rfl, nI_ifEq (by omega) (by omega)]
      unfold upN
      by_cases q1 : m' % 2 = 0
      · rw [if_pos q1, if_neg (by omega)]
      · rw [if_neg q1]
        by_cases q2 : lN x' = (0 : Int64)
        · rw [if_pos q2, if_pos q2, show (0 : Int64) = lN 0 from rfl, lN_ifEq (by omega) (by omega)]
          by_cases q3 : m' &&& 2 = 0
          · have := (and_2 m').mp q3
            rw [if_pos q3, if_neg (fun z => by rcases z.2 with w | w; exact w rfl; omega)]
          · have : ¬ m' / 2 % 2 = 0 := fun z => q3 ((and_2 m').mpr z)
            rw [if_neg q3, if_pos ⟨by omega, Or.inr (by omega)⟩]; rfl
        · rw [if_neg q2, if_neg q2, if_pos ⟨by omega, Or.inl (by decide)⟩]; rfl
    have ub : upN m' (if lN x' = (0 : Int64) then 0 else 1) ≤ 1 := by
      generalize (if lN x' = (0 : Int64) then (0 : Int32) else 1) = q
      unfold upN; by_cases h : m' % 2 = 1 ∧ (¬ q = 0 ∨ m' / 2 % 2 = 1) <;> simp [h]
    generalize upN m' (if lN x' = (0 : Int64) then 0 else 1) = up at *
    rw [y1, sd_b1_s, w2, y2, sd_b1_s, sd_let_s, sd_let_s, lS_r1 (by omega), show (0 : Int32) = nI 0 from rfl, nI_ifEq (by omega) (by omega)]
    have y3 : (if up = 0 then (some (lN (m' / 2))) else (sd_let ((lN (m' / 2) + (1 : Int64))) fun x9_6 => (some (x9_6)))) = some (lN (m' / 2 + up)) := by
      rcases (show up = 0 ∨ up = 1 by omega) with z | z
      · rw [z, if_pos rfl]; rfl
      · rw [z, if_neg (by decide), sd_let_s, show (1 : Int64) = lN 1 from rfl, lN_add]
    rw [y3, sd_b1_s]
    have sn : (-S2 - (52 : Int32)).toInt = P2.toInt - 52 := by
      have a1 : (-S2).toInt = -S2.toInt := by rw [Int32.toInt_neg, ni_bm] <;> omega
      rw [ni_sub] <;> rw [a1, show (52 : Int32).toInt = 52 from rfl] <;> omega
    exact jn_ref (by omega) (by omega) (by omega) (by omega)
  · unfold mf_Doubles_ofFraction
    rw [if_neg vz, sd_let_s, nj_abs (by omega), hv, g2', sd_b2_s, k2', sd_b2_s, b1', sd_b2_s]
    have y3 : (if (0 : Int64) ≤ vT then (some (0 : Int32)) else (some (1 : Int32))) = some (if (0 : Int64) ≤ vT then 0 else 1) := by
      by_cases q : (0 : Int64) ≤ vT
      · rw [if_pos q, if_pos q]
      · rw [if_neg q, if_neg q]
    have y4 : (if lN x' = (0 : Int64) then (some (0 : Int32)) else (some (1 : Int32))) = some (if lN x' = (0 : Int64) then 0 else 1) := by
      by_cases q : lN x' = (0 : Int64)
      · rw [if_pos q, if_pos q]
      · rw [if_neg q, if_neg q]
    rw [y3, sd_b1_s, y4, sd_b1_s, jn_cls F b6 b7 he (by omega), sd_b1_s]
