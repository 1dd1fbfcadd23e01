/-! the head of a root, bit pair by bit pair -/
def dpI : Nat → Int32
  | 0 => -2
  | p + 1 => nI (2 * p)
theorem dpI_d (p : Nat) : nI (2 * p) + (-2 : Int32) = dpI p := by
  cases p with
  | zero => rfl
  | succ p =>
    show _ = nI (2 * p)
    rw [show 2 * (p + 1) = 2 * p + 2 by omega, ← nI_add, ni_eq, Int32.toInt_add, Int32.toInt_add]
    show ((((nI (2 * p)).toInt + 2).bmod (2 ^ 32)) + (-2)).bmod (2 ^ 32) = _
    rw [Int.bmod_add_bmod, Int.add_assoc]
    have := ni_bd (nI (2 * p))
    rw [show (2 : Int) + -2 = 0 from rfl, Int.add_zero, ni_bm (by omega) (by omega)]
theorem bd_sq {R : Nat} {B : Nat} (h : R * R < B * B) : R < B := by
  rcases Nat.lt_or_ge R B with z | z
  · exact z
  · have := Nat.mul_le_mul z z; omega
theorem nb_shs : ∀ k, k < 64 → ((((nI k).toInt64 &&& 63) : Int64).toBitVec.smod 64).toNat = k := by decide +kernel
theorem nb_lN {x : Int64} {n : Nat} (h : x.toInt = n) : x = lN n := by
  have hb := nj_bd x
  rw [nj_eq, lN_bits n (by omega)]; exact h
theorem bd_loop {b : Nat} (hb : b < 9223372036854775808) : ∀ (p fu R Q X : Nat), p ≤ 31 → p < fu → R * R + Q = X → Q ≤ 2 * R → X * 4 ^ p + b % 4 ^ p < 70368744177664 * 70368744177664 →
    ∃ R' Q', mf_EndsFinder_bringDown_L7 (lN b) fu (dpI p) (lN R) (lN Q) = some (lN R', lN Q') ∧ R' * R' + Q' = X * 4 ^ p + b % 4 ^ p ∧ Q' ≤ 2 * R' := by
  intro p
  induction p with
  | zero =>
    intro fu R Q X h1 h2 h3 h4 h5
    obtain ⟨fu, rfl⟩ : ∃ g, fu = g + 1 := ⟨fu - 1, by omega⟩
    rw [mf_EndsFinder_bringDown_L7, if_pos (show dpI 0 < 0 by decide)]
    exact ⟨R, Q, rfl, by rw [Nat.pow_zero, Nat.mod_one]; omega, h4⟩
  | succ p ih =>
    intro fu R Q X h1 h2 h3 h4 h5
    obtain ⟨fu, rfl⟩ : ∃ g, fu = g + 1 := ⟨fu - 1, by omega⟩
    have a1 : b % 4 ^ (p + 1) = b % 4 ^ p + 4 ^ p * (b / 4 ^ p % 4) := Nat.mod_pow_succ
    have a2 : X * 4 ^ (p + 1) + b % 4 ^ (p + 1) = (4 * X + b / 4 ^ p % 4) * 4 ^ p + b % 4 ^ p := by
      rw [a1, Nat.pow_succ]; generalize b / 4 ^ p % 4 = d; generalize b % 4 ^ p = z; generalize 4 ^ p = y; grind
    have a3 : R < 70368744177664 := by
      apply bd_sq
      have : X * 1 ≤ X * 4 ^ (p + 1) := Nat.mul_le_mul_left X (Nat.pow_pos (by decide))
      omega
    rw [a2] at h5 ⊢
    have d4 : b / 4 ^ p % 4 < 4 := Nat.mod_lt _ (by decide)
    have e1 : ((lN b >>> ((nI (2 * p)).toInt64 &&& 63)) &&& (3 : Int64)) = lN (b / 4 ^ p % 4) := by
      apply nb_lN
      rw [nb_m3, nb_shr _ _ (2 * p) (nb_shs _ (by omega)), lN_bits b hb, Nat.pow_mul, show 2 ^ 2 = 4 from rfl]
      rfl
    generalize b / 4 ^ p % 4 = d at *
    rw [mf_EndsFinder_bringDown_L7, show dpI (p + 1) = nI (2 * p) from rfl, if_neg (dnI_np (by omega))]
    simp only [sd_let_s, e1, show (4 : Int64) = lN 4 from rfl, show (1 : Int64) = lN 1 from rfl, show (2 : Int64) = lN 2 from rfl, lN_mul, lN_add, dpI_d]
    rw [lN_ifLt (by omega) (by omega)]
    by_cases q : 4 * Q + d < 4 * R + 1
    · rw [if_pos q, sd_b2_s]
      exact ih fu (R * 2) (4 * Q + d) (4 * X + d) (by omega) (by omega) (by grind) (by omega) h5
    · rw [if_neg q, lN_sub (by omega), sd_b2_s]
      exact ih fu (R * 2 + 1) (4 * Q + d - (4 * R + 1)) (4 * X + d) (by omega) (by omega) (by
        obtain ⟨z, hz⟩ : ∃ z, 4 * Q + d = 4 * R + 1 + z := ⟨4 * Q + d - (4 * R + 1), by omega⟩
        rw [show 4 * Q + d - (4 * R + 1) = z by omega]
        grind) (by omega) h5
theorem bd_bring {F b p : Nat} (hF : 18446744073709551616 ≤ F) (hb : b < 9223372036854775808) {R Q X : Nat} (hp : p < 31) (h3 : R * R + Q = X) (h4 : Q ≤ 2 * R) (h5 : X * 4 ^ (p + 1) + b % 4 ^ (p + 1) < 70368744177664 * 70368744177664) :
    ∃ R' Q', mf_EndsFinder_bringDown F (lN b) (nI (p + 1)) (lN R) (lN Q) = some (lN R', lN Q') ∧ R' * R' + Q' = X * 4 ^ (p + 1) + b % 4 ^ (p + 1) ∧ Q' ≤ 2 * R' := by
  obtain ⟨R', Q', e1, e2, e3⟩ := bd_loop hb (p + 1) F R Q X (by omega) (by omega) h3 h4 h5
  refine ⟨R', Q', ?_, e2, e3⟩
  unfold mf_EndsFinder_bringDown
  have e : (2 : Int32) * nI (p + 1) - 2 = dpI (p + 1) := by
    show _ = nI (2 * p)
    have h2 : (2 : Int32).toInt = 2 := rfl
    have m1 : ((2 : Int32) * nI (p + 1)).toInt = 2 * (p + 1) := by
      rw [ni_mul] <;> rw [nI_toInt (by omega), h2] <;> omega
    rw [ni_eq, nI_toInt (by omega), ni_sub] <;> rw [m1, h2] <;> omega
  rw [sd_let_s, e, e1]
  rfl
/-- the whole part of the root, and what it leaves -/
theorem bd_head {F : Nat} (hF : 18446744073709551616 ≤ F) {a r : Nat} (ha : a ≤ 1000000000000000000) (hr : r ≤ 1000000000) (o1 o2 : Int64) :
    ∃ R Q, mf_EndsFinder_findHead F (lN a) (lN r) o1 o2 = some (lN R, lN Q) ∧ R * R + Q = a * r ∧ Q ≤ 2 * R := by
  unfold mf_EndsFinder_findHead
  have em : ((1 : Int64) <<< ((30 : Int32).toInt64 &&& 63)) - (1 : Int64) = lN 1073741823 := by decide +kernel
  have z0 : (0 : Int64) = lN 0 := rfl
  rw [sd_let_s, em, z0]
  have e1 : lN a &&& lN 1073741823 = lN (a % 1073741824) := wb_mask (k := 30) (by omega) (by omega)
  have b1 : a % 1073741824 * r ≤ 1073741824 * 1000000000 := Nat.mul_le_mul (by omega) hr
  have b2 : a / 1073741824 * r ≤ 931322575 * 1000000000 := Nat.mul_le_mul (by omega) hr
  have e2 : lN a >>> ((30 : Int32).toInt64 &&& 63) = lN (a / 1073741824) := by
    apply nb_lN; rw [nb_r30, lN_bits a (by omega)]; rfl
  rw [sd_let_s, e1, e2, lN_mul, lN_mul]
  have e3 : lN (a % 1073741824 * r) >>> ((30 : Int32).toInt64 &&& 63) = lN (a % 1073741824 * r / 1073741824) := by
    apply nb_lN; rw [nb_r30, lN_bits _ (by omega)]; rfl
  have e4 : lN (a % 1073741824 * r) &&& lN 1073741823 = lN (a % 1073741824 * r % 1073741824) := wb_mask (k := 30) (by omega) (by omega)
  rw [sd_let_s, e3, e4, lN_add]
  have ht : a * r = (a / 1073741824 * r + a % 1073741824 * r / 1073741824) * 1073741824 + a % 1073741824 * r % 1073741824 := by
    have h1 : a * r = (a / 1073741824 * r) * 1073741824 + a % 1073741824 * r := by
      have h2 := Nat.div_add_mod a 1073741824
      generalize a / 1073741824 = x at *
      generalize a % 1073741824 = y at *
      rw [← h2]; grind
    have h3 := Nat.div_add_mod (a % 1073741824 * r) 1073741824
    clear e1 e2 e3 e4 em
    rw [h1]
    generalize a / 1073741824 * r = x at *
    generalize a % 1073741824 * r = y at *
    omega
  have hx : a * r ≤ 1000000000000000000 * 1000000000 := Nat.mul_le_mul ha hr
  generalize a % 1073741824 * r = l at *
  generalize hu : a / 1073741824 * r + l / 1073741824 = u at *
  obtain ⟨R1, Q1, f1, f2, f3⟩ := bd_bring hF (b := u) (p := 30) (by omega) (R := 0) (Q := 0) (X := 0) (by omega) rfl (by omega) (by
    rw [Nat.zero_mul, Nat.zero_add]
    exact Nat.lt_of_le_of_lt (Nat.mod_le _ _) (by omega))
  have g1 : u % 4 ^ 31 = u := Nat.mod_eq_of_lt (by omega)
  rw [Nat.zero_mul, Nat.zero_add, g1] at f2
  have g2 : l % 1073741824 % 4 ^ 15 = l % 1073741824 := Nat.mod_mod _ _
  obtain ⟨R2, Q2, f4, f5, f6⟩ := bd_bring hF (b := l % 1073741824) (p := 14) (by omega) (R := R1) (Q := Q1) (X := u) (by omega) f2 f3 (by rw [g2]; omega)
  rw [g2] at f5
  have f1' : mf_EndsFinder_bringDown F (lN u) 31 (lN 0) (lN 0) = some (lN R1, lN Q1) := f1
  have f4' : mf_EndsFinder_bringDown F (lN (l % 1073741824)) 15 (lN R1) (lN Q1) = some (lN R2, lN Q2) := f4
  rw [f1', sd_b2_s, f4', sd_b2_s]
  exact ⟨R2, Q2, rfl, by omega, f6⟩
