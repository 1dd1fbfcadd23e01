/-! numbers: Int64 and Int32 by their integers -/
theorem nj_lt {x y : Int64} : x < y ↔ x.toInt < y.toInt := Int64.lt_iff_toInt_lt
theorem nj_le {x y : Int64} : x ≤ y ↔ x.toInt ≤ y.toInt := Int64.le_iff_toInt_le
theorem nj_eq {x y : Int64} : x = y ↔ x.toInt = y.toInt := Int64.toInt_inj.symm
theorem nj_bd (x : Int64) : -9223372036854775808 ≤ x.toInt ∧ x.toInt < 9223372036854775808 := ⟨by have := x.le_toInt; omega, by have := x.toInt_lt; omega⟩
theorem nj_bm {n : Int} (h1 : -9223372036854775808 ≤ n) (h2 : n < 9223372036854775808) : n.bmod (2 ^ 64) = n := Int.bmod_eq_of_le (by omega) (by omega)
theorem nj_add {x y : Int64} (h1 : -9223372036854775808 ≤ x.toInt + y.toInt) (h2 : x.toInt + y.toInt < 9223372036854775808) : (x + y).toInt = x.toInt + y.toInt := by
  rw [Int64.toInt_add]; exact nj_bm h1 h2
theorem nj_sub {x y : Int64} (h1 : -9223372036854775808 ≤ x.toInt - y.toInt) (h2 : x.toInt - y.toInt < 9223372036854775808) : (x - y).toInt = x.toInt - y.toInt := by
  rw [Int64.toInt_sub]; exact nj_bm h1 h2
theorem nj_mul {x y : Int64} (h1 : -9223372036854775808 ≤ x.toInt * y.toInt) (h2 : x.toInt * y.toInt < 9223372036854775808) : (x * y).toInt = x.toInt * y.toInt := by
  rw [Int64.toInt_mul]; exact nj_bm h1 h2
theorem nj_neg {x : Int64} (h : x.toInt ≠ -9223372036854775808) : (-x).toInt = -x.toInt := by
  rw [Int64.toInt_neg]; have := nj_bd x; exact nj_bm (by omega) (by omega)
theorem nj_div {x y : Int64} (h : ¬ (x.toInt = -9223372036854775808 ∧ y.toInt = -1)) : (x / y).toInt = x.toInt.tdiv y.toInt := by
  by_cases hx : x.toInt = -9223372036854775808
  · refine Int64.toInt_div_of_ne_right x y (fun e => h ⟨hx, ?_⟩)
    rw [e]; rfl
  · refine Int64.toInt_div_of_ne_left x y (fun e => hx ?_)
    rw [e]; rfl
/-- x - x / y * y: the remainder, in every case -/
theorem nj_rem (x y : Int64) : (x - x / y * y).toInt = x.toInt.tmod y.toInt := by
  have e : x - x / y * y = x % y := by
    rw [nj_eq, Int64.toInt_mod, Int64.toInt_sub, Int64.toInt_mul, Int64.toInt_div, Int.bmod_mul_bmod, Int.sub_bmod_bmod]
    have h2 : x.toInt - x.toInt.tdiv y.toInt * y.toInt = x.toInt.tmod y.toInt := by
      have := Int.tmod_add_mul_tdiv x.toInt y.toInt
      rw [Int.mul_comm y.toInt] at this
      omega
    rw [h2]
    by_cases hy : y.toInt = 0
    · rw [hy, Int.tmod_zero]; have := nj_bd x; exact nj_bm (by omega) (by omega)
    · have hb := nj_bd x
      have h3 : (x.toInt.tmod y.toInt).natAbs ≤ x.toInt.natAbs := by
        rw [Int.natAbs_tmod]; exact Nat.mod_le _ _
      have h4 : x.toInt < 0 → x.toInt.tmod y.toInt ≤ 0 := fun h => by
        have := Int.tmod_nonneg y.toInt (a := -x.toInt) (by omega)
        rw [Int.neg_tmod] at this
        omega
      exact nj_bm (by omega) (by omega)
  rw [e, Int64.toInt_mod]
theorem nj_ofInt {n : Int} (h1 : -9223372036854775808 ≤ n) (h2 : n < 9223372036854775808) : (Int64.ofInt n).toInt = n := Int64.toInt_ofInt_of_le (by omega) (by omega)
/-- an Int64 by its integer -/
def jI (n : Int) : Int64 := Int64.ofInt n
theorem jI_t {n : Int} (h1 : -9223372036854775808 ≤ n) (h2 : n < 9223372036854775808) : (jI n).toInt = n := nj_ofInt h1 h2
theorem jI_of (x : Int64) : x = jI x.toInt := by rw [nj_eq, jI_t (nj_bd x).1 (nj_bd x).2]
theorem jI_eq {x : Int64} {n : Int} (h : x.toInt = n) : x = jI n := by rw [← h]; exact jI_of x
theorem ni_lt {x y : Int32} : x < y ↔ x.toInt < y.toInt := Int32.lt_iff_toInt_lt
theorem ni_le {x y : Int32} : x ≤ y ↔ x.toInt ≤ y.toInt := Int32.le_iff_toInt_le
theorem ni_eq {x y : Int32} : x = y ↔ x.toInt = y.toInt := Int32.toInt_inj.symm
theorem ni_bd (x : Int32) : -2147483648 ≤ x.toInt ∧ x.toInt < 2147483648 := ⟨by have := x.le_toInt; omega, by have := x.toInt_lt; omega⟩
theorem ni_bm {n : Int} (h1 : -2147483648 ≤ n) (h2 : n < 2147483648) : n.bmod (2 ^ 32) = n := Int.bmod_eq_of_le (by omega) (by omega)
theorem ni_add {x y : Int32} (h1 : -2147483648 ≤ x.toInt + y.toInt) (h2 : x.toInt + y.toInt < 2147483648) : (x + y).toInt = x.toInt + y.toInt := by
  rw [Int32.toInt_add]; exact ni_bm h1 h2
theorem ni_sub {x y : Int32} (h1 : -2147483648 ≤ x.toInt - y.toInt) (h2 : x.toInt - y.toInt < 2147483648) : (x - y).toInt = x.toInt - y.toInt := by
  rw [Int32.toInt_sub]; exact ni_bm h1 h2
theorem ni_mul {x y : Int32} (h1 : -2147483648 ≤ x.toInt * y.toInt) (h2 : x.toInt * y.toInt < 2147483648) : (x * y).toInt = x.toInt * y.toInt := by
  rw [Int32.toInt_mul]; exact ni_bm h1 h2
theorem sd_ixI {n N : Nat} (h : n < N) (h2 : n < 2147483648) : sd_ix (nI n) N = true := by
  unfold sd_ix
  rw [nI_toInt (by omega)]
  exact decide_eq_true ⟨by omega, by omega⟩
theorem sd_zJt {y : Int64} (h : y.toInt ≠ 0) : sd_zJ y = true := decide_eq_true (fun e => h (by rw [e]; rfl))
theorem sd_g_t {β : Type} {b : Bool} {x : Option β} (h : b = true) : sd_g b x = x := by subst h; rfl
/-! two halvings of Euclid's way -/
theorem nat_half {u l : Nat} (h1 : 0 < l) (h2 : l ≤ u) : 2 * (u % l) < u := by
  have a := Nat.mod_lt u h1
  have b := Nat.mod_add_div u l
  have c : 1 ≤ u / l := (Nat.one_le_div_iff h1).mpr h2
  have d : l ≤ l * (u / l) := Nat.le_mul_of_pos_right l c
  omega
theorem ni_leL {C : Int32} {c : Int} {j : Nat} (hC : C.toInt = c) (hj : j < 2147483648) : C ≤ nI j ↔ c ≤ j := by rw [ni_le, nI_toInt (by omega), hC]
theorem ni_ltL {C : Int32} {c : Int} {j : Nat} (hC : C.toInt = c) (hj : j < 2147483648) : C < nI j ↔ c < j := by rw [ni_lt, nI_toInt (by omega), hC]
theorem ni_leR {C : Int32} {c : Int} {j : Nat} (hC : C.toInt = c) (hj : j < 2147483648) : nI j ≤ C ↔ (j : Int) ≤ c := by rw [ni_le, nI_toInt (by omega), hC]
theorem ni_ltR {C : Int32} {c : Int} {j : Nat} (hC : C.toInt = c) (hj : j < 2147483648) : nI j < C ↔ (j : Int) < c := by rw [ni_lt, nI_toInt (by omega), hC]
