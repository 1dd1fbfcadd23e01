/-! the common divisor: class and reference -/
/-- belowZero -/
theorem mf_belowZero (F : Nat) (a : Int64) : ∃ v, mf_Whole_belowZero F a = some v ∧ v.toInt = -(a.toInt.natAbs : Int) := by
  unfold mf_Whole_belowZero
  have h0 : (0 : Int64).toInt = 0 := rfl
  by_cases h : a ≤ 0
  · rw [if_pos h]
    have h1 := nj_le.mp h
    exact ⟨a, rfl, by omega⟩
  · rw [if_neg h]
    have h1 : ¬ a.toInt ≤ 0 := fun q => h (nj_le.mpr (by omega))
    exact ⟨-a, rfl, by rw [nj_neg (by omega)]; omega⟩
/-- Euclid's way below 0, with its count of steps -/
theorem mf_gcd_loop : ∀ (k : Nat) (fu : Nat) (u w : Int64) (j : Nat), u.toInt ≤ 0 → w.toInt ≤ 0 → w.toInt.natAbs < 2 ^ k → j + 2 * k + 2 ≤ 200 → 2 * k + 2 ≤ fu →
    ∃ v, mf_Whole_commonDivisor_L15 fu u w (nI j) = some v ∧ v.toInt = -(Nat.gcd u.toInt.natAbs w.toInt.natAbs : Int) := by
  intro k
  induction k with
  | zero =>
    intro fu u w j hu hw hk hj hf
    obtain ⟨f, rfl⟩ : ∃ f, fu = f + 1 := ⟨fu - 1, by omega⟩
    have w0 : w = 0 := nj_eq.mpr (by show w.toInt = 0; omega)
    rw [mf_Whole_commonDivisor_L15, if_neg (fun q => by have := (ni_leL (c := 200) rfl (by omega)).mp q; omega), if_pos w0]
    refine ⟨u, rfl, ?_⟩
    rw [w0]
    show u.toInt = -(Nat.gcd u.toInt.natAbs 0 : Int)
    rw [Nat.gcd_zero_right]; omega
  | succ k ih =>
    intro fu u w j hu hw hk hj hf
    obtain ⟨f, rfl⟩ : ∃ f, fu = f + 1 + 1 := ⟨fu - 2, by omega⟩
    rw [mf_Whole_commonDivisor_L15, if_neg (fun q => by have := (ni_leL (c := 200) rfl (by omega)).mp q; omega)]
    by_cases w0 : w = 0
    · rw [if_pos w0]
      refine ⟨u, rfl, ?_⟩
      rw [w0]
      show u.toInt = -(Nat.gcd u.toInt.natAbs 0 : Int)
      rw [Nat.gcd_zero_right]; omega
    · have wn : w.toInt ≠ 0 := fun q => w0 (nj_eq.mpr q)
      rw [if_neg w0, sd_g_t (sd_zJt wn)]
      show ∃ v, mf_Whole_commonDivisor_L15 (f + 1) w (u - u / w * w) (nI j + 1) = some v ∧ _
      have r1 := nj_rem u w
      have r1n : (u - u / w * w).toInt.natAbs = u.toInt.natAbs % w.toInt.natAbs := by rw [r1, Int.natAbs_tmod]
      have r1s : (u - u / w * w).toInt ≤ 0 := by
        rw [r1]
        have := Int.tmod_nonneg w.toInt (a := -u.toInt) (by omega)
        rw [Int.neg_tmod] at this
        omega
      generalize u - u / w * w = z at r1n r1s
      have g1 : Nat.gcd u.toInt.natAbs w.toInt.natAbs = Nat.gcd w.toInt.natAbs z.toInt.natAbs := by
        rw [r1n, Nat.gcd_comm, Nat.gcd_rec, Nat.gcd_comm]
      rw [nI_1, mf_Whole_commonDivisor_L15, if_neg (fun q => by have := (ni_leL (c := 200) rfl (by omega)).mp q; omega), g1]
      by_cases z0 : z = 0
      · rw [if_pos z0]
        refine ⟨w, rfl, ?_⟩
        rw [z0]
        show w.toInt = -(Nat.gcd w.toInt.natAbs 0 : Int)
        rw [Nat.gcd_zero_right]; omega
      · have zn : z.toInt ≠ 0 := fun q => z0 (nj_eq.mpr q)
        rw [if_neg z0, sd_g_t (sd_zJt zn)]
        show ∃ v, mf_Whole_commonDivisor_L15 f z (w - w / z * z) (nI (j + 1) + 1) = some v ∧ _
        have r2 := nj_rem w z
        have r2n : (w - w / z * z).toInt.natAbs = w.toInt.natAbs % z.toInt.natAbs := by rw [r2, Int.natAbs_tmod]
        have r2s : (w - w / z * z).toInt ≤ 0 := by
          rw [r2]
          have := Int.tmod_nonneg z.toInt (a := -w.toInt) (by omega)
          rw [Int.neg_tmod] at this
          omega
        generalize w - w / z * z = y at r2n r2s
        have g2 : Nat.gcd w.toInt.natAbs z.toInt.natAbs = Nat.gcd z.toInt.natAbs y.toInt.natAbs := by
          rw [r2n, Nat.gcd_comm, Nat.gcd_rec, Nat.gcd_comm]
        have hz : z.toInt.natAbs < w.toInt.natAbs := by rw [r1n]; exact Nat.mod_lt _ (by omega)
        have hh := nat_half (u := w.toInt.natAbs) (l := z.toInt.natAbs) (by omega) (by omega)
        rw [Nat.pow_succ] at hk
        rw [nI_1, g2]
        exact ih f z y (j + 1 + 1) (by omega) r2s (by rw [r2n]; omega) (by omega) (by omega)
/-- commonDivisor: the gcd; 1 for 0 and 0; the least long for 2^63 -/
theorem mf_commonDivisor {F : Nat} (hF : 200 ≤ F) (a b : Int64) : ∃ v, mf_Whole_commonDivisor F a b = some v ∧
    v.toInt = (if Nat.gcd a.toInt.natAbs b.toInt.natAbs = 0 then 1 else if Nat.gcd a.toInt.natAbs b.toInt.natAbs = 9223372036854775808 then -9223372036854775808 else (Nat.gcd a.toInt.natAbs b.toInt.natAbs : Int)) := by
  obtain ⟨u, e1, h1⟩ := mf_belowZero F a
  obtain ⟨w, e2, h2⟩ := mf_belowZero F b
  have hb := nj_bd b
  obtain ⟨v, e3, h3⟩ := mf_gcd_loop 64 F u w 0 (by omega) (by omega) (by omega) (by omega) (by omega)
  have hun : u.toInt.natAbs = a.toInt.natAbs := by omega
  have hwn : w.toInt.natAbs = b.toInt.natAbs := by omega
  rw [hun, hwn] at h3
  generalize hg : Nat.gcd a.toInt.natAbs b.toInt.natAbs = G at h3
  unfold mf_Whole_commonDivisor
  rw [e1]
  show ∃ v, sd_b1 (mf_Whole_belowZero F b) (fun r_1 => sd_b1 (mf_Whole_commonDivisor_L15 F u r_1 (0 : Int32)) (fun rx4 => sd_b1 (if rx4 = (0 : Int64) then (some ((1 : Int64))) else (some ((-rx4)))) fun y => (some (y)))) = some v ∧ _
  rw [e2]
  show ∃ v, sd_b1 (mf_Whole_commonDivisor_L15 F u w (nI 0)) (fun rx4 => sd_b1 (if rx4 = (0 : Int64) then (some ((1 : Int64))) else (some ((-rx4)))) fun y => (some (y))) = some v ∧ _
  rw [e3]
  show ∃ z, sd_b1 (if v = (0 : Int64) then (some ((1 : Int64))) else (some ((-v)))) (fun y => (some (y))) = some z ∧ _
  have hvb := nj_bd v
  by_cases v0 : v = 0
  · rw [if_pos v0]
    have : v.toInt = 0 := by rw [v0]; rfl
    refine ⟨1, rfl, ?_⟩
    rw [if_pos (by omega)]; rfl
  · rw [if_neg v0]
    have vn : v.toInt ≠ 0 := fun q => v0 (nj_eq.mpr q)
    refine ⟨-v, rfl, ?_⟩
    rw [if_neg (by omega)]
    by_cases hm : v.toInt = -9223372036854775808
    · rw [if_pos (by omega)]
      have : v = -9223372036854775808 := nj_eq.mpr hm
      rw [this]; rfl
    · rw [if_neg (by omega), nj_neg hm]; omega
/-- where a factor is not 0 and small -/
theorem mf_commonDivisor' {F : Nat} (hF : 200 ≤ F) (a b : Int64) (h0 : Nat.gcd a.toInt.natAbs b.toInt.natAbs ≠ 0) (h1 : Nat.gcd a.toInt.natAbs b.toInt.natAbs < 9223372036854775808) : ∃ v, mf_Whole_commonDivisor F a b = some v ∧ v.toInt = (Nat.gcd a.toInt.natAbs b.toInt.natAbs : Int) := by
  obtain ⟨v, e, h⟩ := mf_commonDivisor hF a b
  refine ⟨v, e, ?_⟩
  rw [if_neg h0, if_neg (by omega)] at h
  exact h
