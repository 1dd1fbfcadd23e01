/-! findDigit -/
/-- the sign of a row is its top digit's -/
theorem dr_sgn {f : Nat → Int} {k m : Nat} (h : dr_in 65536 f k m) : (0 ≤ f (k + m) ↔ 0 ≤ dr 65536 f k (m + 1)) := by
  have l1 := dr_pos 65536 (by decide) m k h
  have l2 := dr_lt 65536 (by decide) m k h
  rw [dr_top]
  have p : (0 : Int) < 65536 ^ m := Int.pow_pos (by decide)
  constructor
  · intro z
    have := Int.mul_nonneg z (Int.le_of_lt p)
    omega
  · intro z
    rcases Int.lt_or_le (f (k + m)) 0 with y | y
    · exfalso
      have : f (k + m) * 65536 ^ m ≤ (-1) * 65536 ^ m := Int.mul_le_mul_of_nonneg_right (by omega) (Int.le_of_lt p)
      omega
    · exact y
theorem nI_2x {x : Nat} (h0 : 0 < x) (h : x < 1000000) : (2 : Int32) * nI x - (1 : Int32) = nI (2 * x - 1) := by
  have h2 : (2 : Int32).toInt = 2 := rfl
  have h1 : (1 : Int32).toInt = 1 := rfl
  have m1 : ((2 : Int32) * nI x).toInt = 2 * x := by
    rw [ni_mul] <;> rw [nI_toInt (by omega), h2] <;> omega
  rw [ni_eq, nI_toInt (by omega), ni_sub] <;> rw [m1, h1] <;> omega
theorem nI_2m (x : Nat) : (2 : Int32) * nI x = nI (2 * x) := (Int32.ofNat_mul 2 x).symm
theorem fd_loop {F k t m : Nat} (hF : 18446744073709551616 ≤ F) (hm : k + m = t + 1) (hm0 : 0 < m) (ht : t ≤ 67) (hk : k ≤ 63) {V D q : Nat} (q1 : q * (D + q) ≤ V) (q2 : V < (q + 1) * (D + (q + 1))) (qb : q ≤ 65535) :
    ∀ (j fu w : Nat) (u v : Nat → Int32), q + j ≤ 65535 → w + j ≤ 3 → j < fu → dr 65536 (di v) (k + 1) (m - 1) * 65536 = D → dr_in 65536 (di v) (k + 1) (m - 1) →
      dr 65536 (di u) (2 * k) (m + 1) = (V : Int) - (q + j) * (D + (q + j)) → dr_in 65536 (di u) (2 * k) m → -1073741824 + 67108864 * j ≤ di u (2 * k + m) → di u (2 * k + m) ≤ 1073741824 - 67108864 * j →
      ∃ u' v', mf_EndsFinder_findDigit_L39 (nI t) (nI k) F fu (nI (q + j)) (nI w) u v = some (nI q, u', v') ∧ (∀ i, i ≠ k → v' i = v i) ∧ (∀ i, i < 2 * k ∨ 2 * k + m < i → u' i = u i) ∧
        dr 65536 (di u') (2 * k) (m + 1) = (V : Int) - q * (D + q) ∧ dr_in 65536 (di u') (2 * k) m := by
  intro j
  induction j with
  | zero =>
    intro fu w u v h1 h2 h3 h4 h5 h6 h7 h8 h9
    obtain ⟨fu, rfl⟩ : ∃ g, fu = g + 1 := ⟨fu - 1, by omega⟩
    have e0 : dr 65536 (di u) (2 * k) (m + 1) = (V : Int) - q * (D + q) := by rw [h6]; simp
    have q1' : (q : Int) * (D + q) ≤ V := by exact_mod_cast q1
    have sg := (dr_sgn h7).mpr (by omega)
    have s0 : (0 : Int32) ≤ u (t + k + 1) := ni_le.mpr (by
      rw [show t + k + 1 = 2 * k + m by omega]; exact sg)
    rw [mf_EndsFinder_findDigit_L39, show (4 : Int32) = nI 4 from rfl, nI_ifLe (by omega) (by omega), if_neg (by omega), nI_add, nI_1, sd_g_t (sd_ixI (by omega) (by omega)), nI_clamp (by omega), if_pos s0]
    exact ⟨u, v, rfl, fun i _ => rfl, fun i _ => rfl, e0, h7⟩
  | succ j ih =>
    intro fu w u v h1 h2 h3 h4 h5 h6 h7 h8 h9
    obtain ⟨fu, rfl⟩ : ∃ g, fu = g + 1 := ⟨fu - 1, by omega⟩
    have q2' : (V : Int) < (q + (j + 1 : Nat)) * (D + (q + (j + 1 : Nat))) := by
      have a1 : (q + 1) * (D + (q + 1)) ≤ (q + (j + 1)) * (D + (q + (j + 1))) := Nat.mul_le_mul (by omega) (by omega)
      have a2 : V < (q + (j + 1)) * (D + (q + (j + 1))) := by omega
      exact_mod_cast a2
    have sg : di u (2 * k + m) < 0 := by
      rcases Int.lt_or_le (di u (2 * k + m)) 0 with y | y
      · exact y
      · have := (dr_sgn h7).mp y
        omega
    have s0 : ¬ (0 : Int32) ≤ u (t + k + 1) := fun z => by
      have := ni_le.mp z
      rw [show t + k + 1 = 2 * k + m by omega] at this
      have z0 : (0 : Int32).toInt = 0 := rfl
      unfold di at sg
      omega
    rw [mf_EndsFinder_findDigit_L39, show (4 : Int32) = nI 4 from rfl, nI_ifLe (by omega) (by omega), if_neg (by omega), nI_add, nI_1, sd_g_t (sd_ixI (by omega) (by omega)), nI_clamp (by omega), if_neg s0,
      sd_g_t (sd_ixI (by omega) (by omega)), sd_let_s, nI_clamp (by omega), nI_2x (by omega) (by omega), dnI_d, show dnI (q + (j + 1)) = nI (q + j) from rfl]
    have vk : di (upd v k (nI (2 * (q + (j + 1)) - 1))) k = 2 * (q + (j + 1) : Nat) - 1 := by
      rw [di_upd, if_pos rfl, nI_toInt (by omega)]; omega
    have vo : dr 65536 (di (upd v k (nI (2 * (q + (j + 1)) - 1)))) (k + 1) (m - 1) = dr 65536 (di v) (k + 1) (m - 1) :=
      dr_congr _ _ _ (fun i p q => by rw [di_upd, if_neg (by omega)])
    have vs : dr 65536 (di (upd v k (nI (2 * (q + (j + 1)) - 1)))) k m = 2 * (q + (j + 1) : Nat) - 1 + D := by
      obtain ⟨m', rfl⟩ : ∃ m', m = m' + 1 := ⟨m - 1, by omega⟩
      rw [dr_s, vk, show m' = m' + 1 - 1 by omega, vo]
      omega
    obtain ⟨u2, t1, t2, t3, t4, t5, t6⟩ := wt_take (F := F) (off := k) (nT := 132) (nR := 68) (s := k) (m := m) hF (-1 : Int32) u (upd v k (nI (2 * (q + (j + 1)) - 1))) (by omega) (by omega) (by omega) (by omega) (by decide) (fun i p r => by
      rw [di_upd]
      by_cases z : i = k
      · rw [if_pos z, nI_toInt (by omega)]; omega
      · rw [if_neg z]
        have := h5 i (by omega) (by omega)
        omega) (by
      rw [show k + m + k = 2 * k + m by omega]; omega)
    rw [show k + m - 1 = t by omega] at t1
    rw [show k + k = 2 * k by omega] at t2 t3 t4
    rw [show k + m + k = 2 * k + m by omega] at t5 t6
    rw [t1, sd_b1_s, sd_let_s, sd_let_s, nI_1]
    obtain ⟨u', v', g1, g2, g3, g4, g5⟩ := ih fu (w + 1) u2 (upd v k (nI (2 * (q + (j + 1)) - 1))) (by omega) (by omega) (by omega) (by rw [vo]; exact h4) (fun i p r => by
      rw [di_upd, if_neg (by omega)]; exact h5 i p r) (by
      rw [t2, h6, vs, show (-1 : Int32).toInt = -1 from rfl]
      generalize (D : Int) = d
      generalize (V : Int) = y
      simp only [Int.natCast_add, Int.natCast_one]
      generalize (q : Int) = a
      generalize (j : Int) = b
      grind) t4 (by omega) (by omega)
    refine ⟨u', v', g1, fun i p => ?_, fun i p => ?_, g4, g5⟩
    · rw [g2 i p]; exact if_neg p
    · rw [g3 i p, t3 i p]
