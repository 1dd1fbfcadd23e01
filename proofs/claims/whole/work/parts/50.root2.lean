/-! findTwiceRoot: twice the root, digit by digit -/
theorem ft_loop {F t : Nat} (hF : 18446744073709551616 ≤ F) (ht : t ≤ 67) (fR fQ : Int64) : ∀ (k fu : Nat) (u v : Nat → Int32) (R S X : Nat), k ≤ 64 → k < t → k < fu → 65536 ≤ R → S ≤ 2 * R → R * R + S = X →
    (∀ i, i < k → v i = 0) → dr 65536 (di v) k (t - k + 1) = (2 * R : Nat) → dr_in 65536 (di v) k (t - k + 1) → v t ≠ 0 →
    (∀ i, i < 2 * k → u i = 0) → dr 65536 (di u) (2 * k) (t - k + 1) = (S : Nat) → dr_in 65536 (di u) (2 * k) (t - k + 1) →
    ∃ u' v' R', mf_EndsFinder_findTwiceRoot_L94 F (nI t) fR fQ fu (dnI k) u v = some (u', v') ∧ dr 65536 (di v') 0 (t + 1) = (2 * R' : Nat) ∧ dr_in 65536 (di v') 0 (t + 1) ∧ (∀ i, t < i → v' i = v i) ∧
      R' * R' ≤ X * 4294967296 ^ k ∧ X * 4294967296 ^ k < (R' + 1) * (R' + 1) := by
  intro k
  induction k with
  | zero =>
    intro fu u v R S X h1 h2 h3 hR hS hX v0 v1 v2 v3 u0 u1 u2
    obtain ⟨fu, rfl⟩ : ∃ g, fu = g + 1 := ⟨fu - 1, by omega⟩
    rw [mf_EndsFinder_findTwiceRoot_L94, if_pos dnI_n0]
    refine ⟨u, v, R, rfl, v1, v2, fun i _ => rfl, ?_, ?_⟩
    · rw [Nat.pow_zero]; omega
    · rw [Nat.pow_zero]; have : (R + 1) * (R + 1) = R * R + 2 * R + 1 := by grind
      omega
  | succ k ih =>
    intro fu u v R S X h1 h2 h3 hR hS hX v0 v1 v2 v3 u0 u1 u2
    obtain ⟨fu, rfl⟩ : ∃ g, fu = g + 1 := ⟨fu - 1, by omega⟩
    obtain ⟨n, rfl⟩ : ∃ n, t = k + n + 2 := ⟨t - k - 2, by omega⟩
    rw [show k + n + 2 - (k + 1) + 1 = n + 2 by omega] at v1 v2 u1 u2
    have z0 : di u (2 * k) = 0 := by unfold di; rw [u0 _ (by omega)]; rfl
    have z1 : di u (2 * k + 1) = 0 := by unfold di; rw [u0 _ (by omega)]; rfl
    obtain ⟨u', v', q, f1, f2, f3, f4, f5, f6, S', f7, f8, f9, f10, f11⟩ := fd_digit (F := F) (k := k) (n := n) hF ht (by omega) fR fQ u v hR hS (v0 k (by omega)) v1 v2 v3
      (by rw [show n + 4 = n + 2 + 1 + 1 by omega, dr_s, dr_s, z0, z1, show 2 * k + 1 + 1 = 2 * (k + 1) by omega, u1]; omega)
      (fun i p r => by
        rcases Nat.lt_or_ge i (2 * k + 2) with z | z
        · have : di u i = 0 := by unfold di; rw [u0 _ (by omega)]; rfl
          rw [this]; decide
        · exact u2 i (by omega) (by omega))
    rw [mf_EndsFinder_findTwiceRoot_L94, dnI_s, if_neg (dnI_np (by omega)), f1, sd_b2_s, sd_let_s, dnI_d]
    obtain ⟨u2', v2', R', g1, g2, g3, g4, g5, g6⟩ := ih fu u' v' (R * 65536 + q) S' (X * 4294967296) (by omega) (by omega) (by omega) (by omega) f9 (by
        rw [← hX]
        have e : (R * 65536 + q) * (R * 65536 + q) = R * R * 4294967296 + q * (131072 * R + q) := by grind
        rw [e, Nat.add_mul]
        omega)
      (fun i p => by rw [f6 i (by omega)]; exact v0 i (by omega)) (by rw [show k + n + 2 - k + 1 = n + 3 by omega]; exact f3) (by rw [show k + n + 2 - k + 1 = n + 3 by omega]; exact f4) f5
      (fun i p => by rw [f11 i (by omega)]; exact u0 i (by omega)) (by rw [show k + n + 2 - k + 1 = n + 3 by omega]; exact f7) (by rw [show k + n + 2 - k + 1 = n + 3 by omega]; exact f10)
    refine ⟨u2', v2', R', g1, g2, g3, fun i p => ?_, ?_, ?_⟩
    · rw [g4 i p, f6 i (by omega)]
    · rw [Nat.pow_succ, Nat.mul_comm (4294967296 ^ k), ← Nat.mul_assoc]; exact g5
    · rw [Nat.pow_succ, Nat.mul_comm (4294967296 ^ k), ← Nat.mul_assoc]; exact g6
/-- from the head on -/
theorem ft_tail {F P R Q X : Nat} (hF : 18446744073709551616 ≤ F) (hP : P ≤ 64) (hP2 : 63 ≤ P) (hR : 65536 ≤ R) (hR2 : R < 70368744177664) (hQ : Q ≤ 2 * R) (hX : R * R + Q = X) (fR fQ : Int64) (cfr cft : Nat → Int32) (h0 : ∀ i, i < 68 → cft i = 0) :
    ∃ u' v' R', (sd_b1 (mf_Arrays_fill F 132 (0 : Int32) cfr) fun ufr => (sd_b1 (mf_Wide_putLong F 68 (nI P) ((2 : Int64) * lN R) cft) fun uft => (sd_b1 (mf_Wide_putLong F 132 (nI (2 * P)) (lN Q) ufr) fun ufr_1 => (sd_b1 (mf_Wide_topOf F 68 uft) fun r => (sd_let (nI P - (1 : Int32)) fun x7 => (sd_b2 (mf_EndsFinder_findTwiceRoot_L94 F r fR fQ F x7 ufr_1 uft) fun rufr ruft => (some (fR, fQ, rufr, ruft)))))))) = some (fR, fQ, u', v') ∧
      dr 65536 (di v') 0 68 = (2 * R' : Nat) ∧ dr_in 65536 (di v') 0 68 ∧ R' * R' ≤ X * 4294967296 ^ P ∧ X * 4294967296 ^ P < (R' + 1) * (R' + 1) := by
  obtain ⟨w, a1, a2⟩ := wf_fill hF (show 132 < 2147483648 by omega) 0 cfr
  have p4 : (18446744073709551616 : Nat) ≤ 65536 ^ (68 - P) := by
    have : 65536 ^ 4 ≤ 65536 ^ (68 - P) := Nat.pow_le_pow_right (by decide) (by omega)
    exact Nat.le_trans (by decide) this
  have p5 : (18446744073709551616 : Nat) ≤ 65536 ^ (132 - 2 * P) := by
    have : 65536 ^ 4 ≤ 65536 ^ (132 - 2 * P) := Nat.pow_le_pow_right (by decide) (by omega)
    exact Nat.le_trans (by decide) this
  obtain ⟨v, b1, b2, b3, b4⟩ := wp_put (F := F) (n := 68) (k := P) hF (by omega) (by omega) (2 * R) cft (by omega) (by omega) (fun i p q => h0 i q)
  obtain ⟨u, c1, c2, c3, c4⟩ := wp_put (F := F) (n := 132) (k := 2 * P) hF (by omega) (by omega) Q w (by omega) (by omega) (fun i p q => a2 i q)
  obtain ⟨j, d1, d2, d3, d4⟩ := wo_top hF (show 68 < 2147483648 by omega) v
  have hj : P + 2 ≤ j := by
    rcases Nat.lt_or_ge j (P + 2) with z | z
    · exfalso
      obtain ⟨m, hm⟩ : ∃ m, 68 - P = m + 1 := ⟨68 - P - 1, by omega⟩
      rw [hm, dr_s, dr_zero 65536 m (P + 1) (fun i p q => by unfold di; rw [d3 i (by omega) (by omega)]; rfl)] at b2
      have := b3 P (by omega) (by omega)
      omega
    · exact z
  obtain ⟨t, rfl⟩ : ∃ t, j = t + 1 := ⟨j - 1, by omega⟩
  have e1 : dr 65536 (di v) P (t - P + 1) = (2 * R : Nat) := by
    rw [← b2, show 68 - P = (t - P + 1) + (67 - t) by omega, dr_cat 65536 (di v) (t - P + 1) P (67 - t), dr_zero 65536 (f := di v) (67 - t) _ (fun i p q => by unfold di; rw [d3 i (by omega) (by omega)]; rfl)]
    simp
  have e2 : dr_in 65536 (di v) P (t - P + 1) := fun i p q => b3 i p (by omega)
  have e3 : 2 * R < 65536 ^ (t - P + 1) := by
    have h1 := dr_lt 65536 (by decide) _ _ e2
    have ep : (65536 : Int) ^ (t - P + 1) = ((65536 ^ (t - P + 1) : Nat) : Int) := (Int.natCast_pow 65536 _).symm
    rw [e1, ep] at h1
    exact Int.ofNat_lt.mp h1
  have e4 : dr_in 65536 (di u) (2 * P) (t - P + 1) := fun i p q => c3 i p (by omega)
  have e5 : dr 65536 (di u) (2 * P) (t - P + 1) = (Q : Nat) := by
    rw [show 132 - 2 * P = (t - P + 1) + (131 - P - t) by omega, dr_cat] at c2
    have h1 := dr_pos 65536 (by decide) _ _ e4
    have h2 := dr_pos 65536 (by decide) (131 - P - t) (2 * P + (t - P + 1)) (fun i p q => c3 i (by omega) (by omega))
    have ep : (65536 : Int) ^ (t - P + 1) = ((65536 ^ (t - P + 1) : Nat) : Int) := (Int.natCast_pow 65536 _).symm
    rw [ep] at c2
    rcases Int.lt_or_le 0 (dr 65536 (di u) (2 * P + (t - P + 1)) (131 - P - t)) with z | z
    · exfalso
      have m1 : ((65536 ^ (t - P + 1) : Nat) : Int) * 1 ≤ ((65536 ^ (t - P + 1) : Nat) : Int) * dr 65536 (di u) (2 * P + (t - P + 1)) (131 - P - t) := Int.mul_le_mul_of_nonneg_left (by omega) (Int.natCast_nonneg _)
      generalize ((65536 ^ (t - P + 1) : Nat) : Int) * dr 65536 (di u) (2 * P + (t - P + 1)) (131 - P - t) = y at *
      generalize 65536 ^ (t - P + 1) = y2 at *
      omega
    · rw [show dr 65536 (di u) (2 * P + (t - P + 1)) (131 - P - t) = 0 by omega, Int.mul_zero, Int.add_zero] at c2
      exact c2
  have vt : v t ≠ 0 := by
    rcases d4 with z | z
    · omega
    · exact z
  obtain ⟨u', v', R', g1, g2, g3, g4, g5, g6⟩ := ft_loop (F := F) (t := t) hF (by omega) fR fQ P F u v R Q X (by omega) (by omega) (by omega) hR hQ hX (fun i p => by rw [b4 i (by omega)]; exact h0 i (by omega)) e1 e2 vt
    (fun i p => by rw [c4 i (by omega)]; exact a2 i (by omega)) e5 e4
  have eP : nI P - (1 : Int32) = dnI P := by
    obtain ⟨p, rfl⟩ : ∃ p, P = p + 1 := ⟨P - 1, by omega⟩
    rw [nI_pred]; rfl
  rw [a1, sd_b1_s, show (2 : Int64) = lN 2 from rfl, lN_mul, b1, sd_b1_s, c1, sd_b1_s, d2, sd_b1_s, sd_let_s, eP, dnI_s, g1, sd_b2_s]
  refine ⟨u', v', R', rfl, ?_, ?_, g5, g6⟩
  · rw [show 68 = (t + 1) + (67 - t) by omega, dr_cat, g2, dr_zero 65536 (67 - t) _ (fun i p q => by unfold di; rw [g4 i (by omega), d3 i (by omega) (by omega)]; rfl)]
    simp
  · intro i p q
    rcases Nat.lt_or_ge i (t + 1) with z | z
    · exact g3 i p (by omega)
    · unfold di; rw [g4 i (by omega), d3 i (by omega) (by omega)]; decide
