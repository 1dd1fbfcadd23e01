theorem fd_digit {F k n : Nat} (hF : 18446744073709551616 ≤ F) (ht : k + n + 2 ≤ 67) (hk : k ≤ 63) (fR fQ : Int64) (u v : Nat → Int32) {R S : Nat} (hR : 65536 ≤ R) (hS : S ≤ 2 * R)
    (v0 : v k = 0) (v1 : dr 65536 (di v) (k + 1) (n + 2) = (2 * R : Nat)) (v2 : dr_in 65536 (di v) (k + 1) (n + 2)) (v3 : v (k + n + 2) ≠ 0)
    (u1 : dr 65536 (di u) (2 * k) (n + 4) = (S * 4294967296 : Nat)) (u2 : dr_in 65536 (di u) (2 * k) (n + 4)) :
    ∃ u' v' q, mf_EndsFinder_findDigit F (nI k) (nI (k + n + 2)) fR fQ u v = some (u', v') ∧ q ≤ 65535 ∧ dr 65536 (di v') k (n + 3) = (2 * (R * 65536 + q) : Nat) ∧ dr_in 65536 (di v') k (n + 3) ∧ v' (k + n + 2) ≠ 0 ∧ (∀ i, i < k ∨ k + n + 2 < i → v' i = v i) ∧
      ∃ S' : Nat, dr 65536 (di u') (2 * k) (n + 3) = S' ∧ S' + q * (131072 * R + q) = S * 4294967296 ∧ S' ≤ 2 * (R * 65536 + q) ∧ dr_in 65536 (di u') (2 * k) (n + 3) ∧ (∀ i, i < 2 * k ∨ 2 * k + n + 3 < i → u' i = u i) := by
  have k0 : di v k = 0 := by unfold di; rw [v0]; rfl
  have vD : dr 65536 (di v) k (n + 3) = (131072 * R : Nat) := by
    rw [show n + 3 = n + 2 + 1 by omega, dr_s, v1, k0]; omega
  have vI : dr_in 65536 (di v) k (n + 3) := fun i p q => by
    rcases Nat.eq_or_lt_of_le p with z | z
    · rw [← z, k0]; decide
    · exact v2 i (by omega) (by omega)
  obtain ⟨d, e, d1, e1, dl, el, L1, L2⟩ := dr_top2 (m := n + 1) vI vD
  obtain ⟨a, b, c, a1, b1, c1, al, bl, cl, U1, U2⟩ := dr_top3 (m := n + 1) u2 u1
  have d0 : 0 < d := by
    rcases Nat.eq_zero_or_pos d with z | z
    · exfalso
      apply v3
      rw [z] at d1
      rw [show k + n + 2 = k + (n + 1) + 1 by omega]
      exact ni_eq.mpr d1
    · exact z
  have eg := wg_guess F (nT := 132) (nR := 68) (off := k) (top := k + n + 2) (a := a) (b := b) (c := c) (d := d) (e := e) (cT := u) (cR := v) (by omega) (by omega) (by omega)
    (by rw [← a1]; congr 1; omega) (by rw [← b1]; congr 1; omega) (Or.inr ⟨by omega, by rw [← c1]; congr 1; omega⟩) (by rw [← d1]; congr 1) (Or.inr ⟨by omega, by rw [← e1]; congr 1⟩) al bl cl dl el d0
  generalize hg : min ((a * 4294967296 + b * 65536 + c) / (d * 65536 + e)) 65535 = g at eg
  obtain ⟨g1, g2, g3⟩ := gs_bound U1 U2 L1 L2 (by omega) hg.symm
  obtain ⟨q, q1, q2, q3, q4⟩ := gs_root (by omega) g1 g2 g3 (by omega)
  unfold mf_EndsFinder_findDigit
  rw [eg, sd_b1_s, sd_g_t (sd_ixI (by omega) (by omega)), sd_let_s, nI_clamp (by omega)]
  have vo : dr 65536 (di (upd v k (nI g))) (k + 1) (n + 2) = (2 * R : Nat) := by
    rw [← v1]; exact dr_congr _ _ _ (fun i p q => by rw [di_upd, if_neg (by omega)])
  have vs : dr 65536 (di (upd v k (nI g))) k (n + 3) = (g + 131072 * R : Nat) := by
    rw [show n + 3 = n + 2 + 1 by omega, dr_s, vo, di_upd, if_pos rfl, nI_toInt (by omega)]; omega
  have ut := u2 (2 * k + (n + 3)) (by omega) (by omega)
  obtain ⟨w, t1, t2, t3, t4, t5, t6⟩ := wt_take (F := F) (off := k) (nT := 132) (nR := 68) (s := k) (m := n + 3) hF (nI g) u (upd v k (nI g)) (by omega) (by omega) (by omega) (by omega) (by rw [nI_toInt (by omega)]; omega) (fun i p r => by
      rw [di_upd]
      by_cases z : i = k
      · rw [if_pos z, nI_toInt (by omega)]; omega
      · rw [if_neg z]
        have := v2 i (by omega) (by omega)
        omega) (by
      rw [show k + (n + 3) + k = 2 * k + (n + 3) by omega]; omega)
  rw [show k + (n + 3) - 1 = k + n + 2 by omega] at t1
  rw [show k + k = 2 * k by omega] at t2 t3 t4
  rw [show k + (n + 3) + k = 2 * k + (n + 3) by omega] at t5 t6
  rw [t1, sd_b1_s]
  obtain ⟨j, rfl⟩ : ∃ j, g = q + j := ⟨g - q, by omega⟩
  obtain ⟨u', v', f1, f2, f3, f4, f5⟩ := fd_loop (F := F) (k := k) (t := k + n + 2) (m := n + 3) hF (by omega) (by omega) (by omega) (by omega) q3 q4 (by omega) j F 0 w (upd v k (nI (q + j))) (by omega) (by omega) (by omega)
    (by rw [show n + 3 - 1 = n + 2 by omega, vo]; omega) (fun i p r => by rw [di_upd, if_neg (by omega)]; exact v2 i (by omega) (by omega))
    (by rw [t2, u1, vs, nI_toInt (by omega)]; simp only [Int.natCast_add, Int.natCast_mul]; generalize (R : Int) = x; generalize (S : Int) = y; generalize (q : Int) = z; generalize (j : Int) = z2; grind) t4 (by omega) (by omega)
  rw [show (0 : Int32) = nI 0 from rfl, f1, sd_b3_s, sd_g_t (sd_ixI (by omega) (by omega)), sd_let_s, nI_1, sd_g_t (sd_ixI (by omega) (by omega)), sd_g_t (sd_ixI (by omega) (by omega)), sd_let_s, nI_clamp (by omega), nI_2m]
  have x1 : (nI (2 * q) &&& (65535 : Int32)).toInt = (2 * q : Nat) % 65536 := by rw [nb_i16, nI_toInt (by omega)]
  have x2 : (nI (2 * q) >>> ((16 : Int32) &&& 31)).toInt = (2 * q : Nat) / 65536 := by rw [nb_ri16, nI_toInt (by omega)]
  have f2' : ∀ i, i ≠ k → v' i = v i := fun i p => by rw [f2 i p]; exact if_neg p
  have ev : upd v' k (nI (2 * q) &&& (65535 : Int32)) (k + 1) = v (k + 1) := by
    rw [show upd v' k (nI (2 * q) &&& (65535 : Int32)) (k + 1) = v' (k + 1) from if_neg (by omega), f2' _ (by omega)]
  have vk1 := v2 (k + 1) (by omega) (by omega)
  rw [ev]
  have v1' := v1
  rw [show n + 2 = n + 1 + 1 by omega, dr_s] at v1'
  have x3 : (v (k + 1) + nI (2 * q) >>> ((16 : Int32) &&& 31)).toInt = di v (k + 1) + (2 * q : Nat) / 65536 := by
    unfold di at *; rw [ni_add] <;> rw [x2] <;> omega
  refine ⟨_, _, q, rfl, by omega, ?_, ?_, ?_, ?_, ?_⟩
  · rw [show n + 3 = n + 1 + 1 + 1 by omega, dr_s, dr_s, di_upd, if_neg (by omega), di_upd, if_pos rfl, x1, di_upd, if_pos rfl, x3]
    have z : dr 65536 (di (upd (upd v' k (nI (2 * q) &&& (65535 : Int32))) (k + 1) (v (k + 1) + nI (2 * q) >>> ((16 : Int32) &&& 31)))) (k + 1 + 1) (n + 1) = dr 65536 (di v) (k + 1 + 1) (n + 1) :=
      dr_congr _ _ _ (fun i p r => by rw [di_upd, if_neg (by omega), di_upd, if_neg (by omega)]; unfold di; rw [f2' i (by omega)])
    rw [z]
    omega
  · intro i p r
    rw [di_upd]
    by_cases z : i = k + 1
    · rw [if_pos z, x3]; omega
    · rw [if_neg z, di_upd]
      by_cases z2 : i = k
      · rw [if_pos z2, x1]; omega
      · rw [if_neg z2]
        have := v2 i (by omega) (by omega)
        unfold di at *
        rw [f2' i z2]; exact this
  · rw [show upd (upd v' k (nI (2 * q) &&& (65535 : Int32))) (k + 1) (v (k + 1) + nI (2 * q) >>> ((16 : Int32) &&& 31)) (k + n + 2) = upd v' k (nI (2 * q) &&& (65535 : Int32)) (k + n + 2) from if_neg (by omega),
      show upd v' k (nI (2 * q) &&& (65535 : Int32)) (k + n + 2) = v' (k + n + 2) from if_neg (by omega), f2' _ (by omega)]
    exact v3
  · intro i p
    rw [show upd (upd v' k (nI (2 * q) &&& (65535 : Int32))) (k + 1) (v (k + 1) + nI (2 * q) >>> ((16 : Int32) &&& 31)) i = upd v' k (nI (2 * q) &&& (65535 : Int32)) i from if_neg (by omega),
      show upd v' k (nI (2 * q) &&& (65535 : Int32)) i = v' i from if_neg (by omega), f2' _ (by omega)]
  · obtain ⟨S', hS'⟩ : ∃ S' : Nat, S' + q * (131072 * R + q) = S * 4294967296 := ⟨S * 4294967296 - q * (131072 * R + q), by omega⟩
    have f4' : dr 65536 (di u') (2 * k) (n + 3 + 1) = S' := by
      rw [f4]
      have : ((S' + q * (131072 * R + q) : Nat) : Int) = (S * 4294967296 : Nat) := by rw [hS']
      simp only [Int.natCast_add, Int.natCast_mul] at this ⊢
      omega
    have q4' : S' ≤ 2 * (R * 65536 + q) := by
      have : (q + 1) * (131072 * R + (q + 1)) = q * (131072 * R + q) + 131072 * R + 2 * q + 1 := by grind
      omega
    have hlt : 2 * (R * 65536 + q) < 65536 ^ (n + 3) := by
      have h1 := dr_lt 65536 (by decide) (n + 3) k vI
      have h2 : (131072 * R : Nat) < 65536 ^ (n + 3) := by
        have ep : (65536 : Int) ^ (n + 3) = ((65536 ^ (n + 3) : Nat) : Int) := (Int.natCast_pow 65536 (n + 3)).symm
        rw [vD, ep] at h1
        exact Int.ofNat_lt.mp h1
      have h3 : 65536 ^ (n + 3) = 131072 * (32768 * 65536 ^ (n + 1)) := by
        rw [show n + 3 = n + 1 + 2 by omega, Nat.pow_add]
        generalize 65536 ^ (n + 1) = y
        omega
      rw [h3] at h2 ⊢
      generalize 65536 ^ (n + 1) = y at *
      omega
    have top0 : di u' (2 * k + (n + 3)) = 0 := by
      have s1 := (dr_sgn f5).mpr (by rw [f4']; omega)
      rcases Int.lt_or_le 0 (di u' (2 * k + (n + 3))) with z | z
      · exfalso
        have l1 := dr_pos 65536 (by decide) (n + 3) (2 * k) f5
        rw [dr_top] at f4'
        have m1 : 1 * (65536 : Int) ^ (n + 3) ≤ di u' (2 * k + (n + 3)) * 65536 ^ (n + 3) := Int.mul_le_mul_of_nonneg_right (by omega) (Int.le_of_lt (Int.pow_pos (by decide)))
        have ep : (65536 : Int) ^ (n + 3) = ((65536 ^ (n + 3) : Nat) : Int) := (Int.natCast_pow 65536 (n + 3)).symm
        rw [ep] at m1 f4'
        generalize di u' (2 * k + (n + 3)) * ((65536 ^ (n + 3) : Nat) : Int) = y at *
        generalize 65536 ^ (n + 3) = y2 at *
        omega
      · omega
    refine ⟨S', ?_, hS', q4', fun i p r => f5 i p r, fun i p => ?_⟩
    · rw [dr_top, top0] at f4'
      omega
    · rw [f3 i (by omega), t3 i (by omega)]
