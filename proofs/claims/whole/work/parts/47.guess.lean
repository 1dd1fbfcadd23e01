/-! the guess at a digit -/
theorem di_nI {u : Nat → Int32} {i a : Nat} (h : di u i = a) : u i = nI a := by
  have hb := nj_bdd u i
  rw [ni_eq, nI_toInt (by omega)]; exact h
theorem wg_guess (F : Nat) {nT nR off top a b c d e : Nat} {cT cR : Nat → Int32} (hat : top + off + 1 < nT) (hT : nT < 2147483648) (hR : top < nR) (ha : di cT (top + off + 1) = a) (hb : di cT (top + off) = b) (hc : (top + off = 0 ∧ c = 0) ∨ (0 < top + off ∧ di cT (top + off - 1) = c))
    (hd : di cR top = d) (he : (top = 0 ∧ e = 0) ∨ (0 < top ∧ di cR (top - 1) = e)) (la : a < 65536) (lb : b < 65536) (lc : c < 65536) (ld : d < 65536) (le : e < 65536) (d0 : 0 < d) :
    mf_Wide_guess F nT nR (nI off) (nI top) cT cR = some (nI (min ((a * 4294967296 + b * 65536 + c) / (d * 65536 + e)) 65535)) := by
  have y1 : (if nI (top + off) ≤ 0 then some (0 : Int32) else sd_g (sd_ix (nI (top + off) - (1 : Int32)) nT) (some (cT (nI (top + off) - (1 : Int32)).toNatClampNeg))) = some (nI c) := by
    rcases hc with ⟨z1, z2⟩ | ⟨z1, z2⟩
    · rw [z1, z2, if_pos (by decide)]; rfl
    · obtain ⟨w, hw⟩ : ∃ w, top + off = w + 1 := ⟨top + off - 1, by omega⟩
      rw [hw] at z2 ⊢
      rw [if_neg (nI_nle (by omega) (by omega)), nI_pred, sd_g_t (sd_ixI (by omega) (by omega)), nI_clamp (by omega)]
      rw [show w + 1 - 1 = w by omega] at z2
      rw [di_nI z2]
  have y2 : (if nI top ≤ 0 then some (0 : Int32) else sd_g (sd_ix (nI top - (1 : Int32)) nR) (some (cR (nI top - (1 : Int32)).toNatClampNeg))) = some (nI e) := by
    rcases he with ⟨z1, z2⟩ | ⟨z1, z2⟩
    · rw [z1, z2, if_pos (by decide)]; rfl
    · obtain ⟨w, hw⟩ : ∃ w, top = w + 1 := ⟨top - 1, by omega⟩
      rw [hw] at z2 ⊢
      rw [if_neg (nI_nle (by omega) (by omega)), nI_pred, sd_g_t (sd_ixI (by omega) (by omega)), nI_clamp (by omega)]
      rw [show w + 1 - 1 = w by omega] at z2
      rw [di_nI z2]
  unfold mf_Wide_guess
  rw [sd_let_s, nI_add, nI_1, sd_g_t (sd_ixI (by omega) (by omega)), sd_g_t (sd_ixI (by omega) (by omega)), y1, sd_b1_s, sd_let_s, sd_g_t (sd_ixI (by omega) (by omega)), y2, sd_b1_s, sd_let_s,
    nI_clamp (by omega), nI_clamp (by omega), nI_clamp (by omega), di_nI ha, di_nI hb, di_nI hd, nI_l (by omega), nI_l (by omega), nI_l (by omega), nI_l (by omega), nI_l (by omega)]
  have s1 : lN a <<< ((32 : Int32).toInt64 &&& 63) = lN (a * 4294967296) := wb_shl a (k := 32) (by omega)
  have s2 : lN b <<< ((16 : Int32).toInt64 &&& 63) = lN (b * 65536) := wb_shl b (k := 16) (by omega)
  have s3 : lN d <<< ((16 : Int32).toInt64 &&& 63) = lN (d * 65536) := wb_shl d (k := 16) (by omega)
  rw [s1, s2, s3, lN_add, lN_add, lN_add, show (0 : Int64) = lN 0 from rfl, lN_ifLt (by omega) (by omega), if_pos (by omega), sd_g_t (sd_zL (by omega) (by omega)), lN_divI (by omega) (by omega) (by omega), sd_b1_s]
  have hq : (a * 4294967296 + b * 65536 + c) / (d * 65536 + e) ≤ a * 4294967296 + b * 65536 + c := Nat.div_le_self _ _
  rw [show (65535 : Int64) = lN 65535 from rfl, lN_ifLe (by omega) (by omega), lN_i]
  by_cases h : (a * 4294967296 + b * 65536 + c) / (d * 65536 + e) ≤ 65535
  · rw [if_pos h, sd_b1_s, Nat.min_eq_left h]
  · rw [if_neg h, sd_b1_s, Nat.min_eq_right (by omega)]; rfl
/-- how near the guess is -/
theorem gs_bound {V D U L M g : Nat} (h1 : U * M ≤ V) (h2 : V < (U + 1) * M) (h3 : L * M ≤ D) (h4 : D < (L + 1) * M) (hL : 65536 ≤ L) (hg : g = min (U / L) 65535) :
    (∀ q, q ≤ 65535 → q * D ≤ V → q ≤ g) ∧ g * D ≤ V + D ∧ g ≤ 65535 := by
  refine ⟨fun q q1 q2 => ?_, ?_, ?_⟩
  · have a1 : q * (L * M) ≤ q * D := Nat.mul_le_mul_left q h3
    have a2 : (q * L) * M < (U + 1) * M := by rw [Nat.mul_assoc]; omega
    have a3 : q * L < U + 1 := Nat.lt_of_mul_lt_mul_right a2
    have a4 : q ≤ U / L := (Nat.le_div_iff_mul_le (by omega)).mpr (by omega)
    omega
  · have a1 : g ≤ U / L := by omega
    have a2 : g * L ≤ U := (Nat.le_div_iff_mul_le (by omega)).mp a1
    have a3 : (g * L) * M ≤ U * M := Nat.mul_le_mul_right M a2
    have a4 : g * D ≤ g * ((L + 1) * M) := Nat.mul_le_mul_left g (Nat.le_of_lt h4)
    have a5 : g * ((L + 1) * M) = (g * L) * M + g * M := by grind
    have a6 : g * M ≤ L * M := Nat.mul_le_mul_right M (by omega)
    omega
  · omega
/-- the top of a row of digits -/
theorem dr_top2 {f : Nat → Int} {k m V : Nat} (h : dr_in 65536 f k (m + 2)) (hv : dr 65536 f k (m + 2) = V) : ∃ d e : Nat, f (k + m + 1) = d ∧ f (k + m) = e ∧ d < 65536 ∧ e < 65536 ∧ (d * 65536 + e) * 65536 ^ m ≤ V ∧ V < (d * 65536 + e + 1) * 65536 ^ m := by
  have q1 := h (k + m + 1) (by omega) (by omega)
  have q2 := h (k + m) (by omega) (by omega)
  obtain ⟨d, hd⟩ := Int.eq_ofNat_of_zero_le q1.1
  obtain ⟨e, he⟩ := Int.eq_ofNat_of_zero_le q2.1
  have hi : dr_in 65536 f k m := fun i p q => h i p (by omega)
  have l1 := dr_pos 65536 (by decide) m k hi
  have l2 := dr_lt 65536 (by decide) m k hi
  obtain ⟨lo, hlo⟩ := Int.eq_ofNat_of_zero_le l1
  refine ⟨d, e, hd, he, by omega, by omega, ?_⟩
  rw [dr_cat 65536 f m k 2, dr_s, dr_s, dr_0, hd, he, hlo, Int.mul_zero, Int.add_zero] at hv
  rw [hlo] at l2
  have ep : (65536 : Int) ^ m = ((65536 ^ m : Nat) : Int) := (Int.natCast_pow 65536 m).symm
  rw [ep] at hv l2
  generalize 65536 ^ m = M at *
  have hv2 : V = lo + M * (e + 65536 * d) := by
    have : ((lo + M * (e + 65536 * d) : Nat) : Int) = (V : Int) := by rw [← hv]; simp
    exact (Int.ofNat.inj this).symm
  have hl : lo < M := by omega
  have e1 : M * (e + 65536 * d) = (d * 65536 + e) * M := by grind
  have e2 : (d * 65536 + e + 1) * M = (d * 65536 + e) * M + M := by grind
  rw [e2, hv2, e1]
  omega
theorem dr_top3 {f : Nat → Int} {k m V : Nat} (h : dr_in 65536 f k (m + 3)) (hv : dr 65536 f k (m + 3) = V) : ∃ a b c : Nat, f (k + m + 2) = a ∧ f (k + m + 1) = b ∧ f (k + m) = c ∧ a < 65536 ∧ b < 65536 ∧ c < 65536 ∧ (a * 4294967296 + b * 65536 + c) * 65536 ^ m ≤ V ∧ V < (a * 4294967296 + b * 65536 + c + 1) * 65536 ^ m := by
  have q0 := h (k + m + 2) (by omega) (by omega)
  have q1 := h (k + m + 1) (by omega) (by omega)
  have q2 := h (k + m) (by omega) (by omega)
  obtain ⟨a, ha⟩ := Int.eq_ofNat_of_zero_le q0.1
  obtain ⟨d, hd⟩ := Int.eq_ofNat_of_zero_le q1.1
  obtain ⟨e, he⟩ := Int.eq_ofNat_of_zero_le q2.1
  have hi : dr_in 65536 f k m := fun i p q => h i p (by omega)
  have l1 := dr_pos 65536 (by decide) m k hi
  have l2 := dr_lt 65536 (by decide) m k hi
  obtain ⟨lo, hlo⟩ := Int.eq_ofNat_of_zero_le l1
  refine ⟨a, d, e, ha, hd, he, by omega, by omega, by omega, ?_⟩
  rw [dr_cat 65536 f m k 3, dr_s, dr_s, dr_s, dr_0, show k + m + 1 + 1 = k + m + 2 by omega, ha, hd, he, hlo, Int.mul_zero, Int.add_zero] at hv
  rw [hlo] at l2
  have ep : (65536 : Int) ^ m = ((65536 ^ m : Nat) : Int) := (Int.natCast_pow 65536 m).symm
  rw [ep] at hv l2
  generalize 65536 ^ m = M at *
  have hv2 : V = lo + M * (e + 65536 * (d + 65536 * a)) := by
    have : ((lo + M * (e + 65536 * (d + 65536 * a)) : Nat) : Int) = (V : Int) := by rw [← hv]; simp
    exact (Int.ofNat.inj this).symm
  have hl : lo < M := by omega
  have e1 : M * (e + 65536 * (d + 65536 * a)) = (a * 4294967296 + d * 65536 + e) * M := by grind
  have e2 : (a * 4294967296 + d * 65536 + e + 1) * M = (a * 4294967296 + d * 65536 + e) * M + M := by grind
  rw [e2, hv2, e1]
  omega
/-- the next digit of a root -/
theorem gs_root {V D g : Nat} (h0 : V ≤ D * 65536) (h1 : ∀ q, q ≤ 65535 → q * D ≤ V → q ≤ g) (h2 : g * D ≤ V + D) (h3 : g ≤ 65535) (hD : 8589934592 ≤ D) :
    ∃ q, q ≤ g ∧ g ≤ q + 2 ∧ q * (D + q) ≤ V ∧ V < (q + 1) * (D + (q + 1)) := by
  obtain ⟨q, a1, a2⟩ := pk_least (fun q => V < (q + 1) * (D + (q + 1))) ⟨V, by
    have : (V + 1) * 1 ≤ (V + 1) * (D + (V + 1)) := Nat.mul_le_mul_left _ (by omega)
    show V < (V + 1) * (D + (V + 1))
    omega⟩
  have a1' : V < (q + 1) * (D + (q + 1)) := a1
  have b1 : q * (D + q) ≤ V := by
    rcases Nat.eq_zero_or_pos q with z | z
    · rw [z, Nat.zero_mul]; omega
    · have : ¬ V < (q - 1 + 1) * (D + (q - 1 + 1)) := a2 (q - 1) (by omega)
      rw [show q - 1 + 1 = q by omega] at this
      omega
  have b2 : q * D ≤ q * (D + q) := Nat.mul_le_mul_left q (by omega)
  have b3 : q ≤ 65535 := by
    rcases Nat.lt_or_ge 65535 q with z | z
    · exfalso
      have c1 : 65536 * (D + 1) ≤ q * (D + q) := Nat.mul_le_mul z (by omega)
      omega
    · exact z
  have b4 := h1 q b3 (by omega)
  refine ⟨q, b4, ?_, b1, a1'⟩
  rcases Nat.lt_or_ge (q + 2) g with z | z
  · exfalso
    obtain ⟨w, hw⟩ : ∃ w, g = w + 2 := ⟨g - 2, by omega⟩
    subst hw
    have c1 : (q + 1) * (D + (q + 1)) ≤ w * (D + w) := Nat.mul_le_mul (by omega) (by omega)
    have c2 : w * w ≤ 65535 * 65535 := Nat.mul_le_mul (by omega) (by omega)
    have c3 : (w + 2) * D = w * (D + w) + 2 * D - w * w := by
      have : (w + 2) * D + w * w = w * (D + w) + 2 * D := by grind
      omega
    have c4 : w * w ≤ w * (D + w) := Nat.mul_le_mul_left w (by omega)
    omega
  · exact z
