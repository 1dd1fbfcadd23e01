/-! nearest, both sides -/
theorem en_dig {s : Nat → Int32} {v : Nat} (h : en_is s (v : Int)) (hv : v < 65536 ^ 67) : ∀ i, i < 68 → s i = nI (v / 65536 ^ i % 65536) := by
  have h67 : di s 67 = 0 := by
    rcases en_sgn h (by have := Nat.zero_le (65536 ^ 67); omega) (Int.ofNat_lt.mpr hv) with z | z
    · exact z.1
    · omega
  have hin : dr_in 65536 (di s) 0 68 := fun i p q => by
    rcases Nat.lt_or_ge i 67 with z | z
    · exact h.1 i p (by omega)
    · rw [show i = 67 by omega, h67]; decide
  intro i hi
  have := dr_nat (W := 65536) (by omega) hin h.2 i hi
  rw [Nat.zero_add] at this
  exact di_nI this
theorem nI_i1 (a : Nat) (ha : a < 2147483648) : nI a &&& (1 : Int32) = nI (a % 2) := by
  rw [ni_eq, nb_i1, nI_toInt (by omega), nI_toInt (by omega)]; rfl
theorem nI_shs : ∀ k, k < 32 → (((nI k &&& 31) : Int32).toBitVec.smod 32).toNat = k := by decide +kernel
theorem nI_shr {a k : Nat} (ha : a < 2147483648) (hk : k < 32) : nI a >>> (nI k &&& 31) = nI (a / 2 ^ k) := pk_shrN (by omega) _ k (nI_shs k hk)
/-- the bits of the top digit -/
theorem wl_loop {t d : Nat} (ht : t < 68) (hd : d < 65536) {s : Nat → Int32} (hs : s t = nI d) : ∀ (r fu k L : Nat), k + r = 16 → r < fu → ((L = 0 ∧ d % 2 ^ k = 0) ∨ ∃ b, is_bl (d % 2 ^ k) b ∧ 0 < b ∧ L = 16 * t + b) → L ≤ 1200 →
    ∃ L', mf_Wide_bitLength_L9 (nI t) 68 s fu (nI L) (nI k) = some (nI L') ∧ ((L' = 0 ∧ d % 2 ^ 16 = 0) ∨ ∃ b, is_bl (d % 2 ^ 16) b ∧ 0 < b ∧ L' = 16 * t + b) := by
  intro r
  induction r with
  | zero =>
    intro fu k L h1 h2 h3 h4
    obtain ⟨fu, rfl⟩ : ∃ g, fu = g + 1 := ⟨fu - 1, by omega⟩
    obtain rfl : k = 16 := by omega
    rw [mf_Wide_bitLength_L9, show (16 : Int32) = nI 16 from rfl, nI_ifLe (by omega) (by omega), if_pos (Nat.le_refl _)]
    exact ⟨L, rfl, h3⟩
  | succ r ih =>
    intro fu k L h1 h2 h3 h4
    obtain ⟨fu, rfl⟩ : ∃ g, fu = g + 1 := ⟨fu - 1, by omega⟩
    have db : d / 2 ^ k ≤ d := Nat.div_le_self _ _
    have ms : d % 2 ^ (k + 1) = d % 2 ^ k + 2 ^ k * (d / 2 ^ k % 2) := Nat.mod_pow_succ
    have ml : d % 2 ^ k < 2 ^ k := Nat.mod_lt _ (Nat.pow_pos (by omega))
    rw [mf_Wide_bitLength_L9, show (16 : Int32) = nI 16 from rfl, nI_ifLe (by omega) (by omega), if_neg (show ¬ 16 ≤ k by omega), if_neg (dnI_np (by omega)), sd_g_t (sd_ixI (by omega) (by omega)), nI_clamp (by omega), hs, nI_shr (by omega) (by omega), nI_i1 _ (by omega), show (1 : Int32) = nI 1 from rfl, nI_ifEq (by omega) (by omega)]
    by_cases c : d / 2 ^ k % 2 = 1
    · have e1 : nI t * nI 16 = nI (t * 16) := (Int32.ofNat_mul t 16).symm
      rw [if_pos c, sd_let_s, sd_b1_s, sd_let_s, e1, nI_add, nI_add, nI_add]
      refine ih fu (k + 1) (t * 16 + k + 1) (by omega) (by omega) (Or.inr ⟨k + 1, ⟨?_, Or.inr ?_⟩, by omega, by omega⟩) (by omega)
      · rw [ms, c, Nat.pow_succ]; omega
      · rw [ms, c, show k + 1 - 1 = k by omega]; omega
    · have c0 : d / 2 ^ k % 2 = 0 := by omega
      rw [if_neg c, sd_b1_s, sd_let_s, nI_add]
      refine ih fu (k + 1) L (by omega) (by omega) ?_ h4
      rw [ms, c0, Nat.mul_zero, Nat.add_zero]; exact h3
theorem wl_length {F : Nat} (hF : 18446744073709551616 ≤ F) {s : Nat → Int32} {v : Nat} (h : en_is s (v : Int)) (hv : v < 65536 ^ 67) : ∃ b, mf_Wide_bitLength F 68 s = some (nI b) ∧ is_bl v b ∧ b ≤ 1088 := by
  obtain ⟨j, a1, a2, a3, a4⟩ := wo_top hF (show 68 < 2147483648 by omega) s
  have dg := en_dig h hv
  unfold mf_Wide_bitLength
  rw [a2, sd_b1_s]
  rcases Nat.eq_zero_or_pos j with z | z
  · subst z
    obtain ⟨fu, rfl⟩ : ∃ g, F = g + 1 := ⟨F - 1, by omega⟩
    have v0 : v = 0 := by
      have : dr 65536 (di s) 0 68 = 0 := dr_zero _ _ _ (fun i p q => by unfold di; rw [a3 i (by omega) (by omega)]; rfl)
      rw [h.2] at this
      omega
    rw [mf_Wide_bitLength_L9, if_neg (by decide), if_pos dnI_n0, sd_b1_s]
    exact ⟨0, rfl, ⟨by rw [v0]; decide, Or.inl rfl⟩, by omega⟩
  · obtain ⟨t, rfl⟩ : ∃ t, j = t + 1 := ⟨j - 1, by omega⟩
    have st := dg t (by omega)
    have hp : 0 < 65536 ^ t := Nat.pow_pos (by omega)
    -- above t all is 0, so v is below 65536^(t+1)
    have vlt : v < 65536 ^ (t + 1) := by
      have e : dr 65536 (di s) 0 (t + 1) = (v : Int) := by
        rw [← h.2, show 68 = (t + 1) + (67 - t) by omega, dr_cat 65536 (di s) (t + 1) 0 (67 - t), dr_zero 65536 (f := di s) (67 - t) _ (fun i p q => by unfold di; rw [a3 i (by omega) (by omega)]; rfl)]
        simp
      have hin : dr_in 65536 (di s) 0 (t + 1) := fun i p q => by
        unfold di; rw [dg i (by omega), nI_toInt (by have := Nat.mod_lt (v / 65536 ^ i) (show 0 < 65536 by omega); omega)]
        exact ⟨Int.natCast_nonneg _, Int.ofNat_lt.mpr (Nat.mod_lt _ (by omega))⟩
      have := dr_lt 65536 (by decide) (t + 1) 0 hin
      rw [e, show (65536 : Int) ^ (t + 1) = ((65536 ^ (t + 1) : Nat) : Int) from (Int.natCast_pow 65536 _).symm] at this
      exact Int.ofNat_lt.mp this
    have dlt : v / 65536 ^ t < 65536 := by rw [Nat.div_lt_iff_lt_mul hp, Nat.mul_comm, ← Nat.pow_succ]; exact vlt
    rw [Nat.mod_eq_of_lt dlt] at st
    have d0 : 0 < v / 65536 ^ t := by
      rcases Nat.eq_zero_or_pos (v / 65536 ^ t) with y | y
      · exfalso
        rcases a4 with w | w
        · omega
        · rw [show t + 1 - 1 = t by omega, st, y] at w; exact w rfl
      · exact y
    generalize hd : v / 65536 ^ t = d at *
    obtain ⟨L, e1, e2⟩ := wl_loop (t := t) (d := d) (by omega) dlt st 16 F 0 0 (by omega) (by omega) (Or.inl ⟨rfl, by rw [Nat.pow_zero, Nat.mod_one]⟩) (by omega)
    have e1' : mf_Wide_bitLength_L9 (nI t) 68 s F 0 0 = some (nI L) := e1
    rw [dnI_s, e1', sd_b1_s]
    rw [Nat.mod_eq_of_lt (show d < 2 ^ 16 by omega)] at e2
    rcases e2 with ⟨-, w⟩ | ⟨b, w1, w2, w3⟩
    · omega
    · have ep : 65536 ^ t = 2 ^ (16 * t) := by rw [Nat.pow_mul]
      rw [ep] at hd hp
      have dm := Nat.div_add_mod v (2 ^ (16 * t))
      have ml := Nat.mod_lt v hp
      rw [hd] at dm
      have b16 : b ≤ 16 := by
        rcases w1.2 with y | y
        · omega
        · rcases Nat.lt_or_ge 16 b with x | x
          · exfalso
            have : 2 ^ 16 ≤ 2 ^ (b - 1) := Nat.pow_le_pow_right (by omega) (by omega)
            omega
          · exact x
      refine ⟨L, rfl, ?_, by omega⟩
      rw [w3]
      refine ⟨?_, Or.inr ?_⟩
      · have h2 : 2 ^ (16 * t) * (d + 1) ≤ 2 ^ (16 * t) * 2 ^ b := Nat.mul_le_mul_left _ w1.1
        rw [Nat.mul_add, Nat.mul_one] at h2
        rw [Nat.pow_add]
        omega
      · rcases w1.2 with y | y
        · omega
        · have h2 : 2 ^ (16 * t) * 2 ^ (b - 1) ≤ 2 ^ (16 * t) * d := Nat.mul_le_mul_left _ y
          rw [show 16 * t + b - 1 = 16 * t + (b - 1) by omega, Nat.pow_add]
          omega
/-- the highest bits -/
theorem wx_bit {s : Nat → Int32} {v : Nat} (h : en_is s (v : Int)) (hv : v < 65536 ^ 67) {k : Nat} (hk : k < 1088) : ((s (nI k / (16 : Int32)).toNatClampNeg >>> ((nI k - nI k / (16 : Int32) * (16 : Int32)) &&& 31)) &&& (1 : Int32)) = nI (v / 2 ^ k % 2) ∧ sd_ix (nI k / (16 : Int32)) 68 = true := by
  have d1 : nI k / (16 : Int32) = nI (k / 16) := pk_div (d := 16) (by omega) (by omega) (by omega)
  have d2 : nI k - nI k / (16 : Int32) * (16 : Int32) = nI (k % 16) := pk_rem (d := 16) (by omega) (by omega) (by omega)
  rw [d2, d1]
  refine ⟨?_, sd_ixI (by omega) (by omega)⟩
  have lt := Nat.mod_lt (v / 65536 ^ (k / 16)) (show 0 < 65536 by omega)
  have dl : v / 65536 ^ (k / 16) % 65536 / 2 ^ (k % 16) ≤ v / 65536 ^ (k / 16) % 65536 := Nat.div_le_self _ _
  rw [nI_clamp (by omega), en_dig h hv _ (by omega), nI_shr (by omega) (by omega), nI_i1 _ (by omega)]
  have e : v / 65536 ^ (k / 16) % 65536 / 2 ^ (k % 16) % 2 = v / 2 ^ k % 2 := by
    rw [← Nat.toNat_testBit, ← Nat.toNat_testBit, show (65536 : Nat) = 2 ^ 16 from rfl, ← Nat.pow_mul, Nat.testBit_mod_two_pow, Nat.testBit_div_two_pow, decide_eq_true (show k % 16 < 16 by omega), Bool.true_and]
    congr 2; omega
  rw [e]
theorem wx_loop {s : Nat → Int32} {v w : Nat} (h : en_is s (v : Int)) (hv : v < 65536 ^ 67) (hw : w + 54 ≤ 1088) (A B : Int32) (hAB : A - B = dnI w) : ∀ (r fu : Nat), r ≤ 54 → r < fu → v / 2 ^ (w + r) < 2 ^ (54 - r) →
    mf_Wide_bits_L5 A B 68 s fu (lN (v / 2 ^ (w + r))) (dnI (w + r)) = some (lN (v / 2 ^ w)) := by
  intro r
  induction r with
  | zero =>
    intro fu h1 h2 h3
    obtain ⟨fu, rfl⟩ : ∃ g, fu = g + 1 := ⟨fu - 1, by omega⟩
    rw [mf_Wide_bits_L5, hAB, Nat.add_zero, if_pos (Int32.le_refl (dnI w))]
  | succ r ih =>
    intro fu h1 h2 h3
    obtain ⟨fu, rfl⟩ : ∃ g, fu = g + 1 := ⟨fu - 1, by omega⟩
    have dnt : (dnI w).toInt = (w : Int) - 1 := by
      cases w with
      | zero => rfl
      | succ w => rw [dnI_s, nI_toInt (by omega)]; omega
    have nle : ¬ nI (w + r) ≤ dnI w := fun z => by
      have := ni_le.mp z
      rw [nI_toInt (by omega), dnt] at this
      omega
    obtain ⟨b1, b2⟩ := wx_bit h hv (k := w + r) (by omega)
    have y2 : v / 2 ^ (w + (r + 1)) = v / 2 ^ (w + r) / 2 := by rw [← Nat.add_assoc, Nat.pow_succ, Nat.div_div_eq_div_mul]
    have lt : v / 2 ^ (w + r) < 2 ^ (54 - r) := by
      rw [y2] at h3
      rw [show 54 - r = 54 - (r + 1) + 1 by omega, Nat.pow_succ]
      omega
    have l54 : 2 ^ (54 - r) ≤ 2 ^ 54 := Nat.pow_le_pow_right (by omega) (by omega)
    rw [mf_Wide_bits_L5, show dnI (w + (r + 1)) = nI (w + r) from rfl, hAB, if_neg nle, if_neg (dnI_np (by omega)), sd_g_t b2, b1, sd_let_s, sd_let_s, dnI_d, y2, lS_l1, nI_l (by omega)]
    have e : lN (v / 2 ^ (w + r) / 2 * 2) ||| lN (v / 2 ^ (w + r) % 2) = lN (v / 2 ^ (w + r)) := by
      have := lS_or (a := v / 2 ^ (w + r) / 2) (b := v / 2 ^ (w + r) % 2) (k := 1) (by omega) (by omega)
      rw [Nat.pow_one] at this
      rw [this]
      congr 1; omega
    rw [e]
    exact ih fu (by omega) (by omega) lt
theorem wx_highest {F : Nat} (hF : 18446744073709551616 ≤ F) {s : Nat → Int32} {v b : Nat} (h : en_is s (v : Int)) (hv : v < 65536 ^ 67) (hb : v < 2 ^ b) (hb1 : 54 ≤ b) (hb2 : b ≤ 1088) : mf_Doubles_highest F 68 (nI b) s = some (lN (v / 2 ^ (b - 54))) := by
  unfold mf_Doubles_highest mf_Wide_bits
  have e0 : v / 2 ^ (b - 54 + 54) = 0 := by rw [show b - 54 + 54 = b by omega]; exact Nat.div_eq_of_lt hb
  obtain ⟨c, rfl⟩ : ∃ c, b = c + 1 := ⟨b - 1, by omega⟩
  have ab : nI c - (54 : Int32) = dnI (c + 1 - 54) := by
    rw [show (54 : Int32) = nI 54 from rfl]
    rcases Nat.eq_or_lt_of_le hb1 with z | z
    · rw [show c = 53 by omega]; decide
    · obtain ⟨q, hq⟩ : ∃ q, c + 1 - 54 = q + 1 := ⟨c + 1 - 54 - 1, by omega⟩
      rw [hq, dnI_s, nI_sub (by omega) (by omega)]
      congr 1; omega
  have := wx_loop h hv (w := c + 1 - 54) (by omega) (nI c) 54 ab 54 F (by omega) (by omega) (by rw [e0]; decide)
  rw [e0, show dnI (c + 1 - 54 + 54) = nI c by rw [show c + 1 - 54 + 54 = c + 1 by omega]; rfl] at this
  have this' : mf_Wide_bits_L5 (nI c) 54 68 s F 0 (nI c) = some (lN (v / 2 ^ (c + 1 - 54))) := this
  rw [nI_pred, this', sd_b1_s, sd_b1_s]
/-- the sign that sizes tells -/
theorem wz_sizes {F : Nat} (hF : 18446744073709551616 ≤ F) {L H : Nat → Int32} {lo hi : Int} (hL : en_is L lo) (hH : en_is H hi) (bl : en_b lo) (bh : en_b hi) (u v : Nat → Int32) :
    ∃ u' v', mf_Teller_sizes F 68 68 68 68 L H u v = some ((if hi < 0 then -1 else if 0 < lo then 1 else 0), u', v') ∧ en_is u' (lo.natAbs : Int) ∧ en_is v' (hi.natAbs : Int) := by
  obtain ⟨u', a1, a2⟩ := ws_size hF hL bl u
  obtain ⟨v', b1, b2⟩ := ws_size hF hH bh v
  have z0 : (0 : Int32).toInt = 0 := rfl
  unfold mf_Teller_sizes
  rw [a1, sd_b1_s, b1, sd_b1_s, sd_g_t (by decide), show (67 : Int32).toNatClampNeg = 67 from rfl]
  refine ⟨u', v', ?_, a2, b2⟩
  rcases en_sg hH bh with ⟨c1, c2, c3⟩ | ⟨c1, c2, c3⟩
  · have n : (0 : Int32) ≤ H 67 := ni_le.mpr (by unfold di at c1; omega)
    rw [if_pos n, if_neg (show ¬ hi < 0 by omega), sd_g_t (by decide)]
    rcases en_sg hL bl with ⟨d1, d2, d3⟩ | ⟨d1, d2, d3⟩
    · have n2 : ¬ L 67 < 0 := fun z => by have := ni_lt.mp z; unfold di at d1; omega
      obtain ⟨j, e1, e2, e3, e4⟩ := wo_top hF (show 68 < 2147483648 by omega) L
      rw [if_neg n2, e2, sd_b1_s]
      rcases Nat.eq_zero_or_pos j with z | z
      · subst z
        have l0 : lo = 0 := by
          rw [← hL.2]
          exact dr_zero _ _ _ (fun i p q => by unfold di; rw [e3 i (by omega) (by omega)]; rfl)
        rw [if_pos dnI_n0, sd_b1_s, if_neg (by omega)]
      · obtain ⟨t, rfl⟩ : ∃ t, j = t + 1 := ⟨j - 1, by omega⟩
        have l0 : ¬ lo = 0 := fun y => by
          have hin : dr_in 65536 (di L) 0 68 := fun i p q => by
            rcases Nat.lt_or_ge i 67 with x | x
            · exact hL.1 i p (by omega)
            · rw [show i = 67 by omega, d1]; decide
          have hz : dr_in 65536 (fun _ => (0 : Int)) 0 68 := fun i p q => ⟨Int.le_refl _, by show (0 : Int) < 65536; decide⟩
          have e := dr_inj 65536 (by decide) 68 0 hin hz (by rw [hL.2, y]; exact (dr_zero _ _ _ (fun _ _ _ => rfl)).symm) t (by omega) (by omega)
          rcases e4 with x | x
          · omega
          · exact x (ni_eq.mpr e)
        rw [dnI_s, if_neg (dnI_np (by omega)), sd_b1_s, if_pos (by omega)]
    · have n2 : L 67 < 0 := ni_lt.mpr (by unfold di at d1; omega)
      rw [if_pos n2, sd_b1_s, if_neg (by omega)]
  · have n : ¬ (0 : Int32) ≤ H 67 := fun z => by have := ni_le.mp z; unfold di at c1; omega
    rw [if_neg n, if_pos c2]
