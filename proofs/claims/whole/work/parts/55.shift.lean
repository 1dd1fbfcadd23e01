/-! shift, unshift, bit, bits -/
def wd (v i : Nat) : Nat := v / 2 ^ (32 * i) % 2 ^ 32
theorem wd_eq (v i : Nat) : v / 4294967296 ^ i % 4294967296 = wd v i := by
  unfold wd
  rw [Nat.pow_mul]
theorem wd_lt (v i : Nat) : wd v i < 2 ^ 32 := Nat.mod_lt _ (by decide)
theorem wd_bit (v i t : Nat) : (wd v i).testBit t = (decide (t < 32) && v.testBit (32 * i + t)) := by
  unfold wd
  rw [Nat.testBit_mod_two_pow, Nat.testBit_div_two_pow, Nat.add_comm]
theorem ww_wd {f : Nat → Int64} {v : Nat} (h : ww f v) {i : Nat} (hi : i < 76) : f i = lN (wd v i) := by rw [ww_dig h hi, wd_eq]
theorem pw_76 : (4294967296 : Nat) ^ 76 = 2 ^ 2432 := by decide +kernel
theorem bit_off {v k : Nat} (h : v < 2 ^ 2432) (hk : 2432 ≤ k) : v.testBit k = false := Nat.testBit_lt_two_pow (Nat.lt_of_lt_of_le h (Nat.pow_le_pow_right (by omega) hk))
theorem rh_word {v w b k : Nat} (hb : b < 32) (hk : w ≤ k) : (wd v (k - w) * 2 ^ b % 2 ^ 32) ||| (if b = 0 ∨ k ≤ w then 0 else wd v (k - w - 1) / 2 ^ (32 - b)) = wd (v * 2 ^ (32 * w + b)) k := by
  apply Nat.eq_of_testBit_eq
  intro t
  rw [wd_bit, Nat.testBit_mul_two_pow, Nat.testBit_or, Nat.testBit_mod_two_pow, Nat.testBit_mul_two_pow, wd_bit]
  by_cases c : b = 0 ∨ k ≤ w
  · rw [if_pos c, Nat.zero_testBit, Bool.or_false]
    by_cases t32 : t < 32
    · by_cases tb : b ≤ t
      · rw [decide_eq_true t32, decide_eq_true tb, decide_eq_true (show t - b < 32 by omega), decide_eq_true (show 32 * w + b ≤ 32 * k + t by omega), Bool.true_and, Bool.true_and, Bool.true_and, Bool.true_and, Bool.true_and]
        congr 1; omega
      · rw [decide_eq_false tb, decide_eq_false (show ¬ 32 * w + b ≤ 32 * k + t by omega)]; simp
    · rw [decide_eq_false t32]; simp
  · rw [if_neg c, Nat.testBit_div_two_pow, wd_bit]
    by_cases t32 : t < 32
    · by_cases tb : b ≤ t
      · rw [decide_eq_true t32, decide_eq_true tb, decide_eq_true (show t - b < 32 by omega), decide_eq_true (show 32 * w + b ≤ 32 * k + t by omega), decide_eq_false (show ¬ t + (32 - b) < 32 by omega), Bool.true_and, Bool.true_and, Bool.true_and, Bool.true_and, Bool.true_and, Bool.false_and, Bool.or_false]
        congr 1; omega
      · rw [decide_eq_true t32, decide_eq_false tb, decide_eq_true (show 32 * w + b ≤ 32 * k + t by omega), decide_eq_true (show t + (32 - b) < 32 by omega), Bool.true_and, Bool.true_and, Bool.true_and, Bool.true_and, Bool.false_and, Bool.false_or]
        congr 1; omega
    · rw [decide_eq_false t32, decide_eq_false (show ¬ t + (32 - b) < 32 by omega)]; simp
theorem rh_word0 {v w b k : Nat} (hb : b < 32) (hk : k < w) : wd (v * 2 ^ (32 * w + b)) k = 0 := by
  apply Nat.eq_of_testBit_eq
  intro t
  rw [wd_bit, Nat.testBit_mul_two_pow, Nat.zero_testBit]
  by_cases t32 : t < 32
  · rw [decide_eq_false (show ¬ 32 * w + b ≤ 32 * k + t by omega)]; simp
  · rw [decide_eq_false t32]; simp
theorem ru_word {v w b k : Nat} (hv : v < 2 ^ 2432) (hb : b < 32) : (if 76 ≤ k + w then 0 else wd v (k + w) / 2 ^ b) ||| (if b = 0 ∨ 76 ≤ k + w + 1 then 0 else wd v (k + w + 1) * 2 ^ (32 - b) % 2 ^ 32) = wd (v / 2 ^ (32 * w + b)) k := by
  apply Nat.eq_of_testBit_eq
  intro t
  rw [wd_bit, Nat.testBit_div_two_pow, Nat.testBit_or]
  have e1 : (if 76 ≤ k + w then 0 else wd v (k + w) / 2 ^ b).testBit t = (decide (b + t < 32) && v.testBit (32 * (k + w) + b + t)) := by
    by_cases c : 76 ≤ k + w
    · rw [if_pos c, Nat.zero_testBit, bit_off hv (by omega)]; simp
    · rw [if_neg c, Nat.testBit_div_two_pow, wd_bit, show t + b = b + t by omega, ← Nat.add_assoc]
  have e2 : (if b = 0 ∨ 76 ≤ k + w + 1 then 0 else wd v (k + w + 1) * 2 ^ (32 - b) % 2 ^ 32).testBit t = (decide (t < 32) && (decide (32 - b ≤ t) && v.testBit (32 * (k + w) + b + t))) := by
    by_cases c : b = 0
    · rw [if_pos (Or.inl c), Nat.zero_testBit]
      by_cases t32 : t < 32
      · rw [decide_eq_false (show ¬ 32 - b ≤ t by omega)]; simp
      · rw [decide_eq_false t32]; simp
    · by_cases c2 : 76 ≤ k + w + 1
      · rw [if_pos (Or.inr c2), Nat.zero_testBit]
        by_cases tb : 32 - b ≤ t
        · rw [bit_off hv (by omega)]; simp
        · rw [decide_eq_false tb]; simp
      · rw [if_neg (by omega), Nat.testBit_mod_two_pow, Nat.testBit_mul_two_pow, wd_bit]
        by_cases t32 : t < 32
        · by_cases tb : 32 - b ≤ t
          · rw [decide_eq_true t32, decide_eq_true tb, decide_eq_true (show t - (32 - b) < 32 by omega), Bool.true_and, Bool.true_and, Bool.true_and, Bool.true_and, Bool.true_and]
            congr 1; omega
          · rw [decide_eq_false tb]; simp
        · rw [decide_eq_false t32]; simp
  rw [e1, e2, show 32 * k + t + (32 * w + b) = 32 * (k + w) + b + t by omega]
  by_cases t32 : t < 32
  · by_cases tb : 32 - b ≤ t
    · rw [decide_eq_true t32, decide_eq_true tb, decide_eq_false (show ¬ b + t < 32 by omega)]; simp
    · rw [decide_eq_true t32, decide_eq_false tb, decide_eq_true (show b + t < 32 by omega)]; simp
  · rw [decide_eq_false t32, decide_eq_false (show ¬ b + t < 32 by omega)]; simp
theorem nI_sub {a b : Nat} (h : b ≤ a) (ha : a < 2147483648) : nI a - nI b = nI (a - b) := by
  rw [ni_eq, nI_toInt (by omega), ni_sub] <;> rw [nI_toInt (by omega), nI_toInt (by omega)] <;> omega
theorem wd_shl {a b : Nat} (ha : a < 2 ^ 32) (hb : b < 32) : (lN a <<< ((nI b).toInt64 &&& 63)) &&& (4294967295 : Int64) = lN (a * 2 ^ b % 2 ^ 32) := by
  rw [wb_shl a (by omega)]
  have : a * 2 ^ b < 2 ^ 32 * 2 ^ 32 := Nat.mul_lt_mul'' ha (Nat.pow_lt_pow_right (by omega) hb)
  exact wb_mask (k := 32) (by omega) (by omega)
theorem wd_shr {a b : Nat} (ha : a < 2 ^ 32) (hb : b ≤ 32) : lN a >>> ((nI b).toInt64 &&& 63) = lN (a / 2 ^ b) := by
  apply nb_lN
  rw [nb_shr _ _ b (nb_shs b (by omega)), lN_bits a (by omega)]
  rfl
/-- shift -/
theorem rh_loop {f : Nat → Int64} {v w b : Nat} (hf : ww f v) (hb : b < 32) (hw : w ≤ 76) : ∀ (m fu : Nat) (u : Nat → Int64), m ≤ 76 → m < fu → (∀ i, i < m → u i = f i) → (∀ i, m ≤ i → i < 76 → u i = lN (wd (v * 2 ^ (32 * w + b)) i)) →
    ∃ u', mf_Model_shift_L14 (nI w) (nI b) fu (dnI m) u = some u' ∧ (∀ i, i < 76 → u' i = lN (wd (v * 2 ^ (32 * w + b)) i)) := by
  intro m
  induction m with
  | zero =>
    intro fu u h1 h2 h3 h4
    obtain ⟨fu, rfl⟩ : ∃ g, fu = g + 1 := ⟨fu - 1, by omega⟩
    rw [mf_Model_shift_L14, if_pos dnI_n0]
    exact ⟨u, rfl, fun i p => h4 i (by omega) p⟩
  | succ m ih =>
    intro fu u h1 h2 h3 h4
    obtain ⟨fu, rfl⟩ : ∃ g, fu = g + 1 := ⟨fu - 1, by omega⟩
    rw [mf_Model_shift_L14, dnI_s, if_neg (dnI_np (by omega)), nI_ifLt (by omega) (by omega)]
    have go : ∀ x : Int64, x = lN (wd (v * 2 ^ (32 * w + b)) m) → ∃ u', (sd_g (sd_ix (nI m) 76) (sd_let (vp_updL u (nI m).toNatClampNeg x) fun uaE_1 => (sd_let (nI m + (-1 : Int32)) fun x4_1 => ((mf_Model_shift_L14 (nI w) (nI b) fu) x4_1 uaE_1)))) = some u' ∧ (∀ i, i < 76 → u' i = lN (wd (v * 2 ^ (32 * w + b)) i)) := by
      intro x hx
      rw [sd_g_t (sd_ixI (by omega) (by omega)), sd_let_s, sd_let_s, dnI_d, nI_clamp (by omega)]
      refine ih fu _ (by omega) (by omega) (fun i p => ?_) (fun i p q => ?_)
      · rw [show vp_updL u m x i = u i from if_neg (by omega)]; exact h3 i (by omega)
      · by_cases z : i = m
        · rw [z, show vp_updL u m x m = x from if_pos rfl, hx]
        · rw [show vp_updL u m x i = u i from if_neg z]; exact h4 i (by omega) q
    by_cases c1 : m < w
    · rw [if_pos c1, sd_b1_s]
      have r0 : (if nI b ≤ 0 then some (0 : Int64) else (if nI m ≤ nI w then some (0 : Int64) else (sd_g (sd_ix ((nI m - nI w) - (1 : Int32)) 76) (sd_let ((0 : Int64) ||| ((u ((nI m - nI w) - (1 : Int32)).toNatClampNeg) >>> (((32 : Int32) - nI b).toInt64 &&& 63))) fun x5_1 => (some (x5_1)))))) = some 0 := by
        rw [nI_ifLe (by omega) (by omega), if_pos (show m ≤ w by omega)]
        by_cases z : nI b ≤ 0
        · rw [if_pos z]
        · rw [if_neg z]
      rw [r0, sd_b1_s]
      exact go 0 (by rw [rh_word0 hb c1]; rfl)
    · rw [if_neg c1, nI_sub (by omega) (by omega), sd_g_t (sd_ixI (by omega) (by omega)), sd_b1_s, nI_clamp (by omega), h3 (m - w) (by omega), ww_wd hf (by omega), wd_shl (wd_lt _ _) hb, show (0 : Int32) = nI 0 from rfl, nI_ifLe (by omega) (by omega), nI_ifLe (by omega) (by omega)]
      have wdq := rh_word (v := v) (w := w) (b := b) (k := m) hb (by omega)
      by_cases c2 : b ≤ 0
      · rw [if_pos c2, sd_b1_s]
        rw [if_pos (Or.inl (by omega)), Nat.or_zero] at wdq
        exact go _ (by rw [wdq])
      · rw [if_neg c2]
        by_cases c3 : m ≤ w
        · rw [if_pos c3, sd_b1_s]
          rw [if_pos (Or.inr c3), Nat.or_zero] at wdq
          exact go _ (by rw [wdq])
        · rw [if_neg (by omega)] at wdq
          rw [if_neg c3, show (1 : Int32) = nI 1 from rfl, nI_sub (by omega) (by omega), sd_g_t (sd_ixI (by omega) (by omega)), sd_let_s, nI_clamp (by omega), h3 (m - w - 1) (by omega), ww_wd hf (by omega), show (32 : Int32) = nI 32 from rfl, nI_sub (by omega) (by omega), wd_shr (wd_lt _ _) (by omega), sd_b1_s]
          have l1 : wd v (m - w - 1) / 2 ^ (32 - b) ≤ wd v (m - w - 1) := Nat.div_le_self _ _
          have l2 := wd_lt v (m - w - 1)
          have l3 : wd v (m - w) * 2 ^ b % 2 ^ 32 < 2 ^ 32 := Nat.mod_lt _ (by decide)
          rw [wb_or (by omega) (by omega), wdq]
          exact go _ rfl
theorem rh_shift {F : Nat} (hF : 18446744073709551616 ≤ F) {f : Nat → Int64} {v n : Nat} (hf : ww f v) (hn : n < 2432) (h : v * 2 ^ n < 4294967296 ^ 76) : ∃ u, mf_Model_shift F (nI n) f = some u ∧ ww u (v * 2 ^ n) := by
  unfold mf_Model_shift
  have d1 : nI n / (32 : Int32) = nI (n / 32) := pk_div (d := 32) (by omega) (by omega) (by omega)
  have d2 : nI n - nI n / (32 : Int32) * (32 : Int32) = nI (n % 32) := pk_rem (d := 32) (by omega) (by omega) (by omega)
  rw [sd_let_s, d2, d1, sd_let_s]
  obtain ⟨u', e1, e2⟩ := rh_loop (w := n / 32) (b := n % 32) hf (by omega) (by omega) 76 F f (by omega) (by omega) (fun i _ => rfl) (fun i _ _ => by omega)
  have e1' : mf_Model_shift_L14 (nI (n / 32)) (nI (n % 32)) F 75 f = some u' := e1
  rw [e1', sd_b1_s]
  rw [show 32 * (n / 32) + n % 32 = n by omega] at e2
  exact ⟨u', rfl, ww_of (fun i p => by rw [e2 i p, wd_eq]) h⟩
/-- unshift -/
theorem ru_loop {f : Nat → Int64} {v w b : Nat} (hf : ww f v) (hb : b < 32) (hw : w ≤ 76) : ∀ (m fu k : Nat) (u : Nat → Int64), k + m = 76 → m < fu → (∀ i, k ≤ i → i < 76 → u i = f i) → (∀ i, i < k → u i = lN (wd (v / 2 ^ (32 * w + b)) i)) →
    ∃ u', mf_Model_unshift_L13 (nI w) (nI b) fu (nI k) u = some u' ∧ (∀ i, i < 76 → u' i = lN (wd (v / 2 ^ (32 * w + b)) i)) := by
  intro m
  induction m with
  | zero =>
    intro fu k u h1 h2 h3 h4
    obtain ⟨fu, rfl⟩ : ∃ g, fu = g + 1 := ⟨fu - 1, by omega⟩
    rw [mf_Model_unshift_L13, show (76 : Int32) = nI 76 from rfl, nI_ifLe (by omega) (by omega), if_pos (by omega)]
    exact ⟨u, rfl, fun i p => h4 i (by omega)⟩
  | succ m ih =>
    intro fu k u h1 h2 h3 h4
    obtain ⟨fu, rfl⟩ : ∃ g, fu = g + 1 := ⟨fu - 1, by omega⟩
    have hv : v < 2 ^ 2432 := by rw [← pw_76]; exact ww_lt hf
    rw [mf_Model_unshift_L13, show (76 : Int32) = nI 76 from rfl, nI_ifLe (by omega) (by omega), if_neg (by omega), nI_add, nI_ifLe (by omega) (by omega)]
    have go : ∀ x : Int64, x = lN (wd (v / 2 ^ (32 * w + b)) k) → ∃ u', (sd_g (sd_ix (nI k) 76) (sd_let (vp_updL u (nI k).toNatClampNeg x) fun uaE_1 => (sd_let (nI k + (1 : Int32)) fun x4_1 => ((mf_Model_unshift_L13 (nI w) (nI b) fu) x4_1 uaE_1)))) = some u' ∧ (∀ i, i < 76 → u' i = lN (wd (v / 2 ^ (32 * w + b)) i)) := by
      intro x hx
      rw [sd_g_t (sd_ixI (by omega) (by omega)), sd_let_s, sd_let_s, nI_1, nI_clamp (by omega)]
      refine ih fu (k + 1) _ (by omega) (by omega) (fun i p q => ?_) (fun i p => ?_)
      · rw [show vp_updL u k x i = u i from if_neg (by omega)]; exact h3 i (by omega) q
      · by_cases z : i = k
        · rw [z, show vp_updL u k x k = x from if_pos rfl, hx]
        · rw [show vp_updL u k x i = u i from if_neg z]; exact h4 i (by omega)
    have wdq := ru_word (v := v) (w := w) (b := b) (k := k) hv hb
    have ylt : (if 76 ≤ k + w then 0 else wd v (k + w) / 2 ^ b) < 2 ^ 32 := by
      by_cases c : 76 ≤ k + w
      · rw [if_pos c]; decide
      · rw [if_neg c]; exact Nat.lt_of_le_of_lt (Nat.div_le_self _ _) (wd_lt _ _)
    have y1 : (if 76 ≤ k + w then (some (0 : Int64)) else (sd_g (sd_ix (nI (k + w)) 76) (some ((u (nI (k + w)).toNatClampNeg) >>> ((nI b).toInt64 &&& 63))))) = some (lN (if 76 ≤ k + w then 0 else wd v (k + w) / 2 ^ b)) := by
      by_cases c : 76 ≤ k + w
      · rw [if_pos c, if_pos c]; rfl
      · rw [if_neg c, if_neg c, sd_g_t (sd_ixI (by omega) (by omega)), nI_clamp (by omega), h3 (k + w) (by omega) (by omega), ww_wd hf (by omega), wd_shr (wd_lt _ _) (by omega)]
    rw [y1, sd_b1_s, show (0 : Int32) = nI 0 from rfl, nI_ifLe (by omega) (by omega), nI_1, nI_ifLe (by omega) (by omega)]
    by_cases c2 : b ≤ 0
    · rw [if_pos c2, sd_b1_s]
      rw [if_pos (show b = 0 ∨ 76 ≤ k + w + 1 from Or.inl (by omega)), Nat.or_zero] at wdq
      exact go _ (by rw [wdq])
    · rw [if_neg c2]
      by_cases c3 : 76 ≤ k + w + 1
      · rw [if_pos c3, sd_b1_s]
        rw [if_pos (show b = 0 ∨ 76 ≤ k + w + 1 from Or.inr c3), Nat.or_zero] at wdq
        exact go _ (by rw [wdq])
      · rw [if_neg (show ¬ (b = 0 ∨ 76 ≤ k + w + 1) by omega)] at wdq
        rw [if_neg c3, sd_g_t (sd_ixI (by omega) (by omega)), sd_let_s, nI_clamp (by omega), h3 (k + w + 1) (by omega) (by omega), ww_wd hf (by omega), show (32 : Int32) = nI 32 from rfl, nI_sub (by omega) (by omega), wd_shl (wd_lt _ _) (by omega), sd_b1_s]
        have l3 : wd v (k + w + 1) * 2 ^ (32 - b) % 2 ^ 32 < 2 ^ 32 := Nat.mod_lt _ (by decide)
        rw [wb_or (by omega) (by omega), wdq]
        exact go _ rfl
theorem ru_unshift {F : Nat} (hF : 18446744073709551616 ≤ F) {f : Nat → Int64} {v n : Nat} (hf : ww f v) (hn : n < 2432) : ∃ u, mf_Model_unshift F (nI n) f = some u ∧ ww u (v / 2 ^ n) := by
  unfold mf_Model_unshift
  have d1 : nI n / (32 : Int32) = nI (n / 32) := pk_div (d := 32) (by omega) (by omega) (by omega)
  have d2 : nI n - nI n / (32 : Int32) * (32 : Int32) = nI (n % 32) := pk_rem (d := 32) (by omega) (by omega) (by omega)
  rw [sd_let_s, d2, d1, sd_let_s]
  obtain ⟨u', e1, e2⟩ := ru_loop (w := n / 32) (b := n % 32) hf (by omega) (by omega) 76 F 0 f (by omega) (by omega) (fun i _ _ => rfl) (fun i _ => by omega)
  have e1' : mf_Model_unshift_L13 (nI (n / 32)) (nI (n % 32)) F 0 f = some u' := e1
  rw [e1', sd_b1_s]
  rw [show 32 * (n / 32) + n % 32 = n by omega] at e2
  exact ⟨u', rfl, ww_of (fun i p => by rw [e2 i p, wd_eq]) (Nat.lt_of_le_of_lt (Nat.div_le_self _ _) (ww_lt hf))⟩
/-- bit -/
theorem ri_bit (F : Nat) {f : Nat → Int64} {v k : Nat} (hf : ww f v) (hk : k < 2432) : mf_Model_bit F (nI k) f = some (nI (v / 2 ^ k % 2)) := by
  unfold mf_Model_bit
  have d1 : nI k / (32 : Int32) = nI (k / 32) := pk_div (d := 32) (by omega) (by omega) (by omega)
  have d2 : nI k - nI k / (32 : Int32) * (32 : Int32) = nI (k % 32) := pk_rem (d := 32) (by omega) (by omega) (by omega)
  rw [d2, d1, sd_g_t (sd_ixI (by omega) (by omega)), nI_clamp (by omega), ww_wd hf (by omega), wd_shr (wd_lt _ _) (by omega)]
  have l1 : wd v (k / 32) / 2 ^ (k % 32) ≤ wd v (k / 32) := Nat.div_le_self _ _
  have l2 := wd_lt v (k / 32)
  rw [wb_a1 (by omega), lN_i]
  have e : wd v (k / 32) / 2 ^ (k % 32) % 2 = v / 2 ^ k % 2 := by
    rw [← Nat.toNat_testBit, ← Nat.toNat_testBit, wd_bit, decide_eq_true (show k % 32 < 32 by omega), Bool.true_and, show 32 * (k / 32) + k % 32 = k by omega]
  rw [e]
