/-! findTwiceRoot and findSize: the size of a term -/
theorem pw_64 : (4294967296 : Nat) ^ 64 = 65536 ^ 128 := by decide +kernel
theorem pw_63 : (4294967296 : Nat) * 4294967296 ^ 63 = 65536 ^ 128 := by decide +kernel
theorem ft_twice {F a r : Nat} (hF : 18446744073709551616 ≤ F) (ha : a ≤ 1000000000000000000) (hr : r ≤ 1000000000) (ha0 : 0 < a) (hr0 : 0 < r) (o1 o2 : Int64) (cfr cft : Nat → Int32) (h0 : ∀ i, i < 68 → cft i = 0) :
    ∃ e1 e2 u' v' R', mf_EndsFinder_findTwiceRoot F (lN a) (lN r) o1 o2 cfr cft = some (e1, e2, u', v') ∧ dr 65536 (di v') 0 68 = (2 * R' : Nat) ∧ dr_in 65536 (di v') 0 68 ∧ R' * R' ≤ a * r * 65536 ^ 128 ∧ a * r * 65536 ^ 128 < (R' + 1) * (R' + 1) := by
  obtain ⟨R, Q, f1, f2, f3⟩ := bd_head hF ha hr o1 o2
  have hx : a * r ≤ 1000000000000000000 * 1000000000 := Nat.mul_le_mul ha hr
  have hx0 : 0 < a * r := Nat.mul_pos ha0 hr0
  have hRb : R < 70368744177664 := bd_sq (by omega)
  unfold mf_EndsFinder_findTwiceRoot
  rw [f1, sd_b2_s, show (65535 : Int64) = lN 65535 from rfl, lN_ifLt (by omega) (by omega)]
  by_cases h : 65535 < R
  · rw [if_pos h, sd_b3_s]
    obtain ⟨u', v', R', g1, g2, g3, g4, g5⟩ := ft_tail (F := F) (P := 64) (R := R) (Q := Q) (X := a * r) hF (by omega) (by omega) (by omega) hRb f3 f2 (lN R) (lN Q) cfr cft h0
    rw [pw_64] at g4 g5
    exact ⟨lN R, lN Q, u', v', R', g1, g2, g3, g4, g5⟩
  · have hsq : R * R ≤ 65535 * 65535 := Nat.mul_le_mul (by omega) (by omega)
    obtain ⟨R2, Q2, k1, k2, k3⟩ := bd_bring hF (b := 0) (p := 15) (by omega) (R := R) (Q := Q) (X := a * r) (by omega) f2 f3 (by
      rw [Nat.zero_mod]; omega)
    rw [Nat.zero_mod, Nat.add_zero] at k2
    have k1' : mf_EndsFinder_bringDown F 0 16 (lN R) (lN Q) = some (lN R2, lN Q2) := k1
    have hR2 : 65536 ≤ R2 := by
      rcases Nat.lt_or_ge R2 65536 with z | z
      · exfalso
        have : R2 * R2 ≤ 65535 * 65535 := Nat.mul_le_mul (by omega) (by omega)
        omega
      · exact z
    have hR3 : R2 < 70368744177664 := bd_sq (by omega)
    rw [if_neg h, k1', sd_b2_s, sd_b3_s]
    obtain ⟨u', v', R', g1, g2, g3, g4, g5⟩ := ft_tail (F := F) (P := 63) (R := R2) (Q := Q2) (X := a * r * 4 ^ 16) hF (by omega) (by omega) hR2 hR3 k3 k2 (lN R2) (lN Q2) cfr cft h0
    have e : a * r * 4 ^ 16 * 4294967296 ^ 63 = a * r * 65536 ^ 128 := by rw [Nat.mul_assoc, show (4 : Nat) ^ 16 = 4294967296 from rfl, pw_63]
    rw [e] at g4 g5
    exact ⟨lN R2, lN Q2, u', v', R', g1, g2, g3, g4, g5⟩
/-- long division of a row -/
theorem fs_loop {dv : Nat} (h0 : 0 < dv) (hd : dv ≤ 2000000000) {v : Nat → Int32} (hv : dr_in 65536 (di v) 0 68) : ∀ (m fu l : Nat) (s : Nat → Int32), m ≤ 68 → m < fu → l < dv →
    ∃ s' l', mf_EndsFinder_findSize_L55 (lN dv) v fu (lN l) (dnI m) s = some s' ∧ dr_in 65536 (di s') 0 m ∧ (∀ i, m ≤ i → s' i = s i) ∧ l' < dv ∧ (l : Int) * 65536 ^ m + dr 65536 (di v) 0 m = dv * dr 65536 (di s') 0 m + l' := by
  intro m
  induction m with
  | zero =>
    intro fu l s h1 h2 h3
    obtain ⟨fu, rfl⟩ : ∃ g, fu = g + 1 := ⟨fu - 1, by omega⟩
    rw [mf_EndsFinder_findSize_L55, if_pos dnI_n0]
    exact ⟨s, l, rfl, fun i _ _ => by omega, fun i _ => rfl, h3, by simp [dr_0]⟩
  | succ m ih =>
    intro fu l s h1 h2 h3
    obtain ⟨fu, rfl⟩ : ∃ g, fu = g + 1 := ⟨fu - 1, by omega⟩
    have q1 := hv m (by omega) (by omega)
    obtain ⟨x, hx⟩ := Int.eq_ofNat_of_zero_le q1.1
    rw [mf_EndsFinder_findSize_L55, dnI_s, if_neg (dnI_np (by omega)), show (0 : Int64) = lN 0 from rfl, lN_ifLe (by omega) (by omega), if_neg (by omega), sd_g_t (sd_ixI (by omega) (by omega)), sd_let_s, nI_clamp (by omega), di_nI hx, nI_l (by omega)]
    have s1 : lN l <<< ((16 : Int32).toInt64 &&& 63) = lN (l * 65536) := wb_shl l (k := 16) (by omega)
    rw [s1, lN_add, sd_g_t (sd_zL (by omega) (by omega)), sd_g_t (sd_ixI (by omega) (by omega)), sd_let_s, sd_g_t (sd_zL (by omega) (by omega)), sd_let_s, sd_let_s, lN_remI (by omega) (by omega) (by omega), lN_divI (by omega) (by omega) (by omega), lN_i, dnI_d]
    have m1 : (l * 65536 + x) / dv < 65536 := by
      rw [Nat.div_lt_iff_lt_mul h0]
      have : (l + 1) * 65536 ≤ dv * 65536 := Nat.mul_le_mul_right _ h3
      omega
    obtain ⟨s', l', g1, g2, g3, g4, g5⟩ := ih fu ((l * 65536 + x) % dv) (upd s m (nI ((l * 65536 + x) / dv))) (by omega) (by omega) (Nat.mod_lt _ h0)
    have s2 : di s' m = ((l * 65536 + x) / dv : Nat) := by
      unfold di; rw [g3 m (by omega), show upd s m (nI ((l * 65536 + x) / dv)) m = nI ((l * 65536 + x) / dv) from if_pos rfl, nI_toInt (by omega)]
    refine ⟨s', l', g1, fun i p q => ?_, fun i p => ?_, g4, ?_⟩
    · rcases Nat.lt_or_ge i m with z | z
      · exact g2 i p (by omega)
      · rw [show i = m by omega, s2]; exact ⟨Int.natCast_nonneg _, Int.ofNat_lt.mpr m1⟩
    · rw [g3 i (by omega)]; exact if_neg (by omega)
    · rw [dr_top, dr_top, Nat.zero_add, hx, s2, Int.pow_succ]
      have dm := Nat.div_add_mod (l * 65536 + x) dv
      have dm' : (dv : Int) * ((l * 65536 + x) / dv : Nat) + ((l * 65536 + x) % dv : Nat) = l * 65536 + x := by
        rw [← Int.natCast_mul, ← Int.natCast_add, dm, Int.natCast_add, Int.natCast_mul]; rfl
      generalize ((l * 65536 + x) / dv : Nat) = y1 at *
      generalize ((l * 65536 + x) % dv : Nat) = y2 at *
      generalize dr 65536 (di v) 0 m = y3 at *
      generalize dr 65536 (di s') 0 m = y4 at *
      generalize (65536 : Int) ^ m = y5 at *
      grind
/-- the size of a term: w, the cut-off quotient of a root -/
def is_w (n d r : Nat) (w : Nat) : Prop := ∃ s, s * s ≤ n * n * r * 65536 ^ 128 ∧ n * n * r * 65536 ^ 128 < (s + 1) * (s + 1) ∧ w = s / d
theorem is_w_one {n d r w w' : Nat} (h : is_w n d r w) (h' : is_w n d r w') : w = w' := by
  obtain ⟨s, a1, a2, a3⟩ := h
  obtain ⟨s', b1, b2, b3⟩ := h'
  have e1 : s < s' + 1 := bd_sq (by omega)
  have e2 : s' < s + 1 := bd_sq (by omega)
  rw [a3, b3, show s = s' by omega]
theorem fs_size {F n d r : Nat} (hF : 18446744073709551616 ≤ F) (hn : n ≤ 1000000000) (hn0 : 0 < n) (hd : d ≤ 1000000000) (hd0 : 0 < d) (hr : r ≤ 1000000000) (hr0 : 0 < r) (o1 o2 : Int64) (cfr cft cfs : Nat → Int32) :
    ∃ e1 e2 u v s w, mf_EndsFinder_findSize F (lN n) (lN d) (lN r) o1 o2 cfr cft cfs = some (e1, e2, u, v, s) ∧ dr_in 65536 (di s) 0 68 ∧ dr 65536 (di s) 0 68 = (w : Nat) ∧ is_w n d r w := by
  obtain ⟨f, a1, a2⟩ := wf_fill hF (show 68 < 2147483648 by omega) 0 cft
  unfold mf_EndsFinder_findSize
  rw [a1, sd_b1_s]
  have key : ∃ e1 e2 u v R', (if lN r = (1 : Int64) then (sd_b1 (mf_Wide_putLong F 68 (64 : Int32) ((2 : Int64) * lN n) f) fun uft_3 => (some (o1, o2, cfr, uft_3))) else (sd_b4 (mf_EndsFinder_findTwiceRoot F (lN n * lN n) (lN r) o1 o2 cfr f) fun ufe_2 ufe_3 ufr_1 uft_2 => (some (ufe_2, ufe_3, ufr_1, uft_2)))) = some (e1, e2, u, v) ∧
      dr 65536 (di v) 0 68 = (2 * R' : Nat) ∧ dr_in 65536 (di v) 0 68 ∧ R' * R' ≤ n * n * r * 65536 ^ 128 ∧ n * n * r * 65536 ^ 128 < (R' + 1) * (R' + 1) := by
    rw [show (1 : Int64) = lN 1 from rfl, lN_ifEq (by omega) (by omega)]
    by_cases h : r = 1
    · rw [if_pos h, h]
      obtain ⟨v, b1, b2, b3, b4⟩ := wp_put (F := F) (n := 68) (k := 64) hF (by omega) (by omega) (2 * n) f (by rw [show 65536 ^ (68 - 64) = 18446744073709551616 from by decide]; omega) (by omega) (fun i p q => a2 i q)
      have b1' : mf_Wide_putLong F 68 64 (lN (2 * n)) f = some v := b1
      rw [show (2 : Int64) = lN 2 from rfl, lN_mul, b1', sd_b1_s]
      refine ⟨o1, o2, cfr, v, n * 65536 ^ 64, rfl, ?_, ?_, ?_, ?_⟩
      · rw [show 68 = 64 + 4 from rfl, dr_cat, dr_zero 65536 (f := di v) 64 0 (fun i p q => by unfold di; rw [b4 i (by omega), a2 i (by omega)]; rfl), Nat.zero_add, show (4 : Nat) = 68 - 64 from rfl, b2]
        rw [Int.zero_add, show (65536 : Int) ^ 64 = ((65536 ^ 64 : Nat) : Int) from (Int.natCast_pow 65536 64).symm, ← Int.natCast_mul]
        congr 1
        generalize 65536 ^ 64 = y
        grind
      · intro i p q
        rcases Nat.lt_or_ge i 64 with z | z
        · unfold di; rw [b4 i (by omega), a2 i (by omega)]; decide
        · exact b3 i z (by omega)
      · have e : n * 65536 ^ 64 * (n * 65536 ^ 64) = n * n * 1 * 65536 ^ 128 := by
          rw [show (65536 : Nat) ^ 128 = 65536 ^ 64 * 65536 ^ 64 by rw [← Nat.pow_add]]
          generalize 65536 ^ 64 = y
          grind
        exact Nat.le_of_eq e
      · have e : n * n * 1 * 65536 ^ 128 = n * 65536 ^ 64 * (n * 65536 ^ 64) := by
          rw [show (65536 : Nat) ^ 128 = 65536 ^ 64 * 65536 ^ 64 by rw [← Nat.pow_add]]
          generalize 65536 ^ 64 = y
          grind
        rw [e]
        exact sq_lt (Nat.lt_succ_self _)
    · rw [if_neg h, lN_mul]
      have hnn : n * n ≤ 1000000000 * 1000000000 := Nat.mul_le_mul hn hn
      obtain ⟨e1, e2, u, v, R', g1, g2, g3, g4, g5⟩ := ft_twice hF (a := n * n) (r := r) hnn hr (Nat.mul_pos hn0 hn0) hr0 o1 o2 cfr f a2
      rw [g1, sd_b4_s]
      exact ⟨e1, e2, u, v, R', rfl, g2, g3, g4, g5⟩
  obtain ⟨e1, e2, u, v, R', g1, g2, g3, g4, g5⟩ := key
  obtain ⟨s', l', k1, k2, k3, k4, k5⟩ := fs_loop (dv := 2 * d) (by omega) (by omega) g3 68 F 0 cfs (by omega) (by omega) (by omega)
  have k1' : mf_EndsFinder_findSize_L55 (lN (2 * d)) v F 0 67 cfs = some s' := k1
  rw [g1, sd_b4_s, sd_let_s, show (2 : Int64) = lN 2 from rfl, lN_mul, k1', sd_b1_s]
  have p1 := dr_pos 65536 (by decide) 68 0 k2
  obtain ⟨w, hw⟩ := Int.eq_ofNat_of_zero_le p1
  refine ⟨e1, e2, u, v, s', w, rfl, k2, hw, R', g4, g5, ?_⟩
  rw [hw, g2] at k5
  have k6 : 2 * R' = 2 * d * w + l' := by
    have : ((2 * R' : Nat) : Int) = ((2 * d * w + l' : Nat) : Int) := by
      rw [Int.natCast_add, Int.natCast_mul (2 * d) w, ← k5]
      simp
    exact Int.ofNat.inj this
  have k7 : 2 * d * w = 2 * (d * w) := by grind
  symm
  apply Nat.div_eq_of_lt_le
  · rw [Nat.mul_comm]; omega
  · rw [Nat.succ_mul, Nat.mul_comm]; omega
