/-! carries through the reference's rows -/
theorem cy_loop (G : Nat → Int64 → Int32 → (Nat → Int64) → Option (Nat → Int64)) (last : Nat) (op : Nat → Int → Int) (Cb : Int → Prop)
    (hend : ∀ fu c u, G (fu + 1) c (nI last) u = some u)
    (hstep : ∀ (fu : Nat) (c : Int64) (k : Nat) (u : Nat → Int64), k < last → Cb c.toInt → 0 ≤ dj u k → dj u k < 4294967296 → ∃ d c2 : Int64, G (fu + 1) c (nI k) u = G fu c2 (nI (k + 1)) (vp_updL u k d) ∧ d.toInt + 4294967296 * c2.toInt = c.toInt + op k (dj u k) ∧ 0 ≤ d.toInt ∧ d.toInt < 4294967296 ∧ Cb c2.toInt) :
    ∀ (m fu k : Nat) (c : Int64) (u : Nat → Int64), k + m = last → m < fu → Cb c.toInt → dr_in 4294967296 (dj u) k m →
      ∃ u' c', G fu c (nI k) u = some u' ∧ dr 4294967296 (dj u') k m + c' * 4294967296 ^ m = c.toInt + dr 4294967296 (fun i => op i (dj u i)) k m ∧ dr_in 4294967296 (dj u') k m ∧ (∀ i, i < k ∨ last ≤ i → u' i = u i) := by
  intro m
  induction m with
  | zero =>
    intro fu k c u h1 h2 h3 h4
    obtain ⟨fu, rfl⟩ : ∃ g, fu = g + 1 := ⟨fu - 1, by omega⟩
    obtain rfl : k = last := by omega
    rw [hend]
    exact ⟨u, c.toInt, rfl, by simp [dr_0], fun i _ _ => by omega, fun i _ => rfl⟩
  | succ m ih =>
    intro fu k c u h1 h2 h3 h4
    obtain ⟨fu, rfl⟩ : ∃ g, fu = g + 1 := ⟨fu - 1, by omega⟩
    have q := h4 k (by omega) (by omega)
    obtain ⟨d, c2, e1, e2, e3, e4, e5⟩ := hstep fu c k u (by omega) h3 q.1 q.2
    obtain ⟨u', c', g1, g2, g3, g4⟩ := ih fu (k + 1) c2 (vp_updL u k d) (by omega) (by omega) e5 (fun i p r => by rw [dj_upd, if_neg (by omega)]; exact h4 i (by omega) (by omega))
    rw [e1]
    have k1 : dj u' k = d.toInt := by unfold dj; rw [g4 k (Or.inl (by omega)), show vp_updL u k d k = d from if_pos rfl]
    refine ⟨u', c', g1, ?_, fun i p r => ?_, fun i p => ?_⟩
    · have k2 : dr 4294967296 (fun i => op i (dj (vp_updL u k d) i)) (k + 1) m = dr 4294967296 (fun i => op i (dj u i)) (k + 1) m :=
        dr_congr _ _ _ (fun i p r => by show op i (dj (vp_updL u k d) i) = op i (dj u i); rw [dj_upd, if_neg (by omega)])
      rw [k2] at g2
      rw [dr_s, dr_s, k1, Int.pow_succ]
      show _ = c.toInt + (op k (dj u k) + _)
      generalize dr 4294967296 (dj u') (k + 1) m = y1 at *
      generalize dr 4294967296 (fun i => op i (dj u i)) (k + 1) m = y2 at *
      generalize (4294967296 : Int) ^ m = y4 at *
      generalize op k (dj u k) = y5 at *
      generalize d.toInt = y6 at *
      generalize c2.toInt = y7 at *
      grind
    · rcases Nat.eq_or_lt_of_le p with z | z
      · rw [← z, k1]; exact ⟨e3, e4⟩
      · exact g3 i (by omega) (by omega)
    · rw [g4 i (by omega)]; exact if_neg (by omega)
/-- the sum of the words, when no carry is left -/
theorem cy_end {u' u : Nat → Int64} {last t : Nat} {c' : Int} (hl : last ≤ 76) (h1 : dr_in 4294967296 (dj u') 0 last) (h2 : dr 4294967296 (dj u') 0 last + c' * 4294967296 ^ last = (t : Int)) (h3 : t < 4294967296 ^ last) (h4 : ∀ i, last ≤ i → i < 76 → u i = 0) (h5 : ∀ i, i < 0 ∨ last ≤ i → u' i = u i) : ww u' t := by
  have l1 := dr_pos 4294967296 (by decide) last 0 h1
  have l2 := dr_lt 4294967296 (by decide) last 0 h1
  rw [ww_pw] at h2 l2
  have c0 : c' = 0 := by
    rcases Int.lt_or_le 0 c' with z | z
    · exfalso
      have : 1 * ((4294967296 ^ last : Nat) : Int) ≤ c' * ((4294967296 ^ last : Nat) : Int) := Int.mul_le_mul_of_nonneg_right (by omega) (Int.natCast_nonneg _)
      generalize c' * ((4294967296 ^ last : Nat) : Int) = y at *
      generalize 4294967296 ^ last = y2 at *
      omega
    · rcases Int.lt_or_le c' 0 with y | y
      · exfalso
        have : c' * ((4294967296 ^ last : Nat) : Int) ≤ -1 * ((4294967296 ^ last : Nat) : Int) := Int.mul_le_mul_of_nonneg_right (by omega) (Int.natCast_nonneg _)
        generalize c' * ((4294967296 ^ last : Nat) : Int) = y at *
        generalize 4294967296 ^ last = y2 at *
        omega
      · omega
  rw [c0, Int.zero_mul, Int.add_zero] at h2
  exact ww_cut h1 h2 hl (fun i p q => by rw [h5 i (Or.inr p)]; exact h4 i p q)
theorem dr_addf (b : Int) (f g : Nat → Int) : ∀ (m k : Nat), dr b (fun i => f i + g i) k m = dr b f k m + dr b g k m := by
  intro m
  induction m with
  | zero => intro k; rfl
  | succ m ih => intro k; rw [dr_s, dr_s, dr_s, ih]; generalize dr b f (k + 1) m = x; generalize dr b g (k + 1) m = y; grind
theorem dr_subf (b : Int) (f g : Nat → Int) : ∀ (m k : Nat), dr b (fun i => f i - g i) k m = dr b f k m - dr b g k m := by
  intro m
  induction m with
  | zero => intro k; rfl
  | succ m ih => intro k; rw [dr_s, dr_s, dr_s, ih]; generalize dr b f (k + 1) m = x; generalize dr b g (k + 1) m = y; grind
theorem dr_mulf (b : Int) (f : Nat → Int) (a : Int) : ∀ (m k : Nat), dr b (fun i => f i * a) k m = dr b f k m * a := by
  intro m
  induction m with
  | zero => intro k; simp [dr_0]
  | succ m ih => intro k; rw [dr_s, dr_s, ih]; generalize dr b f (k + 1) m = x; grind
theorem nb_end {last : Nat} (h : last ≤ 76) : nI last ≤ nI last := Int32.le_refl _
/-- one word: the low half and the carry -/
theorem nb_word (x : Int64) : (x &&& (4294967295 : Int64)).toInt + 4294967296 * (x >>> ((32 : Int32).toInt64 &&& 63)).toInt = x.toInt ∧ 0 ≤ (x &&& (4294967295 : Int64)).toInt ∧ (x &&& (4294967295 : Int64)).toInt < 4294967296 := by
  rw [nb_m32, nb_r32]; omega
/-- add -/
theorem ra_add {F : Nat} (hF : 18446744073709551616 ≤ F) {f g : Nat → Int64} {v w : Nat} (hf : ww f v) (hg : ww g w) (h : v + w < 4294967296 ^ 76) : ∃ u, mf_Model_addRows F f g = some u ∧ ww u (v + w) := by
  obtain ⟨j, a1, a2, a3, a4⟩ := rz_size hF hf
  obtain ⟨i, b1, b2, b3, b4⟩ := rz_size hF hg
  unfold mf_Model_addRows
  rw [a2, sd_b1_s, b2, sd_b1_s, sd_let_s]
  have em : (if nI j < nI i then nI i else nI j) = nI (max j i) := by
    rw [nI_ifLt (by omega) (by omega)]
    by_cases z : j < i
    · rw [if_pos z, Nat.max_eq_right (by omega)]
    · rw [if_neg z, Nat.max_eq_left (by omega)]
  have el : (if nI (max j i) + 1 < (76 : Int32) then nI (max j i) + 1 else (76 : Int32)) = nI (min 76 (max j i + 1)) := by
    rw [nI_1, show (76 : Int32) = nI 76 from rfl, nI_ifLt (by omega) (by omega)]
    by_cases z : max j i + 1 < 76
    · rw [if_pos z, Nat.min_eq_right (by omega)]
    · rw [if_neg z, Nat.min_eq_left (by omega)]
  rw [em, el]
  generalize hL : min 76 (max j i + 1) = last
  have hlt : v + w < 4294967296 ^ last := by
    rcases Nat.lt_or_ge (max j i + 1) 76 with z | z
    · rw [show last = max j i + 1 by omega, Nat.pow_succ]
      have p1 : 4294967296 ^ j ≤ 4294967296 ^ (max j i) := Nat.pow_le_pow_right (by omega) (by omega)
      have p2 : 4294967296 ^ i ≤ 4294967296 ^ (max j i) := Nat.pow_le_pow_right (by omega) (by omega)
      generalize 4294967296 ^ (max j i) = y at *
      omega
    · rw [show last = 76 by omega]; exact h
  have hv : v < 4294967296 ^ last := by omega
  have hw : w < 4294967296 ^ last := by omega
  obtain ⟨u', c', g1, g2, g3, g4⟩ := cy_loop (mf_Model_addRows_L25 (nI last) g) last (fun k x => x + dj g k) (fun c => 0 ≤ c ∧ c ≤ 1)
    (fun fu c u => by rw [mf_Model_addRows_L25, if_pos (nb_end (by omega))])
    (fun fu c k u h1 h2 h3 h4 => by
      have q := hg.1 k (by omega) (by omega)
      have e1 : (u k + g k).toInt = dj u k + dj g k := by unfold dj at *; rw [nj_add] <;> omega
      have e2 : (c + (u k + g k)).toInt = c.toInt + (dj u k + dj g k) := by rw [nj_add] <;> rw [e1] <;> omega
      have wd := nb_word (c + (u k + g k))
      refine ⟨_, _, ?_, by rw [wd.1, e2], wd.2.1, wd.2.2, ?_⟩
      · rw [mf_Model_addRows_L25, nI_ifLe (by omega) (by omega), if_neg (by omega), sd_g_t (sd_ixI (by omega) (by omega)), sd_g_t (sd_ixI (by omega) (by omega)), sd_let_s, sd_g_t (sd_ixI (by omega) (by omega)), sd_let_s, sd_let_s, sd_let_s, nI_1, nI_clamp (by omega)]
      · rw [nb_r32, e2]; omega)
    last F 0 0 f (by omega) (by omega) (by decide) (fun i p q => hf.1 i p (by omega))
  have g1' : mf_Model_addRows_L25 (nI last) g F 0 0 f = some u' := g1
  rw [g1', sd_b1_s]
  refine ⟨u', rfl, cy_end (c' := c') (u := f) (last := last) (by omega) g3 ?_ hlt (ww_hi hf hv) g4⟩
  rw [g2, dr_addf, ww_lo hf (by omega) hv, show dr 4294967296 (fun i => dj g i) 0 last = dr 4294967296 (dj g) 0 last from rfl, ww_lo hg (by omega) hw, show (0 : Int64).toInt = 0 from rfl]
  omega
/-- subtract -/
theorem rb_sub {F : Nat} (hF : 18446744073709551616 ≤ F) {f g : Nat → Int64} {v w : Nat} (hf : ww f v) (hg : ww g w) (h : w ≤ v) : ∃ u, mf_Model_subtract F f g = some u ∧ ww u (v - w) := by
  obtain ⟨last, a1, a2, a3, a4⟩ := rz_size hF hf
  unfold mf_Model_subtract
  rw [a2, sd_b1_s]
  obtain ⟨u', c', g1, g2, g3, g4⟩ := cy_loop (mf_Model_subtract_L11 (nI last) g) last (fun k x => x - dj g k) (fun c => -1 ≤ c ∧ c ≤ 0)
    (fun fu c u => by rw [mf_Model_subtract_L11, if_pos (nb_end (by omega))])
    (fun fu c k u h1 h2 h3 h4 => by
      have q := hg.1 k (by omega) (by omega)
      have e1 : (u k - g k).toInt = dj u k - dj g k := by unfold dj at *; rw [nj_sub] <;> omega
      have e2 : (c + (u k - g k)).toInt = c.toInt + (dj u k - dj g k) := by rw [nj_add] <;> rw [e1] <;> omega
      have wd := nb_word (c + (u k - g k))
      refine ⟨_, _, ?_, by rw [wd.1, e2], wd.2.1, wd.2.2, ?_⟩
      · rw [mf_Model_subtract_L11, nI_ifLe (by omega) (by omega), if_neg (by omega), sd_g_t (sd_ixI (by omega) (by omega)), sd_g_t (sd_ixI (by omega) (by omega)), sd_let_s, sd_g_t (sd_ixI (by omega) (by omega)), sd_let_s, sd_let_s, sd_let_s, nI_1, nI_clamp (by omega)]
      · rw [nb_r32, e2]; omega)
    last F 0 0 f (by omega) (by omega) (by decide) (fun i p q => hf.1 i p (by omega))
  have g1' : mf_Model_subtract_L11 (nI last) g F 0 0 f = some u' := g1
  rw [g1', sd_b1_s]
  refine ⟨u', rfl, cy_end (c' := c') (u := f) (last := last) (by omega) g3 ?_ (by omega) (ww_hi hf a3) g4⟩
  rw [g2, dr_subf, ww_lo hf (by omega) a3, show dr 4294967296 (fun i => dj g i) 0 last = dr 4294967296 (dj g) 0 last from rfl, ww_lo hg (by omega) (by omega), show (0 : Int64).toInt = 0 from rfl]
  omega
/-- multiply -/
theorem rm_mul {F : Nat} (hF : 18446744073709551616 ≤ F) {f : Nat → Int64} {v a : Nat} (hf : ww f v) (ha : a ≤ 1000000000) (h : v * a < 4294967296 ^ 76) (hv0 : v < 4294967296 ^ 76) : ∃ u, mf_Model_multiplyRow F (lN a) f = some u ∧ ww u (v * a) := by
  obtain ⟨j, a1, a2, a3, a4⟩ := rz_size hF hf
  unfold mf_Model_multiplyRow
  rw [a2, sd_b1_s, sd_let_s]
  have el : (if nI j + (2 : Int32) < (76 : Int32) then nI j + (2 : Int32) else (76 : Int32)) = nI (min 76 (j + 2)) := by
    rw [show (2 : Int32) = nI 2 from rfl, nI_add, show (76 : Int32) = nI 76 from rfl, nI_ifLt (by omega) (by omega)]
    by_cases z : j + 2 < 76
    · rw [if_pos z, Nat.min_eq_right (by omega)]
    · rw [if_neg z, Nat.min_eq_left (by omega)]
  rw [el]
  generalize hL : min 76 (j + 2) = last
  have hv : v < 4294967296 ^ last := Nat.lt_of_lt_of_le a3 (Nat.pow_le_pow_right (by omega) (by omega))
  have hlt : v * a < 4294967296 ^ last := by
    rcases Nat.lt_or_ge (j + 2) 76 with z | z
    · rw [show last = j + 2 by omega, show j + 2 = j + 1 + 1 from rfl, Nat.pow_succ, Nat.pow_succ]
      have : v * a ≤ 4294967296 ^ j * 1000000000 := Nat.mul_le_mul (Nat.le_of_lt a3) ha
      have : 0 < 4294967296 ^ j := Nat.pow_pos (by omega)
      generalize 4294967296 ^ j = y at *
      omega
    · rw [show last = 76 by omega]; exact h
  obtain ⟨u', c', g1, g2, g3, g4⟩ := cy_loop (mf_Model_multiplyRow_L18 (nI last) (lN a)) last (fun k x => x * a) (fun c => 0 ≤ c ∧ c < 4294967296)
    (fun fu c u => by rw [mf_Model_multiplyRow_L18, if_pos (nb_end (by omega))])
    (fun fu c k u h1 h2 h3 h4 => by
      have m1 : dj u k * (a : Int) ≤ 4294967295 * a := Int.mul_le_mul_of_nonneg_right (by omega) (by omega)
      have m0 : 0 ≤ dj u k * (a : Int) := Int.mul_nonneg h3 (by omega)
      have e1 : (u k * lN a).toInt = dj u k * a := by unfold dj at *; rw [nj_mul] <;> rw [lN_bits a (by omega)] <;> omega
      have e2 : (c + u k * lN a).toInt = c.toInt + dj u k * a := by rw [nj_add] <;> rw [e1] <;> omega
      obtain ⟨n, n1, n2, n3⟩ := nb_uN (x := c + u k * lN a) (by rw [e2]; omega)
      have s1 : ((c + u k * lN a).toUInt64 >>> ((32 : Int32).toInt64.toUInt64 &&& Int64.toUInt64 63)).toInt64 = lN (n / 4294967296) := by rw [n1]; exact wb_shr (k := 32) (by omega) (by omega)
      refine ⟨(c + u k * lN a) &&& (4294967295 : Int64), lN (n / 4294967296), ?_, ?_, ?_, ?_, ?_⟩
      · rw [mf_Model_multiplyRow_L18, nI_ifLe (by omega) (by omega), if_neg (by omega), sd_g_t (sd_ixI (by omega) (by omega)), sd_let_s, sd_g_t (sd_ixI (by omega) (by omega)), sd_let_s, sd_let_s, sd_let_s, nI_1, nI_clamp (by omega), s1]
      · rw [nb_m32, lN_bits _ (by omega), e2]; rw [e2] at n2; omega
      · rw [nb_m32]; omega
      · rw [nb_m32]; omega
      · rw [lN_bits _ (by omega)]; rw [e2] at n2; omega)
    last F 0 0 f (by omega) (by omega) (by decide) (fun i p q => hf.1 i p (by omega))
  have g1' : mf_Model_multiplyRow_L18 (nI last) (lN a) F 0 0 f = some u' := g1
  rw [g1', sd_b1_s]
  refine ⟨u', rfl, cy_end (c' := c') (u := f) (last := last) (by omega) g3 ?_ hlt (ww_hi hf hv) g4⟩
  rw [g2, dr_mulf, show dr 4294967296 (fun i => dj f i) 0 last = dr 4294967296 (dj f) 0 last from rfl, ww_lo hf (by omega) hv, show (0 : Int64).toInt = 0 from rfl, Int.natCast_mul]
  omega
/-- twice -/
theorem rt_twice {F : Nat} (hF : 18446744073709551616 ≤ F) {f : Nat → Int64} {v b : Nat} (hf : ww f v) (hb : b ≤ 1) (h : 2 * v + b < 4294967296 ^ 76) : ∃ u, mf_Model_twice F (nI b) f = some u ∧ ww u (2 * v + b) := by
  obtain ⟨j, a1, a2, a3, a4⟩ := rz_size hF hf
  unfold mf_Model_twice
  rw [sd_let_s, a2, sd_b1_s, sd_let_s, nI_l (by omega)]
  have el : (if nI j + (1 : Int32) < (76 : Int32) then nI j + (1 : Int32) else (76 : Int32)) = nI (min 76 (j + 1)) := by
    rw [nI_1, show (76 : Int32) = nI 76 from rfl, nI_ifLt (by omega) (by omega)]
    by_cases z : j + 1 < 76
    · rw [if_pos z, Nat.min_eq_right (by omega)]
    · rw [if_neg z, Nat.min_eq_left (by omega)]
  rw [el]
  generalize hL : min 76 (j + 1) = last
  have hv : v < 4294967296 ^ last := Nat.lt_of_lt_of_le a3 (Nat.pow_le_pow_right (by omega) (by omega))
  have hlt : 2 * v + b < 4294967296 ^ last := by
    rcases Nat.lt_or_ge (j + 1) 76 with z | z
    · rw [show last = j + 1 by omega, Nat.pow_succ]
      generalize 4294967296 ^ j = y at *
      omega
    · rw [show last = 76 by omega]; exact h
  obtain ⟨u', c', g1, g2, g3, g4⟩ := cy_loop (mf_Model_twice_L19 (nI last)) last (fun k x => x * 2) (fun c => 0 ≤ c ∧ c ≤ 1)
    (fun fu c u => by rw [mf_Model_twice_L19, if_pos (nb_end (by omega))])
    (fun fu c k u h1 h2 h3 h4 => by
      have e1 : (u k <<< ((1 : Int32).toInt64 &&& 63)).toInt = dj u k * 2 := nb_l1 (by unfold dj at *; omega) (by unfold dj at *; omega)
      have e2 : (c + u k <<< ((1 : Int32).toInt64 &&& 63)).toInt = c.toInt + dj u k * 2 := by rw [nj_add] <;> rw [e1] <;> omega
      have wd := nb_word (c + u k <<< ((1 : Int32).toInt64 &&& 63))
      refine ⟨_, _, ?_, by rw [wd.1, e2], wd.2.1, wd.2.2, ?_⟩
      · rw [mf_Model_twice_L19, nI_ifLe (by omega) (by omega), if_neg (by omega), sd_g_t (sd_ixI (by omega) (by omega)), sd_let_s, sd_g_t (sd_ixI (by omega) (by omega)), sd_let_s, sd_let_s, sd_let_s, nI_1, nI_clamp (by omega)]
      · rw [nb_r32, e2]; omega)
    last F 0 (lN b) f (by omega) (by omega) (by rw [lN_bits b (by omega)]; omega) (fun i p q => hf.1 i p (by omega))
  have g1' : mf_Model_twice_L19 (nI last) F (lN b) 0 f = some u' := g1
  rw [g1', sd_b1_s]
  refine ⟨u', rfl, cy_end (c' := c') (u := f) (last := last) (by omega) g3 ?_ hlt (ww_hi hf hv) g4⟩
  rw [g2, dr_mulf, show dr 4294967296 (fun i => dj f i) 0 last = dr 4294967296 (dj f) 0 last from rfl, ww_lo hf (by omega) hv, lN_bits b (by omega)]
  omega
/-- addSmall: the carry ends -/
theorem rq_loop : ∀ (m fu k : Nat) (c : Int64) (u : Nat → Int64), k + m = 76 → m + 1 < fu → 0 ≤ c.toInt → c.toInt < 4294967296 → dr_in 4294967296 (dj u) k m → c.toInt + dr 4294967296 (dj u) k m < 4294967296 ^ m →
    ∃ u', mf_Model_addSmall_L5 fu c (nI k) u = some u' ∧ dr 4294967296 (dj u') k m = c.toInt + dr 4294967296 (dj u) k m ∧ dr_in 4294967296 (dj u') k m ∧ (∀ i, i < k → u' i = u i) := by
  intro m
  induction m with
  | zero =>
    intro fu k c u h1 h2 h3 h4 h5 h6
    obtain ⟨fu, rfl⟩ : ∃ g, fu = g + 1 := ⟨fu - 1, by omega⟩
    rw [dr_0] at h6
    have c0 : c = 0 := nj_eq.mpr (by rw [show (0 : Int64).toInt = 0 from rfl]; simp at h6; omega)
    rw [mf_Model_addSmall_L5, if_pos c0]
    exact ⟨u, rfl, by rw [c0]; rfl, h5, fun i _ => rfl⟩
  | succ m ih =>
    intro fu k c u h1 h2 h3 h4 h5 h6
    obtain ⟨fu, rfl⟩ : ∃ g, fu = g + 1 := ⟨fu - 1, by omega⟩
    rw [mf_Model_addSmall_L5]
    by_cases c0 : c = 0
    · rw [if_pos c0]
      exact ⟨u, rfl, by rw [c0, show (0 : Int64).toInt = 0 from rfl]; omega, h5, fun i _ => rfl⟩
    · rw [if_neg c0, sd_g_t (sd_ixI (by omega) (by omega)), sd_let_s, sd_g_t (sd_ixI (by omega) (by omega)), sd_let_s, sd_let_s, sd_let_s, nI_1, nI_clamp (by omega)]
      have q := h5 k (by omega) (by omega)
      have e2 : (c + u k).toInt = c.toInt + dj u k := by unfold dj at *; rw [nj_add] <;> omega
      have wd := nb_word (c + u k)
      have e3 := nb_r32 (c + u k)
      generalize hd : (c + u k) &&& (4294967295 : Int64) = d at *
      generalize hc : (c + u k) >>> ((32 : Int32).toInt64 &&& 63) = c2 at *
      have k2 : dr 4294967296 (dj (vp_updL u k d)) (k + 1) m = dr 4294967296 (dj u) (k + 1) m :=
        dr_congr _ _ _ (fun i p r => by rw [dj_upd, if_neg (by omega)])
      rw [dr_s, Int.pow_succ] at h6
      obtain ⟨u', g1, g2, g3, g4⟩ := ih fu (k + 1) c2 (vp_updL u k d) (by omega) (by omega) (by omega) (by omega) (fun i p r => by rw [dj_upd, if_neg (by omega)]; exact h5 i (by omega) (by omega)) (by
        rw [k2]
        generalize dr 4294967296 (dj u) (k + 1) m = y at *
        generalize (4294967296 : Int) ^ m = z at *
        omega)
      rw [k2] at g2
      have k1 : dj u' k = d.toInt := by unfold dj; rw [g4 k (by omega), show vp_updL u k d k = d from if_pos rfl]
      refine ⟨u', g1, ?_, fun i p r => ?_, fun i p => ?_⟩
      · rw [dr_s, dr_s, k1, g2]; omega
      · rcases Nat.eq_or_lt_of_le p with z | z
        · rw [← z, k1]; omega
        · exact g3 i (by omega) (by omega)
      · rw [g4 i (by omega)]; exact if_neg (by omega)
theorem rq_add {F : Nat} (hF : 18446744073709551616 ≤ F) {f : Nat → Int64} {v s : Nat} (hf : ww f v) (hs : s < 4294967296) (h : v + s < 4294967296 ^ 76) : ∃ u, mf_Model_addSmall F (lN s) f = some u ∧ ww u (v + s) := by
  obtain ⟨u', g1, g2, g3, g4⟩ := rq_loop 76 F 0 (lN s) f (by omega) (by omega) (by rw [lN_bits s (by omega)]; omega) (by rw [lN_bits s (by omega)]; omega) hf.1 (by
    rw [lN_bits s (by omega), hf.2, ww_pw]
    generalize 4294967296 ^ 76 = y at *
    omega)
  have g1' : mf_Model_addSmall_L5 F (lN s) 0 f = some u' := g1
  unfold mf_Model_addSmall
  rw [g1', sd_b1_s]
  refine ⟨u', rfl, g3, ?_⟩
  rw [g2, lN_bits s (by omega), hf.2]
  omega
