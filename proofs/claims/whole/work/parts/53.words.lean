/-! the reference's rows: 76 words of 32 bits, as one number -/
def ww (f : Nat → Int64) (v : Nat) : Prop := dr_in 4294967296 (dj f) 0 76 ∧ dr 4294967296 (dj f) 0 76 = (v : Int)
theorem ww_pw (m : Nat) : (4294967296 : Int) ^ m = ((4294967296 ^ m : Nat) : Int) := (Int.natCast_pow 4294967296 m).symm
/-- a row of digits that are right is the number -/
theorem dr_nat {W : Nat} (hW : 0 < W) {f : Nat → Int} {k m v : Nat} (h : dr_in W f k m) (hv : dr W f k m = (v : Int)) : ∀ i, i < m → f (k + i) = ((v / W ^ i % W : Nat) : Int) := by
  intro i hi
  rw [show m = i + (m - i - 1 + 1) by omega, dr_cat, dr_s] at hv
  have q := h (k + i) (by omega) (by omega)
  have l1 := dr_pos W (by omega) i k (fun j p r => h j p (by omega))
  have l2 := dr_lt W (by omega) i k (fun j p r => h j p (by omega))
  have l3 := dr_pos W (by omega) (m - i - 1) (k + i + 1) (fun j p r => h j (by omega) (by omega))
  obtain ⟨a, ha⟩ := Int.eq_ofNat_of_zero_le q.1
  obtain ⟨lo, hlo⟩ := Int.eq_ofNat_of_zero_le l1
  obtain ⟨hi', hhi⟩ := Int.eq_ofNat_of_zero_le l3
  rw [ha, hlo, hhi, ← Int.natCast_pow W i] at hv
  rw [hlo, ← Int.natCast_pow W i] at l2
  have l2' : lo < W ^ i := Int.ofNat_lt.mp l2
  have hv' : v = lo + W ^ i * (a + W * hi') := by
    have : ((lo + W ^ i * (a + W * hi') : Nat) : Int) = (v : Int) := by rw [← hv]; simp
    exact (Int.ofNat.inj this).symm
  have aW : a < W := by have := q.2; rw [ha] at this; exact Int.ofNat_lt.mp this
  rw [ha]
  congr 1
  rw [hv', Nat.add_mul_div_left _ _ (Nat.pow_pos hW), Nat.div_eq_of_lt l2', Nat.zero_add, Nat.add_mul_mod_self_left, Nat.mod_eq_of_lt aW]
theorem dr_ofNat {W : Nat} (hW : 0 < W) {f : Nat → Int} {v : Nat} : ∀ m, (∀ i, i < m → f i = ((v / W ^ i % W : Nat) : Int)) → dr W f 0 m = ((v % W ^ m : Nat) : Int) := by
  intro m
  induction m with
  | zero => intro _; rw [dr_0, Nat.pow_zero, Nat.mod_one]; rfl
  | succ m ih =>
    intro h
    rw [dr_top, ih (fun i p => h i (by omega)), Nat.zero_add, h m (by omega), Nat.mod_pow_succ, ← Int.natCast_pow W m, Int.natCast_add, Int.natCast_mul, Int.mul_comm]
theorem ww_dig {f : Nat → Int64} {v : Nat} (h : ww f v) {i : Nat} (hi : i < 76) : f i = lN (v / 4294967296 ^ i % 4294967296) := by
  have := dr_nat (W := 4294967296) (by omega) h.1 h.2 i hi
  rw [Nat.zero_add] at this
  exact nb_lN this
theorem ww_lt {f : Nat → Int64} {v : Nat} (h : ww f v) : v < 4294967296 ^ 76 := by
  have := dr_lt 4294967296 (by decide) 76 0 h.1
  rw [h.2, ww_pw] at this
  exact Int.ofNat_lt.mp this
theorem dig_lt (v i : Nat) : v / 4294967296 ^ i % 4294967296 < 4294967296 := Nat.mod_lt _ (by omega)
theorem ww_of {f : Nat → Int64} {v : Nat} (h : ∀ i, i < 76 → f i = lN (v / 4294967296 ^ i % 4294967296)) (hv : v < 4294967296 ^ 76) : ww f v := by
  have e : ∀ i, i < 76 → dj f i = ((v / 4294967296 ^ i % 4294967296 : Nat) : Int) := fun i hi => by
    unfold dj
    rw [h i hi, lN_bits _ (by have := dig_lt v i; omega)]
  refine ⟨fun i p q => ?_, ?_⟩
  · rw [e i (by omega)]
    exact ⟨Int.natCast_nonneg _, Int.ofNat_lt.mpr (dig_lt v i)⟩
  · have := dr_ofNat (W := 4294967296) (by omega) (f := dj f) (v := v) 76 e
    rw [Nat.mod_eq_of_lt hv] at this
    exact this
/-- of a row that is 0 from m on, the first m words are all -/
theorem ww_cut {f : Nat → Int64} {v m : Nat} (h1 : dr_in 4294967296 (dj f) 0 m) (h2 : dr 4294967296 (dj f) 0 m = (v : Int)) (hm : m ≤ 76) (h3 : ∀ i, m ≤ i → i < 76 → f i = 0) : ww f v := by
  refine ⟨fun i p q => ?_, ?_⟩
  · rcases Nat.lt_or_ge i m with z | z
    · exact h1 i p (by omega)
    · unfold dj; rw [h3 i z (by omega)]; decide
  · rw [show 76 = m + (76 - m) by omega, dr_cat, h2, dr_zero 4294967296 (f := dj f) (76 - m) _ (fun i p q => by unfold dj; rw [h3 i (by omega) (by omega)]; rfl)]
    simp
theorem ww_hi {f : Nat → Int64} {v m : Nat} (h : ww f v) (hv : v < 4294967296 ^ m) : ∀ i, m ≤ i → i < 76 → f i = 0 := by
  intro i p q
  rw [ww_dig h q, Nat.div_eq_of_lt (Nat.lt_of_lt_of_le hv (Nat.pow_le_pow_right (by omega) p))]
  rfl
theorem ww_lo {f : Nat → Int64} {v m : Nat} (h : ww f v) (hm : m ≤ 76) (hv : v < 4294967296 ^ m) : dr 4294967296 (dj f) 0 m = (v : Int) := by
  have := h.2
  rw [show 76 = m + (76 - m) by omega, dr_cat, dr_zero 4294967296 (f := dj f) (76 - m) _ (fun i p q => by unfold dj; rw [ww_hi h hv i (by omega) (by omega)]; rfl)] at this
  simpa using this
/-- set -/
theorem rs_loop : ∀ (m fu k : Nat) (u : Nat → Int64), k + m = 76 → m < fu → ∃ u', mf_Model_set_L2 fu (nI k) u = some u' ∧ (∀ i, k ≤ i → i < 76 → u' i = 0) := by
  intro m
  induction m with
  | zero =>
    intro fu k u h1 h2
    obtain ⟨fu, rfl⟩ : ∃ g, fu = g + 1 := ⟨fu - 1, by omega⟩
    rw [mf_Model_set_L2, show (76 : Int32) = nI 76 from rfl, nI_ifLe (by omega) (by omega), if_pos (by omega)]
    exact ⟨u, rfl, fun i _ _ => by omega⟩
  | succ m ih =>
    intro fu k u h1 h2
    obtain ⟨fu, rfl⟩ : ∃ g, fu = g + 1 := ⟨fu - 1, by omega⟩
    rw [mf_Model_set_L2, show (76 : Int32) = nI 76 from rfl, nI_ifLe (by omega) (by omega), if_neg (by omega), sd_g_t (sd_ixI (by omega) (by omega)), sd_let_s, sd_let_s, nI_1, nI_clamp (by omega)]
    have key : ∀ (m fu k : Nat) (u : Nat → Int64), k + m = 76 → m < fu → ∃ u', mf_Model_set_L2 fu (nI k) u = some u' ∧ (∀ i, i < k → u' i = u i) := by
      intro m
      induction m with
      | zero =>
        intro fu k u h1 h2
        obtain ⟨fu, rfl⟩ : ∃ g, fu = g + 1 := ⟨fu - 1, by omega⟩
        rw [mf_Model_set_L2, show (76 : Int32) = nI 76 from rfl, nI_ifLe (by omega) (by omega), if_pos (by omega)]
        exact ⟨u, rfl, fun i _ => rfl⟩
      | succ m ih =>
        intro fu k u h1 h2
        obtain ⟨fu, rfl⟩ : ∃ g, fu = g + 1 := ⟨fu - 1, by omega⟩
        rw [mf_Model_set_L2, show (76 : Int32) = nI 76 from rfl, nI_ifLe (by omega) (by omega), if_neg (by omega), sd_g_t (sd_ixI (by omega) (by omega)), sd_let_s, sd_let_s, nI_1, nI_clamp (by omega)]
        obtain ⟨u', e1, e2⟩ := ih fu (k + 1) (vp_updL u k 0) (by omega) (by omega)
        exact ⟨u', e1, fun i p => by rw [e2 i (by omega)]; exact if_neg (by omega)⟩
    obtain ⟨u', e1, e2⟩ := ih fu (k + 1) (vp_updL u k 0) (by omega) (by omega)
    obtain ⟨u2, e3, e4⟩ := key m fu (k + 1) (vp_updL u k 0) (by omega) (by omega)
    have : u2 = u' := Option.some.inj (e3.symm.trans e1)
    subst this
    refine ⟨u2, e1, fun i p q => ?_⟩
    rcases Nat.eq_or_lt_of_le p with z | z
    · rw [← z, e4 k (by omega)]; exact if_pos rfl
    · exact e2 i (by omega) q
theorem rs_set {F : Nat} (hF : 18446744073709551616 ≤ F) {v : Nat} (hv : v < 9223372036854775808) (u : Nat → Int64) : ∃ u', mf_Model_set F (lN v) u = some u' ∧ ww u' v := by
  obtain ⟨w, e1, e2⟩ := rs_loop 76 F 0 u (by omega) (by omega)
  have e1' : mf_Model_set_L2 F 0 u = some w := e1
  unfold mf_Model_set
  rw [e1', sd_b1_s, sd_let_s, sd_let_s]
  have m1 : lN v &&& (4294967295 : Int64) = lN (v % 4294967296) := wb_mask (k := 32) (by omega) (by omega)
  have m2 : ((lN v).toUInt64 >>> ((32 : Int32).toInt64.toUInt64 &&& Int64.toUInt64 63)).toInt64 = lN (v / 4294967296) := wb_shr (k := 32) (by omega) (by omega)
  rw [m1, m2, show (0 : Int32).toNatClampNeg = 0 from rfl, show (1 : Int32).toNatClampNeg = 1 from rfl]
  refine ⟨_, rfl, ww_of (fun i hi => ?_) ?_⟩
  · unfold vp_updL
    by_cases z1 : i = 1
    · rw [if_pos z1, z1, Nat.pow_one, Nat.mod_eq_of_lt (by omega)]
    · rw [if_neg z1]
      by_cases z0 : i = 0
      · rw [if_pos z0, z0, Nat.pow_zero, Nat.div_one]
      · rw [if_neg z0, e2 i (by omega) hi, Nat.div_eq_of_lt]
        · rfl
        · have : 4294967296 ^ 2 ≤ 4294967296 ^ i := Nat.pow_le_pow_right (by omega) (by omega)
          have e : 4294967296 ^ 2 = 18446744073709551616 := by decide
          omega
  · have : 4294967296 ^ 2 ≤ 4294967296 ^ 76 := Nat.pow_le_pow_right (by omega) (by omega)
    have e : 4294967296 ^ 2 = 18446744073709551616 := by decide
    exact Nat.lt_of_lt_of_le (by omega) this
/-- copy -/
theorem rc_loop (f : Nat → Int64) : ∀ (m fu k : Nat) (u : Nat → Int64), k + m = 76 → m < fu → (∀ i, i < k → u i = f i) → ∃ u', mf_Model_copy_L2 f fu (nI k) u = some u' ∧ (∀ i, i < 76 → u' i = f i) := by
  intro m
  induction m with
  | zero =>
    intro fu k u h1 h2 h3
    obtain ⟨fu, rfl⟩ : ∃ g, fu = g + 1 := ⟨fu - 1, by omega⟩
    rw [mf_Model_copy_L2, show (76 : Int32) = nI 76 from rfl, nI_ifLe (by omega) (by omega), if_pos (by omega)]
    exact ⟨u, rfl, fun i p => h3 i (by omega)⟩
  | succ m ih =>
    intro fu k u h1 h2 h3
    obtain ⟨fu, rfl⟩ : ∃ g, fu = g + 1 := ⟨fu - 1, by omega⟩
    rw [mf_Model_copy_L2, show (76 : Int32) = nI 76 from rfl, nI_ifLe (by omega) (by omega), if_neg (by omega), sd_g_t (sd_ixI (by omega) (by omega)), sd_g_t (sd_ixI (by omega) (by omega)), sd_let_s, sd_let_s, nI_1, nI_clamp (by omega)]
    refine ih fu (k + 1) (vp_updL u k (f k)) (by omega) (by omega) (fun i p => ?_)
    unfold vp_updL
    by_cases z : i = k
    · rw [if_pos z, z]
    · rw [if_neg z]; exact h3 i (by omega)
theorem ww_ext {f g : Nat → Int64} {v : Nat} (h : ww f v) (e : ∀ i, i < 76 → g i = f i) : ww g v := ww_of (fun i hi => by rw [e i hi]; exact ww_dig h hi) (ww_lt h)
theorem rc_copy {F : Nat} (hF : 18446744073709551616 ≤ F) {f : Nat → Int64} {v : Nat} (h : ww f v) (u : Nat → Int64) : ∃ u', mf_Model_copy F f u = some u' ∧ ww u' v := by
  obtain ⟨w, e1, e2⟩ := rc_loop f 76 F 0 u (by omega) (by omega) (fun i p => by omega)
  have e1' : mf_Model_copy_L2 f F 0 u = some w := e1
  unfold mf_Model_copy
  rw [e1', sd_b1_s]
  exact ⟨w, rfl, ww_ext h e2⟩
/-- size: as many words as the number has -/
theorem rz_loop (f : Nat → Int64) : ∀ (m fu : Nat), m ≤ 76 → m < fu → ∃ j, j ≤ m ∧ mf_Model_size_L3 f fu (nI m) = some (nI j) ∧ (∀ i, j ≤ i → i < m → f i = 0) ∧ (j = 0 ∨ f (j - 1) ≠ 0) := by
  intro m
  induction m with
  | zero =>
    intro fu h1 h2
    obtain ⟨fu, rfl⟩ : ∃ g, fu = g + 1 := ⟨fu - 1, by omega⟩
    rw [mf_Model_size_L3, if_pos (by decide)]
    exact ⟨0, by omega, rfl, fun i _ _ => by omega, Or.inl rfl⟩
  | succ m ih =>
    intro fu h1 h2
    obtain ⟨fu, rfl⟩ : ∃ g, fu = g + 1 := ⟨fu - 1, by omega⟩
    rw [mf_Model_size_L3, if_neg (nI_nle (by omega) (by omega)), nI_pred, sd_g_t (sd_ixI (by omega) (by omega)), nI_clamp (by omega), sd_let_s, dnI_d, dnI_s]
    by_cases h : f m = 0
    · rw [if_pos h]
      obtain ⟨j, a1, a2, a3, a4⟩ := ih fu (by omega) (by omega)
      refine ⟨j, by omega, a2, fun i p q => ?_, a4⟩
      rcases Nat.lt_or_ge i m with z | z
      · exact a3 i p z
      · rw [show i = m by omega]; exact h
    · rw [if_neg h]
      exact ⟨m + 1, by omega, rfl, fun i _ _ => by omega, Or.inr h⟩
theorem rz_size {F : Nat} (hF : 18446744073709551616 ≤ F) {f : Nat → Int64} {v : Nat} (h : ww f v) : ∃ j, j ≤ 76 ∧ mf_Model_size F f = some (nI j) ∧ v < 4294967296 ^ j ∧ (j = 0 ∨ 4294967296 ^ (j - 1) ≤ v) := by
  obtain ⟨j, a1, a2, a3, a4⟩ := rz_loop f 76 F (by omega) (by omega)
  have a2' : mf_Model_size_L3 f F 76 = some (nI j) := a2
  unfold mf_Model_size
  rw [a2', sd_b1_s]
  refine ⟨j, a1, rfl, ?_, ?_⟩
  · have e : dr 4294967296 (dj f) 0 j = (v : Int) := by
      rw [← h.2, show 76 = j + (76 - j) by omega, dr_cat, dr_zero 4294967296 (f := dj f) (76 - j) _ (fun i p q => by unfold dj; rw [a3 i (by omega) (by omega)]; rfl)]
      simp
    have := dr_lt 4294967296 (by decide) j 0 (fun i p q => h.1 i p (by omega))
    rw [e, ww_pw] at this
    exact Int.ofNat_lt.mp this
  · rcases a4 with z | z
    · exact Or.inl z
    · right
      rcases Nat.lt_or_ge v (4294967296 ^ (j - 1)) with y | y
      · rcases Nat.eq_zero_or_pos j with x | x
        · subst x
          exact absurd (show f 0 = 0 from a3 0 (by omega) (by omega)) z
        · exact absurd (ww_hi h y (j - 1) (Nat.le_refl _) (by omega)) z
      · exact y
/-- compare -/
theorem rp_loop (f g : Nat → Int64) : ∀ (m fu : Nat), m ≤ 76 → m < fu → (mf_Model_compareRows_L3 f g fu (dnI m) = some (1, dnI 0) ∧ ∀ i, i < m → f i = g i) ∨ (∃ j, j < m ∧ mf_Model_compareRows_L3 f g fu (dnI m) = some (0, nI j) ∧ f j ≠ g j ∧ ∀ i, j < i → i < m → f i = g i) := by
  intro m
  induction m with
  | zero =>
    intro fu h1 h2
    obtain ⟨fu, rfl⟩ : ∃ g, fu = g + 1 := ⟨fu - 1, by omega⟩
    rw [mf_Model_compareRows_L3, if_pos dnI_n0]
    exact Or.inl ⟨rfl, fun i _ => by omega⟩
  | succ m ih =>
    intro fu h1 h2
    obtain ⟨fu, rfl⟩ : ∃ g, fu = g + 1 := ⟨fu - 1, by omega⟩
    rw [mf_Model_compareRows_L3, dnI_s, if_neg (dnI_np (by omega)), sd_g_t (sd_ixI (by omega) (by omega)), sd_g_t (sd_ixI (by omega) (by omega)), nI_clamp (by omega), sd_let_s, dnI_d]
    by_cases h : f m = g m
    · rw [if_pos h]
      rcases ih fu (by omega) (by omega) with ⟨a1, a2⟩ | ⟨j, a1, a2, a3, a4⟩
      · left
        refine ⟨a1, fun i p => ?_⟩
        rcases Nat.lt_or_ge i m with z | z
        · exact a2 i z
        · rw [show i = m by omega]; exact h
      · right
        refine ⟨j, by omega, a2, a3, fun i p q => ?_⟩
        rcases Nat.lt_or_ge i m with z | z
        · exact a4 i p z
        · rw [show i = m by omega]; exact h
    · rw [if_neg h]
      exact Or.inr ⟨m, by omega, rfl, h, fun i _ _ => by omega⟩
def cmpI (v w : Nat) : Int32 := if v = w then 0 else if w ≤ v then 1 else -1
theorem rp_compare {F : Nat} (hF : 18446744073709551616 ≤ F) {f g : Nat → Int64} {v w : Nat} (hf : ww f v) (hg : ww g w) : mf_Model_compareRows F f g = some (cmpI v w) := by
  unfold mf_Model_compareRows
  rcases rp_loop f g 76 F (by omega) (by omega) with ⟨a1, a2⟩ | ⟨j, a1, a2, a3, a4⟩
  · have a1' : mf_Model_compareRows_L3 f g F 75 = some (1, dnI 0) := a1
    rw [a1', sd_b2_s, if_neg (by decide)]
    have e : v = w := by
      have : dr 4294967296 (dj f) 0 76 = dr 4294967296 (dj g) 0 76 := dr_congr _ _ _ (fun i p q => by unfold dj; rw [a2 i (by omega)])
      rw [hf.2, hg.2] at this
      exact Int.ofNat.inj this
    unfold cmpI
    rw [if_pos e]
  · have a2' : mf_Model_compareRows_L3 f g F 75 = some (0, nI j) := a2
    rw [a2', sd_b2_s, if_pos rfl, sd_g_t (sd_ixI (by omega) (by omega)), sd_g_t (sd_ixI (by omega) (by omega)), nI_clamp (by omega)]
    have cut : ∀ (x y : Nat → Int64), (∀ i, j < i → i < 76 → x i = y i) → dr 4294967296 (dj x) (j + 1) (75 - j) = dr 4294967296 (dj y) (j + 1) (75 - j) := fun x y hxy => dr_congr _ _ _ (fun i p q => by unfold dj; rw [hxy i (by omega) (by omega)])
    have e1 := hf.2
    have e2 := hg.2
    rw [show 76 = (j + 1) + (75 - j) by omega, dr_cat, Nat.zero_add] at e1 e2
    rw [cut f g a4] at e1
    have hlt : ∀ (x y : Nat → Int64), dr_in 4294967296 (dj x) 0 76 → dr_in 4294967296 (dj y) 0 76 → dj x j < dj y j → dr 4294967296 (dj x) 0 (j + 1) < dr 4294967296 (dj y) 0 (j + 1) := fun x y hx hy hxy =>
      dr_cmp 4294967296 (by decide) 0 j (fun i p q => hx i p (by omega)) (fun i p q => hy i p (by omega)) 0 (by rw [Nat.zero_add]; exact hxy)
    have ne : ¬ dj f j = dj g j := fun z => a3 (nj_eq.mpr z)
    unfold cmpI
    by_cases q : g j ≤ f j
    · have q' : dj g j ≤ dj f j := nj_le.mp q
      have := hlt g f hg.1 hf.1 (by omega)
      rw [if_pos q, sd_b1_s, if_neg (by omega), if_pos (by omega)]
    · have q' : ¬ dj g j ≤ dj f j := fun z => q (nj_le.mpr z)
      have := hlt f g hf.1 hg.1 (by omega)
      rw [if_neg q, sd_b1_s, if_neg (by omega), if_neg (by omega)]
