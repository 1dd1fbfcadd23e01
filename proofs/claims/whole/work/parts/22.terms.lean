/-! terms: the reference's divisor, sizes, places, shifts -/
theorem sd_let_s {α β : Type} (x : α) (k : α → Option β) : sd_let x k = k x := rfl
theorem sd_g_s {β : Type} (x : Option β) : sd_g true x = x := rfl
theorem sd_b1_s {α β : Type} (x : α) (k : α → Option β) : sd_b1 (some x) k = k x := rfl
theorem sd_b2_s {t1 t2 β : Type} (x : t1) (y : t2) (k : t1 → t2 → Option β) : sd_b2 (some (x, y)) k = k x y := rfl
theorem sd_b3_s {t1 t2 t3 β : Type} (x : t1) (y : t2) (z : t3) (k : t1 → t2 → t3 → Option β) : sd_b3 (some (x, y, z)) k = k x y z := rfl
theorem sd_b4_s {t1 t2 t3 t4 β : Type} (x : t1) (y : t2) (z : t3) (w : t4) (k : t1 → t2 → t3 → t4 → Option β) : sd_b4 (some (x, y, z, w)) k = k x y z w := rfl
theorem sd_b5_s {t1 t2 t3 t4 t5 β : Type} (x : t1) (y : t2) (z : t3) (w : t4) (v : t5) (k : t1 → t2 → t3 → t4 → t5 → Option β) : sd_b5 (some (x, y, z, w, v)) k = k x y z w v := rfl
/-- the reference's Euclid -/
theorem mm_div_loop : ∀ (fu : Nat) (x y : Int64), y.toInt.natAbs < fu → ∃ v, mf_Model_divisor_L6 fu x y = some v ∧ v.toInt.natAbs = Nat.gcd x.toInt.natAbs y.toInt.natAbs := by
  intro fu
  induction fu with
  | zero => intro x y h; exact absurd h (by omega)
  | succ fu ih =>
    intro x y h
    rw [mf_Model_divisor_L6]
    by_cases y0 : y = 0
    · rw [if_pos y0]
      refine ⟨x, rfl, ?_⟩
      rw [y0]
      show _ = Nat.gcd x.toInt.natAbs 0
      rw [Nat.gcd_zero_right]
    · have yn : y.toInt ≠ 0 := fun q => y0 (nj_eq.mpr q)
      rw [if_neg y0, sd_g_t (sd_zJt yn), sd_let_s]
      have r1n : (x - x / y * y).toInt.natAbs = x.toInt.natAbs % y.toInt.natAbs := by rw [nj_rem x y, Int.natAbs_tmod]
      generalize x - x / y * y = z at r1n
      obtain ⟨v, e, hv⟩ := ih y z (by rw [r1n]; have := Nat.mod_lt x.toInt.natAbs (y := y.toInt.natAbs) (by omega); omega)
      refine ⟨v, e, ?_⟩
      rw [hv, r1n, Nat.gcd_comm, ← Nat.gcd_rec, Nat.gcd_comm]
/-- the reference's divisor -/
theorem mm_divisor {F : Nat} (hF : 18446744073709551616 ≤ F) (a b : Int64) (h1 : Nat.gcd a.toInt.natAbs b.toInt.natAbs < 9223372036854775808) : ∃ v, mf_Model_divisor F a b = some v ∧ v.toInt = (Nat.gcd a.toInt.natAbs b.toInt.natAbs : Int) := by
  have hb := nj_bd b
  obtain ⟨v, e, hv⟩ := mm_div_loop F a b (by omega)
  unfold mf_Model_divisor
  rw [e, sd_b1_s]
  by_cases h0 : (0 : Int64) ≤ v
  · have h2 : (0 : Int64).toInt ≤ v.toInt := nj_le.mp h0
    have h3 : (0 : Int64).toInt = 0 := rfl
    rw [if_pos h0, sd_b1_s]
    exact ⟨v, rfl, by omega⟩
  · have h2 : ¬ (0 : Int64).toInt ≤ v.toInt := fun q => h0 (nj_le.mpr q)
    have h3 : (0 : Int64).toInt = 0 := rfl
    rw [if_neg h0, sd_b1_s]
    exact ⟨-v, rfl, by rw [nj_neg (by omega)]; omega⟩
theorem mf_tooGreat (F : Nat) (x : Int64) : mf_Whole_isTooGreat F x = some (if x.toInt < 0 ∨ 1000000000 < x.toInt then 1 else 0) := by
  unfold mf_Whole_isTooGreat
  have c0 : (x < (0 : Int64)) ↔ x.toInt < 0 := nj_lt
  have c1 : (x ≤ (1000000000 : Int64)) ↔ x.toInt ≤ 1000000000 := nj_le
  by_cases h0 : x.toInt < 0
  · rw [if_pos (c0.mpr h0), if_pos (Or.inl h0)]; rfl
  · rw [if_neg (fun q => h0 (c0.mp q))]
    by_cases h1 : x.toInt ≤ 1000000000
    · rw [if_pos (c1.mpr h1), if_neg (by omega)]; rfl
    · rw [if_neg (fun q => h1 (c1.mp q)), if_pos (by omega)]; rfl
theorem mm_fits (F : Nat) (a b : Int64) : mf_Model_fits F a b = some (if -1000000000 ≤ a.toInt ∧ a.toInt ≤ 1000000000 ∧ 1 ≤ b.toInt ∧ b.toInt ≤ 1000000000 then 1 else 0) := by
  unfold mf_Model_fits
  have c0 : (a < (-1000000000 : Int64)) ↔ a.toInt < -1000000000 := nj_lt
  have c1 : ((1000000000 : Int64) < a) ↔ 1000000000 < a.toInt := nj_lt
  have c2 : (b < (1 : Int64)) ↔ b.toInt < 1 := nj_lt
  have c3 : ((1000000000 : Int64) < b) ↔ 1000000000 < b.toInt := nj_lt
  by_cases h0 : a.toInt < -1000000000
  · rw [if_pos (c0.mpr h0), if_neg (by omega)]; rfl
  · rw [if_neg (fun q => h0 (c0.mp q))]
    by_cases h1 : 1000000000 < a.toInt
    · rw [if_pos (c1.mpr h1), if_neg (by omega)]; rfl
    · rw [if_neg (fun q => h1 (c1.mp q))]
      by_cases h2 : b.toInt < 1
      · rw [if_pos (c2.mpr h2), if_neg (by omega)]; rfl
      · rw [if_neg (fun q => h2 (c2.mp q))]
        by_cases h3 : 1000000000 < b.toInt
        · rw [if_pos (c3.mpr h3), if_neg (by omega)]; rfl
        · rw [if_neg (fun q => h3 (c3.mp q)), if_pos (by omega)]; rfl
/-- the first place from k on, of m places, whose radicand isn't below x -/
def tm_posF (R : Nat → Int64) (x : Int64) : Nat → Nat → Nat
  | 0, k => k
  | m + 1, k => if x ≤ R k then k else tm_posF R x m (k + 1)
def tm_pos (c : Nat) (R : Nat → Int64) (x : Int64) : Nat := tm_posF R x c 0
theorem tm_posF_le (R : Nat → Int64) (x : Int64) : ∀ (m k : Nat), k ≤ tm_posF R x m k ∧ tm_posF R x m k ≤ k + m := by
  intro m
  induction m with
  | zero => intro k; exact ⟨Nat.le_refl _, Nat.le_refl _⟩
  | succ m ih =>
    intro k
    rw [tm_posF]
    split
    · exact ⟨Nat.le_refl _, by omega⟩
    · have := ih (k + 1); omega
theorem tm_posF_below (R : Nat → Int64) (x : Int64) : ∀ (m k j : Nat), k ≤ j → j < tm_posF R x m k → R j < x := by
  intro m
  induction m with
  | zero => intro k j h1 h2; exact absurd h2 (by show ¬ j < k; omega)
  | succ m ih =>
    intro k j h1 h2
    rw [tm_posF] at h2
    split at h2
    · omega
    · rename_i hx
      by_cases e : j = k
      · subst e
        rw [nj_lt]
        have : ¬ x.toInt ≤ (R j).toInt := fun q => hx (nj_le.mpr q)
        omega
      · exact ih (k + 1) j (by omega) h2
theorem tm_posF_at (R : Nat → Int64) (x : Int64) : ∀ (m k : Nat), tm_posF R x m k < k + m → x ≤ R (tm_posF R x m k) := by
  intro m
  induction m with
  | zero => intro k h; exact absurd h (by show ¬ k < k + 0; omega)
  | succ m ih =>
    intro k h
    rw [tm_posF] at h ⊢
    split
    · rename_i hx; exact hx
    · rename_i hx
      rw [if_neg hx] at h
      exact ih (k + 1) (by omega)
theorem mf_add_pos {c : Nat} (hc : c ≤ 8) (x : Int64) (R : Nat → Int64) : ∀ (fu k : Nat), k ≤ c → c - k < fu → mf_Sum_add_L3 (nI c) x R fu (nI k) = some (nI (tm_posF R x (c - k) k)) := by
  intro fu
  induction fu with
  | zero => intro k h1 h2; exact absurd h2 (by omega)
  | succ fu ih =>
    intro k h1 h2
    rw [mf_Sum_add_L3]
    by_cases e : k = c
    · subst e
      rw [if_pos (nI_le (Nat.le_refl _) (by omega)), Nat.sub_self]; rfl
    · rw [if_neg (nI_ge (by omega) (by omega)), sd_g_t (sd_ixI (by omega) (by omega)), nI_clamp (by omega)]
      obtain ⟨m, hm⟩ : ∃ m, c - k = m + 1 := ⟨c - k - 1, by omega⟩
      rw [hm, tm_posF]
      by_cases hx : x ≤ R k
      · rw [if_pos hx, if_pos hx]
      · rw [if_neg hx, if_neg hx, sd_let_s, nI_1, ih (k + 1) (by omega) (by omega), show c - (k + 1) = m by omega]
theorem mm_add_pos {c : Nat} (hc : c ≤ 8) (x : Int64) (R : Nat → Int64) : ∀ (fu k : Nat), k ≤ c → c - k < fu → mf_Model_addTerm_L3 (nI c) x R fu (nI k) = some (nI (tm_posF R x (c - k) k)) := by
  intro fu
  induction fu with
  | zero => intro k h1 h2; exact absurd h2 (by omega)
  | succ fu ih =>
    intro k h1 h2
    rw [mf_Model_addTerm_L3]
    by_cases e : k = c
    · subst e
      rw [if_pos (nI_le (Nat.le_refl _) (by omega)), Nat.sub_self]; rfl
    · rw [if_neg (nI_ge (by omega) (by omega)), sd_g_t (sd_ixI (by omega) (by omega)), nI_clamp (by omega)]
      obtain ⟨m, hm⟩ : ∃ m, c - k = m + 1 := ⟨c - k - 1, by omega⟩
      rw [hm, tm_posF]
      by_cases hx : x ≤ R k
      · rw [if_pos hx, if_pos hx]
      · rw [if_neg hx, if_neg hx, sd_let_s, nI_1, ih (k + 1) (by omega) (by omega), show c - (k + 1) = m by omega]
def tm_shR (k i : Nat) (f : Nat → Int64) : Nat → Int64 := fun j => if k < j ∧ j ≤ i then f (j - 1) else f j
def tm_shL (i m : Nat) (f : Nat → Int64) : Nat → Int64 := fun j => if i ≤ j ∧ j < m then f (j + 1) else f j
theorem tm_shR_step {k i : Nat} (h : k < i) (f : Nat → Int64) : tm_shR k (i - 1) (vp_updL f i (f (i - 1))) = tm_shR k i f := by
  funext j
  unfold tm_shR vp_updL
  by_cases h1 : k < j ∧ j ≤ i - 1
  · rw [if_pos h1, if_neg (by omega), if_pos (by omega)]
  · rw [if_neg h1]
    by_cases h2 : j = i
    · subst h2; rw [if_pos rfl, if_pos (by omega)]
    · rw [if_neg h2, if_neg (by omega)]
theorem tm_shL_step {i m : Nat} (h : i < m) (f : Nat → Int64) : tm_shL (i + 1) m (vp_updL f i (f (i + 1))) = tm_shL i m f := by
  funext j
  unfold tm_shL vp_updL
  by_cases h1 : i + 1 ≤ j ∧ j < m
  · rw [if_pos h1, if_neg (by omega), if_pos (by omega)]
  · rw [if_neg h1]
    by_cases h2 : j = i
    · subst h2; rw [if_pos rfl, if_pos (by omega)]
    · rw [if_neg h2, if_neg (by omega)]
theorem tm_shR_0 (k : Nat) (f : Nat → Int64) : tm_shR k k f = f := by
  funext j; unfold tm_shR; rw [if_neg (by omega)]
theorem tm_shL_0 (k : Nat) (f : Nat → Int64) : tm_shL k k f = f := by
  funext j; unfold tm_shL; rw [if_neg (by omega)]
theorem mm_shR {k : Nat} (N D R : Nat → Int64) : ∀ (fu i : Nat) (N D R : Nat → Int64), k ≤ i → i < 8 → i - k < fu → mf_Model_addTerm_L248 (nI k) fu (nI i) N D R = some (tm_shR k i N, tm_shR k i D, tm_shR k i R) := by
  intro fu
  induction fu with
  | zero => intro i N D R h1 h2 h3; exact absurd h3 (by omega)
  | succ fu ih =>
    intro i N D R h1 h2 h3
    rw [mf_Model_addTerm_L248]
    by_cases e : i = k
    · subst e
      rw [if_pos (nI_le (Nat.le_refl _) (by omega)), tm_shR_0, tm_shR_0, tm_shR_0]
    · obtain ⟨i', rfl⟩ : ∃ i', i = i' + 1 := ⟨i - 1, by omega⟩
      have e1 : nI (i' + 1) - 1 = nI i' := nI_pred i'
      have e2 : nI (i' + 1) + (-1) = nI i' := pk_m1 i'
      rw [if_neg (nI_ge (by omega) (by omega))]
      simp only [e1, e2, nI_clamp (show i' < 2 ^ 31 by omega), nI_clamp (show i' + 1 < 2 ^ 31 by omega), sd_ixI (show i' < 8 by omega) (show i' < 2147483648 by omega), sd_ixI (show i' + 1 < 8 by omega) (show i' + 1 < 2147483648 by omega), sd_g_s, sd_let_s]
      rw [ih i' _ _ _ (by omega) (by omega) (by omega)]
      have s := fun f => tm_shR_step (k := k) (i := i' + 1) (by omega) f
      simp only [Nat.add_sub_cancel] at s
      rw [s, s, s]
theorem mm_shL {m : Nat} (hm : m < 8) : ∀ (fu i : Nat) (N D R : Nat → Int64), i ≤ m → m - i < fu → mf_Model_addTerm_L131 (nI m) fu (nI i) N D R = some (tm_shL i m N, tm_shL i m D, tm_shL i m R) := by
  intro fu
  induction fu with
  | zero => intro i N D R h1 h3; exact absurd h3 (by omega)
  | succ fu ih =>
    intro i N D R h1 h3
    rw [mf_Model_addTerm_L131]
    by_cases e : i = m
    · subst e
      rw [if_pos (nI_le (Nat.le_refl _) (by omega)), tm_shL_0, tm_shL_0, tm_shL_0]
    · rw [if_neg (nI_ge (by omega) (by omega))]
      simp only [nI_1, nI_clamp (show i < 2 ^ 31 by omega), nI_clamp (show i + 1 < 2 ^ 31 by omega), sd_ixI (show i < 8 by omega) (show i < 2147483648 by omega), sd_ixI (show i + 1 < 8 by omega) (show i + 1 < 2147483648 by omega), sd_g_s, sd_let_s]
      rw [ih (i + 1) _ _ _ (by omega) (by omega)]
      rw [tm_shL_step (by omega), tm_shL_step (by omega), tm_shL_step (by omega)]
theorem sd_cpI {a b n n0 n1 : Nat} (h1 : a + n ≤ n0) (h2 : b + n ≤ n1) (h3 : n0 < 2147483648) (h4 : n1 < 2147483648) : sd_cp (nI a) (nI b) (nI n) n0 n1 = true := by
  unfold sd_cp
  rw [nI_clamp (by omega), nI_clamp (by omega), nI_clamp (by omega)]
  exact decide_eq_true ⟨nI_pos (by omega), nI_pos (by omega), nI_pos (by omega), h1, h2⟩
theorem mf_move {a b c : Nat} (h1 : a ≤ c) (h2 : c ≤ 8) (h3 : b + (c - a) ≤ 8) (F : Nat) (k : Int32) (T B R : Nat → Int64) : mf_Sum_move F (nI a) (nI b) k (nI c) T B R = some (va_cpy T T a b (c - a), va_cpy B B a b (c - a), va_cpy R R a b (c - a)) := by
  unfold mf_Sum_move
  rw [pk_sub h1]
  simp only [sd_cpI (show a + (c - a) ≤ 8 by omega) h3 (by omega) (by omega), sd_g_s, sd_let_s, nI_clamp (show a < 2 ^ 31 by omega), nI_clamp (show b < 2 ^ 31 by omega), nI_clamp (show c - a < 2 ^ 31 by omega)]
theorem mf_put {k : Nat} (h : k < 8) (F : Nat) (q n : Int32) (a b r : Int64) (T B R : Nat → Int64) : mf_Sum_put F (nI k) a b r q n T B R = some (vp_updL T k a, vp_updL B k b, vp_updL R k r) := by
  unfold mf_Sum_put
  simp only [sd_ixI (show k < 8 by omega) (show k < 2147483648 by omega), sd_g_s, sd_let_s, nI_clamp (show k < 2 ^ 31 by omega)]
