theorem tm_pos_le (c : Nat) (R : Nat → Int64) (x : Int64) : tm_pos c R x ≤ c := by
  have := tm_posF_le R x c 0
  unfold tm_pos; omega
theorem nI_is8 {c : Nat} (h : c ≤ 8) : nI c = (8 : Int32) ↔ c = 8 := by
  have e : (8 : Int32) = nI 8 := rfl
  rw [e]; exact nI_eq (by omega) (by omega)
theorem mf_addJ {F c k : Nat} (hc : c ≤ 8) (hk : k ≤ c) (q : Int32) (T B R : Nat → Int64) (a b x : Int64) :
    tm_says (mf_Sum_add_J62 F q a b x (nI k) (nI c) T B R) (if c = 8 then none else some (c + 1, tm_ins k a T, tm_ins k b B, tm_ins k x R)) := by
  unfold mf_Sum_add_J62
  by_cases h8 : c = 8
  · rw [if_pos ((nI_is8 hc).mpr h8), if_pos h8]
    exact ⟨_, _, _, _, rfl⟩
  · rw [if_neg (fun z => h8 ((nI_is8 hc).mp z)), if_neg h8, nI_1, mf_move (by omega) hc (by omega), sd_b3_s, mf_put (by omega), sd_b3_s, sd_let_s, nI_1]
    exact ⟨_, _, _, rfl, tm_cpy_ins hk T a, tm_cpy_ins hk B b, tm_cpy_ins hk R x⟩
theorem tm_says_b5 {m : Option (Int32 × Int32 × (Nat → Int64) × (Nat → Int64) × (Nat → Int64))} {s : Option tm_S} (h : tm_says m s) : tm_says (sd_b5 m fun r n T B R => sd_g (sd_b01 r) (some (r, n, T, B, R))) s := by
  match s, h with
  | none, h =>
    obtain ⟨n, T, B, R, e⟩ := h
    exact ⟨n, T, B, R, by rw [e]; rfl⟩
  | some (c, T', B', R'), h =>
    obtain ⟨T, B, R, e, h1, h2, h3⟩ := h
    exact ⟨T, B, R, by rw [e]; rfl, h1, h2, h3⟩
/-- the class's add -/
theorem mf_add {F : Nat} (hF : 200 ≤ F) {c : Nat} (hc : c ≤ 8) (q : Int32) (T B R : Nat → Int64) (a b x : Int64) (hT : ∀ j, j < c → tm_ok (T j) (B j)) (h2 : tm_ok a b) :
    tm_says (mf_Sum_add F a b x q (nI c) T B R) (tm_add c T B R a b x) := by
  unfold mf_Sum_add tm_add
  have e0 : mf_Sum_add_L3 (nI c) x R F (nI 0) = some (nI (tm_pos c R x)) := mf_add_pos hc x R F 0 (by omega) (by omega)
  rw [show (0 : Int32) = nI 0 from rfl, e0, sd_b1_s]
  have hk := tm_pos_le c R x
  generalize tm_pos c R x = k at hk
  by_cases hkc : k = c
  · subst hkc
    rw [if_pos (nI_le (Nat.le_refl _) (by omega)), if_neg (fun z => by omega)]
    exact mf_addJ hc (Nat.le_refl _) q T B R a b x
  · rw [if_neg (nI_ge (by omega) (by omega))]
    simp only [sd_ixI (show k < 8 by omega) (show k < 2147483648 by omega), sd_g_s, nI_clamp (show k < 2 ^ 31 by omega)]
    by_cases hr : R k = x
    · rw [if_pos hr, if_pos ⟨by omega, hr⟩]
      exact tm_says_b5 (mf_addToTerm hF hc (by omega) q T B R a b (hT k (by omega)) h2)
    · rw [if_neg hr, if_neg (fun z => hr z.2)]
      exact mf_addJ hc hk q T B R a b x
theorem jI_1 : jI 1 = 1 := rfl
theorem nj_div1 (x : Int64) : x / 1 = x := by
  rw [nj_eq, nj_div (by intro h; exact absurd h.2 (by decide))]
  show x.toInt.tdiv 1 = x.toInt
  exact Int.tdiv_one _
theorem tm_says_end {c k : Nat} {T B R T' B' R' : Nat → Int64} {m : Option (Int32 × Int32 × (Nat → Int64) × (Nat → Int64) × (Nat → Int64))} (e : m = some (1, nI c, T, B, R)) (h1 : tm_eq c T T') (h2 : tm_eq c B B') (h3 : tm_eq c R R') : tm_says m (some (c, T', B', R')) := ⟨T, B, R, e, h1, h2, h3⟩
/-- the end of the reference's add -/
theorem mm_addJ319 {k : Nat} (hk : k < 8) (x v9 v11 v13 : Int64) (h13 : v13.toInt ≠ 0) (n : Int32) (T B R : Nat → Int64) : mf_Model_addTerm_J319 x (nI k) v9 v11 v13 n T B R = some (1, n, vp_updL T k (v9 / v13), vp_updL B k (v11 / v13), vp_updL R k x) := by
  unfold mf_Model_addTerm_J319
  simp only [sd_zJt h13, sd_ixI (show k < 8 by omega) (show k < 2147483648 by omega), sd_g_s, sd_let_s, nI_clamp (show k < 2 ^ 31 by omega)]
/-- the reference's add: for a term in lowest terms -/
theorem mm_add {F : Nat} (hF : 18446744073709551616 ≤ F) {c : Nat} (hc : c ≤ 8) (o1 o2 o3 : Int32) (T B R : Nat → Int64) (a b x : Int64) (hT : ∀ j, j < c → tm_ok (T j) (B j)) (h2 : tm_ok a b) (ha : a.toInt ≠ 0) (hg : Nat.gcd a.toInt.natAbs b.toInt.natAbs = 1) :
    tm_says (mf_Model_addTerm F a b x (nI c) o1 o2 o3 T B R) (tm_add c T B R a b x) := by
  unfold mf_Model_addTerm tm_add
  have e0 : mf_Model_addTerm_L3 (nI c) x R F (nI 0) = some (nI (tm_pos c R x)) := mm_add_pos hc x R F 0 (by omega) (by omega)
  rw [show (0 : Int32) = nI 0 from rfl, e0, sd_b1_s, show nI 0 = (0 : Int32) from rfl]
  have hk := tm_pos_le c R x
  generalize tm_pos c R x = k at hk
  -- not there
  have out : ¬ (k < c ∧ R k = x) → (if nI c ≤ nI k then some (0 : Int32) else sd_g (sd_ix (nI k) 8) (if R (nI k).toNatClampNeg = x then some 1 else some 0)) = some 0 := by
    intro hn
    by_cases hkc : k = c
    · subst hkc
      rw [if_pos (nI_le (Nat.le_refl _) (by omega))]
    · rw [if_neg (nI_ge (by omega) (by omega)), sd_g_t (sd_ixI (by omega) (by omega)), nI_clamp (by omega), if_neg (fun z => hn ⟨by omega, z⟩)]
  have isin : (k < c ∧ R k = x) → (if nI c ≤ nI k then some (0 : Int32) else sd_g (sd_ix (nI k) 8) (if R (nI k).toNatClampNeg = x then some 1 else some 0)) = some 1 := by
    intro hy
    rw [if_neg (nI_ge hy.1 (by omega)), sd_g_t (sd_ixI (by omega) (by omega)), nI_clamp (by omega), if_pos hy.2]
  by_cases hin : k < c ∧ R k = x
  · rw [isin hin, sd_b1_s, if_pos hin, if_neg (by decide), if_neg (by decide)]
    obtain ⟨ex, ey, bx, by1, by2⟩ := tm_x (hT k hin.1) h2
    simp only [sd_ixI (show k < 8 by omega) (show k < 2147483648 by omega), sd_g_s, sd_b1_s, nI_clamp (show k < 2 ^ 31 by omega)]
    generalize hX : T k * b + a * B k = X at ex bx ⊢
    generalize hY : B k * b = Y at ey by1 by2 ⊢
    have z0 : (X = (0 : Int64)) ↔ X.toInt = 0 := nj_eq
    by_cases hx : X = 0
    · rw [if_pos hx, if_pos hx]
      obtain ⟨c', rfl⟩ : ∃ c', c = c' + 1 := ⟨c - 1, by omega⟩
      have e1 : nI (c' + 1) - 1 = nI c' := nI_pred c'
      simp only [e1, sd_let_s]
      rw [mm_shL (show c' < 8 by omega) F k T B R (by omega) (by omega), sd_b3_s]
      exact ⟨_, _, _, rfl, tm_sh_del hin.1 T, tm_sh_del hin.1 B, tm_sh_del hin.1 R⟩
    · have xn : X.toInt ≠ 0 := fun z => hx (z0.mpr z)
      rw [if_neg hx, if_neg hx]
      have hg0 : 0 < Nat.gcd X.toInt.natAbs Y.toInt.natAbs := Nat.gcd_pos_of_pos_left _ (by omega)
      have hgl : Nat.gcd X.toInt.natAbs Y.toInt.natAbs ≤ X.toInt.natAbs := Nat.gcd_le_left _ (by omega)
      have hgy : Nat.gcd X.toInt.natAbs Y.toInt.natAbs ≤ Y.toInt.natAbs := Nat.gcd_le_right _ (by omega)
      obtain ⟨v, ev, hv⟩ := mm_divisor hF X Y (by omega)
      rw [ev, sd_b1_s]
      have ev2 := jI_eq hv
      generalize Nat.gcd X.toInt.natAbs Y.toInt.natAbs = g at hg0 hgl hgy hv ev2 ⊢
      obtain ⟨d1, d2⟩ := tm_by (x := X) hg0 (by omega) (by omega)
      obtain ⟨d3, d4⟩ := tm_by (x := Y) hg0 (by omega) (by omega)
      have d5 : 0 ≤ (Y / jI g).toInt := by rw [d3]; exact Int.tdiv_nonneg (by omega) (by omega)
      have d6 : 1 ≤ Y.toInt.natAbs / g := (Nat.one_le_div_iff hg0).mpr hgy
      have dz : (jI g).toInt ≠ 0 := by rw [← ev2]; omega
      have hz : sd_zJ (jI g) = true := sd_zJt dz
      simp only [ev2, hz, sd_g_s, mm_fits, sd_b1_s]
      by_cases tt : X.toInt.natAbs / g ≤ 1000000000 ∧ Y.toInt.natAbs / g ≤ 1000000000
      · have r1 : (if -1000000000 ≤ (X / jI g).toInt ∧ (X / jI g).toInt ≤ 1000000000 ∧ 1 ≤ (Y / jI g).toInt ∧ (Y / jI g).toInt ≤ 1000000000 then (1 : Int32) else 0) = 1 := if_pos (by omega)
        rw [r1, if_neg (by decide), if_neg (by decide), if_pos tt]
        unfold mf_Model_addTerm_J237
        rw [if_neg (by decide), mm_addJ319 (by omega) _ _ _ _ dz]
        refine ⟨_, _, _, rfl, tm_eq_refl, tm_eq_refl, fun j _ => ?_⟩
        unfold vp_updL
        by_cases q : j = k
        · subst q; rw [if_pos rfl, hin.2]
        · rw [if_neg q]
      · have r1 : (if -1000000000 ≤ (X / jI g).toInt ∧ (X / jI g).toInt ≤ 1000000000 ∧ 1 ≤ (Y / jI g).toInt ∧ (Y / jI g).toInt ≤ 1000000000 then (1 : Int32) else 0) = 0 := if_neg (by omega)
        rw [r1, if_pos rfl, if_neg tt]
        exact ⟨_, _, _, _, rfl⟩
  · rw [out hin, sd_b1_s, if_neg hin, if_pos rfl, sd_b1_s, if_pos rfl, sd_b1_s]
    have za : ¬ a = (0 : Int64) := fun z => ha (by rw [z]; rfl)
    rw [if_neg za]
    obtain ⟨v, ev, hv⟩ := mm_divisor hF a b (by omega)
    rw [hg] at hv
    have v1 : v = 1 := nj_eq.mpr hv
    rw [ev, sd_b1_s, v1]
    simp only [sd_zJt (show (1 : Int64).toInt ≠ 0 by decide), sd_g_s, nj_div1, mm_fits, sd_b1_s]
    obtain ⟨q1, q2, q3⟩ := h2
    have r1 : (if -1000000000 ≤ a.toInt ∧ a.toInt ≤ 1000000000 ∧ 1 ≤ b.toInt ∧ b.toInt ≤ 1000000000 then (1 : Int32) else 0) = 1 := if_pos (by omega)
    rw [r1, if_neg (by decide), if_pos trivial]
    by_cases h8 : c = 8
    · rw [if_pos ((nI_is8 hc).mpr h8), if_pos h8]
      exact ⟨_, _, _, _, rfl⟩
    · rw [if_neg (fun z => h8 ((nI_is8 hc).mp z)), if_neg h8]
      unfold mf_Model_addTerm_J237
      rw [if_pos rfl, mm_shR T B R F c T B R hk (by omega) (by omega), sd_b3_s, sd_let_s, nI_1, mm_addJ319 (by omega) _ _ _ _ (by decide), nj_div1, nj_div1]
      exact ⟨_, _, _, rfl, tm_sh_ins hk T a, tm_sh_ins hk B b, tm_sh_ins hk R x⟩
