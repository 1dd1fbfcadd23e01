/-! numbers as terms: in lowest terms, with radicands in rising order -/
def tm_okT (a b x : Int64) : Prop := tm_ok a b ∧ a.toInt ≠ 0 ∧ Nat.gcd a.toInt.natAbs b.toInt.natAbs = 1 ∧ 1 ≤ x.toInt ∧ x.toInt ≤ 1000000000
def tm_okS (c : Nat) (T B R : Nat → Int64) : Prop := c ≤ 8 ∧ (∀ j, j < c → tm_okT (T j) (B j) (R j)) ∧ ∀ i j, i < j → j < c → R i < R j
theorem tm_okS.eq {c : Nat} {T B R T' B' R' : Nat → Int64} (h : tm_okS c T B R) (h1 : tm_eq c T' T) (h2 : tm_eq c B' B) (h3 : tm_eq c R' R) : tm_okS c T' B' R' := by
  refine ⟨h.1, fun j hj => ?_, fun i j hi hj => ?_⟩
  · rw [h1 j hj, h2 j hj, h3 j hj]; exact h.2.1 j hj
  · rw [h3 i (by omega), h3 j hj]; exact h.2.2 i j hi hj
theorem tm_okS.ok {c : Nat} {T B R : Nat → Int64} (h : tm_okS c T B R) : ∀ j, j < c → tm_ok (T j) (B j) := fun j hj => (h.2.1 j hj).1
theorem nj_lt_trans {x y z : Int64} (h1 : x < y) (h2 : y < z) : x < z := nj_lt.mpr (by have := nj_lt.mp h1; have := nj_lt.mp h2; omega)
theorem tm_lowest {X Y : Int64} {g : Nat} (hg : g = Nat.gcd X.toInt.natAbs Y.toInt.natAbs) (hX : X.toInt ≠ 0) (hXl : X.toInt ≠ -9223372036854775808) (hgl : g < 9223372036854775808) (hY : 1 ≤ Y.toInt) (h1 : X.toInt.natAbs / g ≤ 1000000000) (h2 : Y.toInt.natAbs / g ≤ 1000000000) :
    tm_ok (X / jI g) (Y / jI g) ∧ (X / jI g).toInt ≠ 0 ∧ Nat.gcd (X / jI g).toInt.natAbs (Y / jI g).toInt.natAbs = 1 := by
  have hg0 : 0 < g := by rw [hg]; exact Nat.gcd_pos_of_pos_left _ (by omega)
  obtain ⟨d1, d2⟩ := tm_by (x := X) hg0 hgl hXl
  obtain ⟨d3, d4⟩ := tm_by (x := Y) hg0 hgl (by omega)
  have d5 : 0 ≤ (Y / jI g).toInt := by rw [d3]; exact Int.tdiv_nonneg (by omega) (by omega)
  have d6 : 1 ≤ Y.toInt.natAbs / g := (Nat.one_le_div_iff hg0).mpr (by rw [hg]; exact Nat.gcd_le_right _ (by omega))
  have d7 : 1 ≤ X.toInt.natAbs / g := (Nat.one_le_div_iff hg0).mpr (by rw [hg]; exact Nat.gcd_le_left _ (by omega))
  refine ⟨⟨by omega, by omega, by omega⟩, by omega, ?_⟩
  rw [d2, d4, hg]
  exact Nat.coprime_div_gcd_div_gcd (by rw [← hg]; exact hg0)
theorem tm_add_ok {c : Nat} {T B R : Nat → Int64} {a b x : Int64} (h : tm_okS c T B R) (ht : tm_okT a b x) {c' : Nat} {T' B' R' : Nat → Int64} (e : tm_add c T B R a b x = some (c', T', B', R')) : tm_okS c' T' B' R' := by
  obtain ⟨hc, hj, hs⟩ := h
  have hk := tm_pos_le c R x
  have hbelow : ∀ j, j < tm_pos c R x → R j < x := fun j q => tm_posF_below R x c 0 j (by omega) q
  have hat : tm_pos c R x < c → x ≤ R (tm_pos c R x) := fun q => tm_posF_at R x c 0 (by show tm_pos c R x < 0 + c; omega)
  unfold tm_add at e
  generalize tm_pos c R x = k at hk hbelow hat e
  by_cases hin : k < c ∧ R k = x
  · rw [if_pos hin] at e
    obtain ⟨ex, ey, bx, by1, by2⟩ := tm_x (hj k hin.1).1 ht.1
    by_cases hx : T k * b + a * B k = 0
    · rw [if_pos hx] at e
      cases e
      refine ⟨by omega, fun j q => ?_, fun i j q1 q2 => ?_⟩
      · unfold tm_del
        by_cases q2 : j < k
        · simp only [if_pos q2]; exact hj j (by omega)
        · simp only [if_neg q2]; exact hj (j + 1) (by omega)
      · unfold tm_del
        by_cases q3 : j < k
        · simp only [if_pos q3, if_pos (show i < k by omega)]; exact hs i j q1 (by omega)
        · by_cases q4 : i < k
          · simp only [if_pos q4, if_neg q3]; exact hs i (j + 1) (by omega) (by omega)
          · simp only [if_neg q4, if_neg q3]; exact hs (i + 1) (j + 1) (by omega) (by omega)
    · rw [if_neg hx] at e
      have z0 : (T k * b + a * B k = (0 : Int64)) ↔ (T k * b + a * B k).toInt = 0 := nj_eq
      have xn : (T k * b + a * B k).toInt ≠ 0 := fun z => hx (z0.mpr z)
      split at e
      · rename_i hfit
        cases e
        have hgl : Nat.gcd (T k * b + a * B k).toInt.natAbs (B k * b).toInt.natAbs ≤ (T k * b + a * B k).toInt.natAbs := Nat.gcd_le_left _ (by omega)
        obtain ⟨l1, l2, l3⟩ := tm_lowest (X := T k * b + a * B k) (Y := B k * b) rfl xn (by omega) (by omega) by1 hfit.1 hfit.2
        refine ⟨hc, fun j q => ?_, hs⟩
        unfold vp_updL
        by_cases q2 : j = k
        · simp only [if_pos q2]
          rw [q2]
          exact ⟨l1, l2, l3, (hj k hin.1).2.2.2⟩
        · simp only [if_neg q2]; exact hj j q
      · cases e
  · rw [if_neg hin] at e
    split at e
    · cases e
    · rename_i h8
      cases e
      have habove : ∀ j, k ≤ j → j < c → x < R j := by
        intro j q1 q2
        have a1 := hat (by omega)
        have a2 : R k ≠ x := fun z => hin ⟨by omega, z⟩
        have a3 : x < R k := nj_lt.mpr (by
          have b1 := nj_le.mp a1
          have b2 : x.toInt ≠ (R k).toInt := fun z => a2 (nj_eq.mpr z.symm)
          omega)
        by_cases q3 : j = k
        · rw [q3]; exact a3
        · exact nj_lt_trans a3 (hs k j (by omega) q2)
      refine ⟨by omega, fun j q => ?_, fun i j q1 q2 => ?_⟩
      · unfold tm_ins
        by_cases q2 : j < k
        · simp only [if_pos q2]; exact hj j (by omega)
        · by_cases q3 : j = k
          · simp only [if_neg q2, if_pos q3]; exact ht
          · simp only [if_neg q2, if_neg q3]; exact hj (j - 1) (by omega)
      · unfold tm_ins
        by_cases q3 : j < k
        · simp only [if_pos q3, if_pos (show i < k by omega)]; exact hs i j q1 (by omega)
        · by_cases q4 : j = k
          · simp only [if_neg q3, if_pos q4, if_pos (show i < k by omega)]; exact hbelow i (by omega)
          · by_cases q5 : i < k
            · simp only [if_neg q3, if_neg q4, if_pos q5]; exact nj_lt_trans (hbelow i q5) (habove (j - 1) (by omega) (by omega))
            · by_cases q6 : i = k
              · simp only [if_neg q3, if_neg q4, if_neg q5, if_pos q6]; exact habove (j - 1) (by omega) (by omega)
              · simp only [if_neg q3, if_neg q4, if_neg q5, if_neg q6]; exact hs (i - 1) (j - 1) (by omega) (by omega)
/-- equal terms, equal sums -/
theorem tm_posF_eq {R R' : Nat → Int64} (x : Int64) : ∀ (m k : Nat), (∀ j, k ≤ j → j < k + m → R j = R' j) → tm_posF R x m k = tm_posF R' x m k := by
  intro m
  induction m with
  | zero => intro k _; rfl
  | succ m ih =>
    intro k h
    rw [tm_posF, tm_posF, h k (Nat.le_refl _) (by omega), ih (k + 1) (fun j q1 q2 => h j (by omega) (by omega))]
def tm_eqS (s s' : Option tm_S) : Prop := match s, s' with
  | none, none => True
  | some (c, T, B, R), some (c', T', B', R') => c = c' ∧ tm_eq c T T' ∧ tm_eq c B B' ∧ tm_eq c R R'
  | _, _ => False
theorem tm_add_eq {c : Nat} {T B R T' B' R' : Nat → Int64} (h1 : tm_eq c T T') (h2 : tm_eq c B B') (h3 : tm_eq c R R') (a b x : Int64) : tm_eqS (tm_add c T B R a b x) (tm_add c T' B' R' a b x) := by
  have hp : tm_pos c R x = tm_pos c R' x := tm_posF_eq x c 0 (fun j _ q => h3 j (by omega))
  have hk := tm_pos_le c R x
  unfold tm_add
  rw [← hp]
  generalize tm_pos c R x = k at hk
  by_cases hkc : k < c
  · rw [← h1 k hkc, ← h2 k hkc, ← h3 k hkc]
    by_cases hin : k < c ∧ R k = x
    · rw [if_pos hin, if_pos hin]
      split
      · refine ⟨rfl, fun j q => ?_, fun j q => ?_, fun j q => ?_⟩ <;> (unfold tm_del; by_cases q2 : j < k)
        · simp only [if_pos q2]; exact h1 j (by omega)
        · simp only [if_neg q2]; exact h1 _ (by omega)
        · simp only [if_pos q2]; exact h2 j (by omega)
        · simp only [if_neg q2]; exact h2 _ (by omega)
        · simp only [if_pos q2]; exact h3 j (by omega)
        · simp only [if_neg q2]; exact h3 _ (by omega)
      · split
        · refine ⟨rfl, fun j q => ?_, fun j q => ?_, h3⟩ <;> (unfold vp_updL; by_cases q2 : j = k)
          · simp only [if_pos q2]
          · simp only [if_neg q2]; exact h1 j q
          · simp only [if_pos q2]
          · simp only [if_neg q2]; exact h2 j q
        · exact trivial
    · rw [if_neg hin, if_neg hin]
      split
      · exact trivial
      · refine ⟨rfl, fun j q => ?_, fun j q => ?_, fun j q => ?_⟩ <;> (unfold tm_ins; by_cases q2 : j < k)
        · simp only [if_pos q2]; exact h1 j (by omega)
        · by_cases q3 : j = k
          · simp only [if_neg q2, if_pos q3]
          · simp only [if_neg q2, if_neg q3]; exact h1 _ (by omega)
        · simp only [if_pos q2]; exact h2 j (by omega)
        · by_cases q3 : j = k
          · simp only [if_neg q2, if_pos q3]
          · simp only [if_neg q2, if_neg q3]; exact h2 _ (by omega)
        · simp only [if_pos q2]; exact h3 j (by omega)
        · by_cases q3 : j = k
          · simp only [if_neg q2, if_pos q3]
          · simp only [if_neg q2, if_neg q3]; exact h3 _ (by omega)
  · rw [if_neg (show ¬ (k < c ∧ R k = x) from fun z => hkc z.1), if_neg (show ¬ (k < c ∧ R' k = x) from fun z => hkc z.1)]
    split
    · exact trivial
    · refine ⟨rfl, fun j q => ?_, fun j q => ?_, fun j q => ?_⟩ <;> (unfold tm_ins; by_cases q2 : j < k)
      · simp only [if_pos q2]; exact h1 j (by omega)
      · by_cases q3 : j = k
        · simp only [if_neg q2, if_pos q3]
        · simp only [if_neg q2, if_neg q3]; exact h1 _ (by omega)
      · simp only [if_pos q2]; exact h2 j (by omega)
      · by_cases q3 : j = k
        · simp only [if_neg q2, if_pos q3]
        · simp only [if_neg q2, if_neg q3]; exact h2 _ (by omega)
      · simp only [if_pos q2]; exact h3 j (by omega)
      · by_cases q3 : j = k
        · simp only [if_neg q2, if_pos q3]
        · simp only [if_neg q2, if_neg q3]; exact h3 _ (by omega)
