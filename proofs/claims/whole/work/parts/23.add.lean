/-! to ADD a term: class and reference do the same -/
def tm_ins (k : Nat) (v : Int64) (f : Nat → Int64) : Nat → Int64 := fun j => if j < k then f j else if j = k then v else f (j - 1)
def tm_del (k : Nat) (f : Nat → Int64) : Nat → Int64 := fun j => if j < k then f j else f (j + 1)
def tm_eq (c : Nat) (f g : Nat → Int64) : Prop := ∀ j, j < c → f j = g j
abbrev tm_S : Type := Nat × (Nat → Int64) × (Nat → Int64) × (Nat → Int64)
/-- what ADDing a times the root of x, over b, does to c terms; none: FULL -/
def tm_add (c : Nat) (T B R : Nat → Int64) (a b x : Int64) : Option tm_S :=
  if tm_pos c R x < c ∧ R (tm_pos c R x) = x then
    if T (tm_pos c R x) * b + a * B (tm_pos c R x) = 0 then some (c - 1, tm_del (tm_pos c R x) T, tm_del (tm_pos c R x) B, tm_del (tm_pos c R x) R)
    else if (T (tm_pos c R x) * b + a * B (tm_pos c R x)).toInt.natAbs / Nat.gcd (T (tm_pos c R x) * b + a * B (tm_pos c R x)).toInt.natAbs (B (tm_pos c R x) * b).toInt.natAbs ≤ 1000000000 ∧ (B (tm_pos c R x) * b).toInt.natAbs / Nat.gcd (T (tm_pos c R x) * b + a * B (tm_pos c R x)).toInt.natAbs (B (tm_pos c R x) * b).toInt.natAbs ≤ 1000000000
      then some (c, vp_updL T (tm_pos c R x) ((T (tm_pos c R x) * b + a * B (tm_pos c R x)) / jI (Nat.gcd (T (tm_pos c R x) * b + a * B (tm_pos c R x)).toInt.natAbs (B (tm_pos c R x) * b).toInt.natAbs)), vp_updL B (tm_pos c R x) (B (tm_pos c R x) * b / jI (Nat.gcd (T (tm_pos c R x) * b + a * B (tm_pos c R x)).toInt.natAbs (B (tm_pos c R x) * b).toInt.natAbs)), R)
      else none
  else if c = 8 then none else some (c + 1, tm_ins (tm_pos c R x) a T, tm_ins (tm_pos c R x) b B, tm_ins (tm_pos c R x) x R)
/-- numbers of the sizes that terms have -/
def tm_ok (a b : Int64) : Prop := a.toInt.natAbs ≤ 1000000000 ∧ 1 ≤ b.toInt ∧ b.toInt ≤ 1000000000
theorem nat_mul_le {a b m n : Nat} (h1 : a ≤ m) (h2 : b ≤ n) : a * b ≤ m * n := Nat.mul_le_mul h1 h2
theorem int_mul_bd {x y : Int} {m n : Nat} (h1 : x.natAbs ≤ m) (h2 : y.natAbs ≤ n) : (x * y).natAbs ≤ m * n := by rw [Int.natAbs_mul]; exact Nat.mul_le_mul h1 h2
theorem tm_x {T B a b : Int64} (h1 : tm_ok T B) (h2 : tm_ok a b) : (T * b + a * B).toInt = T.toInt * b.toInt + a.toInt * B.toInt ∧ (B * b).toInt = B.toInt * b.toInt ∧ (T * b + a * B).toInt.natAbs ≤ 2000000000000000000 ∧ 1 ≤ (B * b).toInt ∧ (B * b).toInt ≤ 1000000000000000000 := by
  obtain ⟨p1, p2, p3⟩ := h1
  obtain ⟨q1, q2, q3⟩ := h2
  have a1 := int_mul_bd (x := T.toInt) (y := b.toInt) p1 (show b.toInt.natAbs ≤ 1000000000 by omega)
  have a2 := int_mul_bd (x := a.toInt) (y := B.toInt) q1 (show B.toInt.natAbs ≤ 1000000000 by omega)
  have a3 := int_mul_bd (x := B.toInt) (y := b.toInt) (show B.toInt.natAbs ≤ 1000000000 by omega) (show b.toInt.natAbs ≤ 1000000000 by omega)
  have e1 : (T * b).toInt = T.toInt * b.toInt := nj_mul (by omega) (by omega)
  have e2 : (a * B).toInt = a.toInt * B.toInt := nj_mul (by omega) (by omega)
  have e3 : (B * b).toInt = B.toInt * b.toInt := nj_mul (by omega) (by omega)
  have e4 : (T * b + a * B).toInt = T.toInt * b.toInt + a.toInt * B.toInt := by rw [nj_add (by omega) (by omega), e1, e2]
  have e5 : 1 ≤ B.toInt * b.toInt := by
    have := Int.mul_le_mul p2 q2 (by omega) (by omega)
    omega
  exact ⟨e4, e3, by omega, by omega, by omega⟩
theorem tm_abs (x : Int64) (h : x.toInt ≠ -9223372036854775808) : (if 0 < x then x else -x).toInt = x.toInt.natAbs := by
  have h0 : ((0 : Int64) < x) ↔ 0 < x.toInt := nj_lt
  by_cases q : 0 < x.toInt
  · rw [if_pos (h0.mpr q)]; omega
  · rw [if_neg (fun z => q (h0.mp z)), nj_neg h]; omega
/-- a number by a divisor of it -/
theorem tm_by {x : Int64} {g : Nat} (hg : 0 < g) (hl : g < 9223372036854775808) (hx : x.toInt ≠ -9223372036854775808) : (x / jI g).toInt = x.toInt.tdiv g ∧ (x / jI g).toInt.natAbs = x.toInt.natAbs / g := by
  have e0 : (jI g).toInt = g := jI_t (by omega) (by omega)
  have e1 : (x / jI g).toInt = x.toInt.tdiv g := by rw [nj_div (by rw [e0]; omega), e0]
  refine ⟨e1, ?_⟩
  rw [e1, Int.natAbs_tdiv]; rfl
theorem tm_eq_refl {c : Nat} {f : Nat → Int64} : tm_eq c f f := fun _ _ => rfl
theorem tm_cpy_del {k c : Nat} (h : k < c) (f : Nat → Int64) : tm_eq (c - 1) (va_cpy f f (k + 1) k (c - (k + 1))) (tm_del k f) := by
  intro j hj
  unfold va_cpy tm_del
  by_cases q : j < k
  · rw [if_neg (by omega), if_pos q]
  · rw [if_pos (by omega), if_neg q]; congr 1; omega
theorem tm_cpy_ins {k c : Nat} (h : k ≤ c) (f : Nat → Int64) (v : Int64) : tm_eq (c + 1) (vp_updL (va_cpy f f k (k + 1) (c - k)) k v) (tm_ins k v f) := by
  intro j hj
  unfold va_cpy tm_ins vp_updL
  by_cases q : j = k
  · rw [if_pos q, if_neg (by omega), if_pos q]
  · rw [if_neg q]
    by_cases q2 : j < k
    · dsimp only; rw [if_pos q2, if_neg (by omega)]
    · dsimp only; rw [if_neg q2, if_neg q, if_pos (by omega)]; congr 1; omega
theorem tm_sh_del {k c : Nat} (h : k < c) (f : Nat → Int64) : tm_eq (c - 1) (tm_shL k (c - 1) f) (tm_del k f) := by
  intro j hj
  unfold tm_shL tm_del
  by_cases q : j < k
  · rw [if_neg (by omega), if_pos q]
  · rw [if_pos (by omega), if_neg q]
theorem tm_sh_ins {k c : Nat} (h : k ≤ c) (f : Nat → Int64) (v : Int64) : tm_eq (c + 1) (vp_updL (tm_shR k c f) k v) (tm_ins k v f) := by
  intro j hj
  unfold tm_shR tm_ins vp_updL
  by_cases q : j = k
  · rw [if_pos q, if_neg (by omega), if_pos q]
  · rw [if_neg q]
    by_cases q2 : j < k
    · dsimp only; rw [if_pos q2, if_neg (by omega)]
    · dsimp only; rw [if_neg q2, if_neg q, if_pos (by omega)]
/-- an answer of an ADD: the model's, beside tm_add's -/
def tm_says (m : Option (Int32 × Int32 × (Nat → Int64) × (Nat → Int64) × (Nat → Int64))) (s : Option tm_S) : Prop := match s with
  | none => ∃ n T B R, m = some (0, n, T, B, R)
  | some (c, T', B', R') => ∃ T B R, m = some (1, nI c, T, B, R) ∧ tm_eq c T T' ∧ tm_eq c B B' ∧ tm_eq c R R'
theorem mf_addToTerm {F : Nat} (hF : 200 ≤ F) {c k : Nat} (hc : c ≤ 8) (hk : k < c) (q : Int32) (T B R : Nat → Int64) (a b : Int64) (h1 : tm_ok (T k) (B k)) (h2 : tm_ok a b) :
    tm_says (mf_Sum_addToTerm F (nI k) a b q (nI c) T B R)
      (if T k * b + a * B k = 0 then some (c - 1, tm_del k T, tm_del k B, tm_del k R)
       else if (T k * b + a * B k).toInt.natAbs / Nat.gcd (T k * b + a * B k).toInt.natAbs (B k * b).toInt.natAbs ≤ 1000000000 ∧ (B k * b).toInt.natAbs / Nat.gcd (T k * b + a * B k).toInt.natAbs (B k * b).toInt.natAbs ≤ 1000000000
        then some (c, vp_updL T k ((T k * b + a * B k) / jI (Nat.gcd (T k * b + a * B k).toInt.natAbs (B k * b).toInt.natAbs)), vp_updL B k (B k * b / jI (Nat.gcd (T k * b + a * B k).toInt.natAbs (B k * b).toInt.natAbs)), R) else none) := by
  obtain ⟨ex, ey, bx, by1, by2⟩ := tm_x h1 h2
  unfold mf_Sum_addToTerm
  simp only [sd_ixI (show k < 8 by omega) (show k < 2147483648 by omega), sd_g_s, sd_let_s, nI_clamp (show k < 2 ^ 31 by omega)]
  generalize hX : T k * b + a * B k = X at ex bx ⊢
  generalize hY : B k * b = Y at ey by1 by2 ⊢
  have z0 : (X = (0 : Int64)) ↔ X.toInt = 0 := nj_eq
  by_cases hx : X = 0
  · rw [if_pos hx, if_pos hx, nI_1, mf_move (by omega) hc (by omega), sd_b3_s]
    obtain ⟨c', rfl⟩ : ∃ c', c = c' + 1 := ⟨c - 1, by omega⟩
    have e1 : nI (c' + 1) - 1 = nI c' := nI_pred c'
    simp only [e1]
    exact ⟨_, _, _, rfl, tm_cpy_del hk T, tm_cpy_del hk B, tm_cpy_del hk R⟩
  · have xn : X.toInt ≠ 0 := fun z => hx (z0.mpr z)
    rw [if_neg hx, if_neg hx]
    have hg0 : 0 < Nat.gcd X.toInt.natAbs Y.toInt.natAbs := Nat.gcd_pos_of_pos_left _ (by omega)
    have hgl : Nat.gcd X.toInt.natAbs Y.toInt.natAbs ≤ X.toInt.natAbs := Nat.gcd_le_left _ (by omega)
    obtain ⟨v, ev, hv⟩ := mf_commonDivisor' hF X Y (by omega) (by omega)
    rw [ev, sd_b1_s]
    have ev2 := jI_eq hv
    generalize Nat.gcd X.toInt.natAbs Y.toInt.natAbs = g at hg0 hgl hv ev2 ⊢
    obtain ⟨d1, d2⟩ := tm_by (x := X) hg0 (by omega) (by omega)
    obtain ⟨d3, d4⟩ := tm_by (x := Y) hg0 (by omega) (by omega)
    have d5 : 0 ≤ (Y / jI g).toInt := by rw [d3]; exact Int.tdiv_nonneg (by omega) (by omega)
    have dl : X.toInt.natAbs / g ≤ X.toInt.natAbs := Nat.div_le_self _ _
    have hz : sd_zJ (jI g) = true := sd_zJt (by rw [← ev2]; omega)
    simp only [ev2, hz, sd_g_s, mf_tooGreat, sd_b1_s, tm_abs (X / jI g) (by omega), d2]
    generalize hXg : X / jI g = Xg at *
    generalize hYg : Y / jI g = Yg at *
    by_cases t1 : X.toInt.natAbs / g ≤ 1000000000
    · have r1 : (if ((X.toInt.natAbs / g : Nat) : Int) < 0 ∨ 1000000000 < ((X.toInt.natAbs / g : Nat) : Int) then (1 : Int32) else 0) = 0 := if_neg (by omega)
      rw [r1, if_pos rfl]
      by_cases t2 : Y.toInt.natAbs / g ≤ 1000000000
      · have r2 : (if Yg.toInt < 0 ∨ 1000000000 < Yg.toInt then (1 : Int32) else 0) = 0 := if_neg (by omega)
        rw [r2, if_pos rfl, if_pos ⟨t1, t2⟩, mf_put (by omega), sd_b3_s]
        refine ⟨_, _, _, rfl, tm_eq_refl, tm_eq_refl, fun j _ => ?_⟩
        unfold vp_updL
        by_cases q : j = k
        · subst q; rw [if_pos rfl]
        · rw [if_neg q]
      · have r2 : (if Yg.toInt < 0 ∨ 1000000000 < Yg.toInt then (1 : Int32) else 0) = 1 := if_pos (by omega)
        rw [r2, if_neg (by decide), if_neg (fun z => t2 z.2)]
        exact ⟨_, _, _, _, rfl⟩
    · have r1 : (if ((X.toInt.natAbs / g : Nat) : Int) < 0 ∨ 1000000000 < ((X.toInt.natAbs / g : Nat) : Int) then (1 : Int32) else 0) = 1 := if_pos (by omega)
      rw [r1, if_neg (by decide), if_neg (fun z => t1 z.1)]
      exact ⟨_, _, _, _, rfl⟩
