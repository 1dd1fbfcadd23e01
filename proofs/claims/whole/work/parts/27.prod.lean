/-- a product in lowest terms; none: FULL -/
def tm_mul (a c r b d q : Int64) : Option (Int64 × Int64 × Int64) :=
  if 1000000000 < ((a / tm_g a d) * (b / tm_g b c)).toInt.natAbs ∨ 1000000000 < ((c / tm_g b c / tm_g (tm_g r q) (c / tm_g b c)) * (d / tm_g a d / tm_g (tm_g r q / tm_g (tm_g r q) (c / tm_g b c)) (d / tm_g a d))).toInt ∨ 1000000000 < ((r / tm_g r q) * (q / tm_g r q)).toInt then none
  else if 1000000000 < ((a / tm_g a d) * (b / tm_g b c) * (tm_g r q / tm_g (tm_g r q) (c / tm_g b c) / tm_g (tm_g r q / tm_g (tm_g r q) (c / tm_g b c)) (d / tm_g a d))).toInt.natAbs then none
  else some ((a / tm_g a d) * (b / tm_g b c) * (tm_g r q / tm_g (tm_g r q) (c / tm_g b c) / tm_g (tm_g r q / tm_g (tm_g r q) (c / tm_g b c)) (d / tm_g a d)), (c / tm_g b c / tm_g (tm_g r q) (c / tm_g b c)) * (d / tm_g a d / tm_g (tm_g r q / tm_g (tm_g r q) (c / tm_g b c)) (d / tm_g a d)), (r / tm_g r q) * (q / tm_g r q))
/-- the numbers of a product, as the programs reckon them -/
theorem tm_mulT {a c r b d q : Int64} (h1 : tm_okT a c r) (h2 : tm_okT b d q) :
    (((a / tm_g a d) * (b / tm_g b c)).toInt.natAbs ≤ 1000000000000000000) ∧ (1 ≤ ((c / tm_g b c / tm_g (tm_g r q) (c / tm_g b c)) * (d / tm_g a d / tm_g (tm_g r q / tm_g (tm_g r q) (c / tm_g b c)) (d / tm_g a d))).toInt ∧ ((c / tm_g b c / tm_g (tm_g r q) (c / tm_g b c)) * (d / tm_g a d / tm_g (tm_g r q / tm_g (tm_g r q) (c / tm_g b c)) (d / tm_g a d))).toInt ≤ 1000000000000000000) ∧ (1 ≤ ((r / tm_g r q) * (q / tm_g r q)).toInt ∧ ((r / tm_g r q) * (q / tm_g r q)).toInt ≤ 1000000000000000000) ∧
    (((a / tm_g a d) * (b / tm_g b c)).toInt.natAbs ≤ 1000000000 → ((a / tm_g a d) * (b / tm_g b c) * (tm_g r q / tm_g (tm_g r q) (c / tm_g b c) / tm_g (tm_g r q / tm_g (tm_g r q) (c / tm_g b c)) (d / tm_g a d))).toInt.natAbs ≤ 1000000000000000000 ∧ ((a / tm_g a d) * (b / tm_g b c) * (tm_g r q / tm_g (tm_g r q) (c / tm_g b c) / tm_g (tm_g r q / tm_g (tm_g r q) (c / tm_g b c)) (d / tm_g a d))).toInt ≠ 0 ∧ Nat.Coprime ((a / tm_g a d) * (b / tm_g b c) * (tm_g r q / tm_g (tm_g r q) (c / tm_g b c) / tm_g (tm_g r q / tm_g (tm_g r q) (c / tm_g b c)) (d / tm_g a d))).toInt.natAbs ((c / tm_g b c / tm_g (tm_g r q) (c / tm_g b c)) * (d / tm_g a d / tm_g (tm_g r q / tm_g (tm_g r q) (c / tm_g b c)) (d / tm_g a d))).toInt.natAbs) := by
  obtain ⟨G, ad, bc, c1, d1, gc, g1, gd, eG, G1, G2, eA, A1, eB, B1, ea, an, au, eb, bn, bu, ec, cl, cu, ed, dl, du, eC, C1, C2, eg, gl, gu, eD, D1, D2, eg2, g2l, g2u, ec2, c2l, c2u, ed2, d2l, d2u, rl, ru, ql, qu, cop⟩ := tm_mulN h1 h2
  generalize a / tm_g a d = av at *
  generalize b / tm_g b c = bv at *
  generalize c / tm_g b c / tm_g (tm_g r q) (c / tm_g b c) = cv at *
  generalize d / tm_g a d / tm_g (tm_g r q / tm_g (tm_g r q) (c / tm_g b c)) (d / tm_g a d) = dv at *
  generalize tm_g r q / tm_g (tm_g r q) (c / tm_g b c) / tm_g (tm_g r q / tm_g (tm_g r q) (c / tm_g b c)) (d / tm_g a d) = gv at *
  generalize r / tm_g r q = rv at *
  generalize q / tm_g r q = qv at *
  have m1 := int_mul_bd (x := av.toInt) (y := bv.toInt) au bu
  have t1 : (av * bv).toInt = av.toInt * bv.toInt := nj_mul (by omega) (by omega)
  have m2 := int_mul_bd (x := cv.toInt) (y := dv.toInt) (m := 1000000000) (n := 1000000000) (by omega) (by omega)
  have t2 : (cv * dv).toInt = cv.toInt * dv.toInt := nj_mul (by omega) (by omega)
  have m3 := int_mul_bd (x := rv.toInt) (y := qv.toInt) (m := 1000000000) (n := 1000000000) (by omega) (by omega)
  have t3 : (rv * qv).toInt = rv.toInt * qv.toInt := nj_mul (by omega) (by omega)
  have l2 := Int.mul_le_mul (a := 1) (c := cv.toInt) (b := 1) (d := dv.toInt) (by omega) (by omega) (by omega) (by omega)
  have l3 := Int.mul_le_mul (a := 1) (c := rv.toInt) (b := 1) (d := qv.toInt) (by omega) (by omega) (by omega) (by omega)
  refine ⟨by omega, ⟨by omega, by omega⟩, ⟨by omega, by omega⟩, fun hs => ?_⟩
  have m4 := int_mul_bd (x := (av * bv).toInt) (y := gv.toInt) (m := 1000000000) (n := 1000000000) hs (by omega)
  have t4 : (av * bv * gv).toInt = (av * bv).toInt * gv.toInt := nj_mul (by omega) (by omega)
  have n4 : (av * bv * gv).toInt.natAbs = a.toInt.natAbs / ad * (b.toInt.natAbs / bc) * (g1 / gd) := by
    rw [t4, Int.natAbs_mul, t1, Int.natAbs_mul, ea, eb, eg2]; rfl
  have n2 : (cv * dv).toInt.natAbs = c1 / gc * (d1 / gd) := by
    rw [t2, Int.natAbs_mul, ec2, ed2]; rfl
  refine ⟨by omega, fun z => ?_, by rw [n4, n2]; exact cop⟩
  rw [t4, t1] at z
  have := Int.mul_eq_zero.mp z
  rcases this with w | w
  · rcases Int.mul_eq_zero.mp w with w | w <;> omega
  · omega
theorem tm_mul_ok {a c r b d q t u v : Int64} (h1 : tm_okT a c r) (h2 : tm_okT b d q) (e : tm_mul a c r b d q = some (t, u, v)) : tm_okT t u v := by
  obtain ⟨m1, ⟨m2, m3⟩, ⟨m4, m5⟩, m6⟩ := tm_mulT h1 h2
  unfold tm_mul at e
  split at e
  · cases e
  · rename_i c1
    split at e
    · cases e
    · rename_i c2
      obtain ⟨n1, n2, n3⟩ := m6 (by omega)
      cases e
      exact ⟨⟨by omega, by omega, by omega⟩, n2, n3, by omega, by omega⟩
def tm_addP (k : Nat) (T B R : Nat → Int64) (a c r b d q : Int64) : Option tm_S := match tm_mul a c r b d q with
  | none => none
  | some (t, u, v) => tm_add k T B R t u v
theorem tm_says_b5' {m : Option (Int32 × Int32 × (Nat → Int64) × (Nat → Int64) × (Nat → Int64))} {s : Option tm_S} (h : tm_says m s) : tm_says (sd_b5 (sd_b5 m fun r n T B R => if r = 0 then some (0, n, T, B, R) else some (1, n, T, B, R)) fun r n T B R => sd_g (sd_b01 r) (some (r, n, T, B, R))) s := by
  match s, h with
  | none, h =>
    obtain ⟨n, T, B, R, e⟩ := h
    exact ⟨n, T, B, R, by rw [e]; rfl⟩
  | some (c, T', B', R'), h =>
    obtain ⟨T, B, R, e, h1, h2, h3⟩ := h
    exact ⟨T, B, R, by rw [e]; rfl, h1, h2, h3⟩
theorem mf_addProduct {F : Nat} (hF : 200 ≤ F) {c i j : Nat} (hc : c ≤ 8) (hi : i < 8) (hj : j < 8) (dk xk xn yk yn : Int32) (T B R xT xB xR yT yB yR : Nat → Int64) (h1 : tm_okT (xT i) (xB i) (xR i)) (h2 : tm_okT (yT j) (yB j) (yR j)) (hT : ∀ j, j < c → tm_ok (T j) (B j)) :
    tm_says (mf_Sum_addProduct F (nI i) (nI j) dk (nI c) T B R xk xn xT xB xR yk yn yT yB yR) (tm_addP c T B R (xT i) (xB i) (xR i) (yT j) (yB j) (yR j)) := by
  unfold mf_Sum_addProduct
  simp only [sd_ixI hi (show i < 2147483648 by omega), sd_ixI hj (show j < 2147483648 by omega), nI_clamp (show i < 2 ^ 31 by omega), nI_clamp (show j < 2 ^ 31 by omega), sd_g_s, sd_let_s]
  generalize xT i = a at *
  generalize xB i = k at *
  generalize xR i = r at *
  generalize yT j = b at *
  generalize yB j = d at *
  generalize yR j = q at *
  have hok := fun t u v => tm_mul_ok (t := t) (u := u) (v := v) h1 h2
  obtain ⟨m1, ⟨m2, m3⟩, ⟨m4, m5⟩, m6⟩ := tm_mulT h1 h2
  obtain ⟨G, ad, bc, c1, d1, gc, g1, gd, eG, G1, G2, eA, A1, eB, B1, ea, an, au, eb, bn, bu, ec, cl, cu, ed, dl, du, eC, C1, C2, eg, gl, gu, eD, D1, D2, eg2, g2l, g2u, ec2, c2l, c2u, ed2, d2l, d2u, rl, ru, ql, qu, cop⟩ := tm_mulN h1 h2
  obtain ⟨⟨p1, p2, p3⟩, p4, p5, p6, p7⟩ := h1
  obtain ⟨⟨q1, q2, q3⟩, q4, q5, q6, q7⟩ := h2
  have lg : ∀ x y : Int64, x.toInt ≠ 0 → x.toInt.natAbs ≤ 1000000000 → Nat.gcd x.toInt.natAbs y.toInt.natAbs < 9223372036854775808 := fun x y n1 n2 => by
    have := Nat.gcd_le_left (m := x.toInt.natAbs) y.toInt.natAbs (by omega); omega
  have f1 := mf_g hF r q (Or.inl (by omega)) (lg r q (by omega) (by omega))
  have f2 := mf_g hF a d (Or.inl p4) (lg a d p4 p1)
  have f3 := mf_g hF b k (Or.inl q4) (lg b k q4 q1)
  have f4 := mf_g hF (tm_g r q) (k / tm_g b k) (Or.inl (by omega)) (lg _ _ (by omega) (by omega))
  have f5 := mf_g hF (tm_g r q / tm_g (tm_g r q) (k / tm_g b k)) (d / tm_g a d) (Or.inl (by omega)) (lg _ _ (by omega) (by omega))
  simp only [f1, f2, f3, f4, f5, sd_b1_s, sd_zJt (show (tm_g r q).toInt ≠ 0 by omega), sd_zJt (show (tm_g a d).toInt ≠ 0 by omega), sd_zJt (show (tm_g b k).toInt ≠ 0 by omega), sd_zJt (show (tm_g (tm_g r q) (k / tm_g b k)).toInt ≠ 0 by omega), sd_zJt (show (tm_g (tm_g r q / tm_g (tm_g r q) (k / tm_g b k)) (d / tm_g a d)).toInt ≠ 0 by omega), sd_g_s, mf_tooGreat]
  unfold tm_addP
  unfold tm_mul at hok ⊢
  generalize (a / tm_g a d) * (b / tm_g b k) = top at *
  generalize (k / tm_g b k / tm_g (tm_g r q) (k / tm_g b k)) * (d / tm_g a d / tm_g (tm_g r q / tm_g (tm_g r q) (k / tm_g b k)) (d / tm_g a d)) = bot at *
  generalize (r / tm_g r q) * (q / tm_g r q) = rad at *
  generalize tm_g r q / tm_g (tm_g r q) (k / tm_g b k) / tm_g (tm_g r q / tm_g (tm_g r q) (k / tm_g b k)) (d / tm_g a d) = g2 at *
  rw [tm_abs top (by omega)]
  by_cases t1 : 1000000000 < top.toInt.natAbs
  · rw [if_pos (show ((top.toInt.natAbs : Int) < 0 ∨ 1000000000 < (top.toInt.natAbs : Int)) by omega), if_neg (by decide), if_pos (Or.inl t1)]
    exact ⟨_, _, _, _, rfl⟩
  · rw [if_neg (show ¬ ((top.toInt.natAbs : Int) < 0 ∨ 1000000000 < (top.toInt.natAbs : Int)) by omega), if_pos rfl]
    by_cases t2 : 1000000000 < bot.toInt
    · rw [if_pos (show (bot.toInt < 0 ∨ 1000000000 < bot.toInt) by omega), if_neg (by decide), if_pos (Or.inr (Or.inl t2))]
      exact ⟨_, _, _, _, rfl⟩
    · rw [if_neg (show ¬ (bot.toInt < 0 ∨ 1000000000 < bot.toInt) by omega), if_pos rfl]
      by_cases t3 : 1000000000 < rad.toInt
      · rw [if_pos (show (rad.toInt < 0 ∨ 1000000000 < rad.toInt) by omega), if_neg (by decide), if_pos (Or.inr (Or.inr t3))]
        exact ⟨_, _, _, _, rfl⟩
      · have hn : ¬ (1000000000 < top.toInt.natAbs ∨ 1000000000 < bot.toInt ∨ 1000000000 < rad.toInt) := by omega
        obtain ⟨n1, n2, n3⟩ := m6 (by omega)
        rw [if_neg (show ¬ (rad.toInt < 0 ∨ 1000000000 < rad.toInt) by omega), if_pos rfl, if_neg hn, tm_abs (top * g2) (by omega)]
        by_cases t4 : 1000000000 < (top * g2).toInt.natAbs
        · rw [if_pos (show (((top * g2).toInt.natAbs : Int) < 0 ∨ 1000000000 < ((top * g2).toInt.natAbs : Int)) by omega), if_neg (by decide), if_pos t4]
          exact ⟨_, _, _, _, rfl⟩
        · rw [if_neg (show ¬ (((top * g2).toInt.natAbs : Int) < 0 ∨ 1000000000 < ((top * g2).toInt.natAbs : Int)) by omega), if_pos rfl, if_neg t4]
          exact tm_says_b5' (mf_add hF hc dk T B R _ _ _ hT ⟨by omega, by omega, by omega⟩)
