theorem mm_mul {F : Nat} (hF : 18446744073709551616 ≤ F) {c t : Nat} (hc : c ≤ 8) (ht : t < 64) (o1 o2 o3 : Int32) (T B R cn cd cr : Nat → Int64) (b d q : Int64) (h1 : tm_okT (cn t) (cd t) (cr t)) (h2 : tm_okT b d q) (hT : ∀ j, j < c → tm_ok (T j) (B j)) :
    tm_says (mf_Model_multiplyTerm F (nI t) b d q (nI c) o1 o2 o3 cn cd cr T B R) (tm_addP c T B R (cn t) (cd t) (cr t) b d q) := by
  unfold mf_Model_multiplyTerm
  simp only [sd_ixI ht (show t < 2147483648 by omega), nI_clamp (show t < 2 ^ 31 by omega), sd_g_s, sd_let_s]
  generalize cn t = a at *
  generalize cd t = k at *
  generalize cr t = r at *
  have hok := fun t u v => tm_mul_ok (t := t) (u := u) (v := v) h1 h2
  obtain ⟨m1, ⟨m2, m3⟩, ⟨m4, m5⟩, m6⟩ := tm_mulT h1 h2
  obtain ⟨G, ad, bc, c1, d1, gc, g1, gd, eG, G1, G2, eA, A1, eB, B1, ea, an, au, eb, bn, bu, ec, cl, cu, ed, dl, du, eC, C1, C2, eg, gl, gu, eD, D1, D2, eg2, g2l, g2u, ec2, c2l, c2u, ed2, d2l, d2u, rl, ru, ql, qu, cop⟩ := tm_mulN h1 h2
  obtain ⟨⟨p1, p2, p3⟩, p4, p5, p6, p7⟩ := h1
  obtain ⟨⟨q1, q2, q3⟩, q4, q5, q6, q7⟩ := h2
  have lg : ∀ x y : Int64, x.toInt ≠ 0 → x.toInt.natAbs ≤ 1000000000 → Nat.gcd x.toInt.natAbs y.toInt.natAbs < 9223372036854775808 := fun x y n1 n2 => by
    have := Nat.gcd_le_left (m := x.toInt.natAbs) y.toInt.natAbs (by omega); omega
  have f1 := mm_g hF r q (lg r q (by omega) (by omega))
  have f2 := mm_g hF a d (lg a d p4 p1)
  have f3 := mm_g hF b k (lg b k q4 q1)
  have f4 := mm_g hF (tm_g r q) (k / tm_g b k) (lg _ _ (by omega) (by omega))
  have f5 := mm_g hF (tm_g r q / tm_g (tm_g r q) (k / tm_g b k)) (d / tm_g a d) (lg _ _ (by omega) (by omega))
  simp only [f1, f2, f3, f4, f5, sd_b1_s, sd_zJt (show (tm_g r q).toInt ≠ 0 by omega), sd_zJt (show (tm_g a d).toInt ≠ 0 by omega), sd_zJt (show (tm_g b k).toInt ≠ 0 by omega), sd_zJt (show (tm_g (tm_g r q) (k / tm_g b k)).toInt ≠ 0 by omega), sd_zJt (show (tm_g (tm_g r q / tm_g (tm_g r q) (k / tm_g b k)) (d / tm_g a d)).toInt ≠ 0 by omega), sd_g_s]
  unfold tm_addP
  unfold tm_mul at hok ⊢
  generalize (a / tm_g a d) * (b / tm_g b k) = top at *
  generalize (k / tm_g b k / tm_g (tm_g r q) (k / tm_g b k)) * (d / tm_g a d / tm_g (tm_g r q / tm_g (tm_g r q) (k / tm_g b k)) (d / tm_g a d)) = bot at *
  generalize (r / tm_g r q) * (q / tm_g r q) = rad at *
  generalize tm_g r q / tm_g (tm_g r q) (k / tm_g b k) / tm_g (tm_g r q / tm_g (tm_g r q) (k / tm_g b k)) (d / tm_g a d) = g2 at *
  have w1 : ((1000000000 : Int64) < top) ↔ 1000000000 < top.toInt := nj_lt
  have w2 : (top < (-1000000000 : Int64)) ↔ top.toInt < -1000000000 := nj_lt
  have w3 : ((1000000000 : Int64) < bot) ↔ 1000000000 < bot.toInt := nj_lt
  have w4 : (rad ≤ (1000000000 : Int64)) ↔ rad.toInt ≤ 1000000000 := nj_le
  have w5 : ((1000000000 : Int64) < top * g2) ↔ 1000000000 < (top * g2).toInt := nj_lt
  have w6 : (top * g2 < (-1000000000 : Int64)) ↔ (top * g2).toInt < -1000000000 := nj_lt
  by_cases t1 : 1000000000 < top.toInt
  · rw [if_pos (w1.mpr t1), if_pos (by omega)]
    exact ⟨_, _, _, _, rfl⟩
  · rw [if_neg (fun z => t1 (w1.mp z))]
    by_cases t2 : top.toInt < -1000000000
    · rw [if_pos (w2.mpr t2), if_pos (by omega)]
      exact ⟨_, _, _, _, rfl⟩
    · rw [if_neg (fun z => t2 (w2.mp z))]
      by_cases t3 : 1000000000 < bot.toInt
      · rw [if_pos (w3.mpr t3), if_pos (by omega)]
        exact ⟨_, _, _, _, rfl⟩
      · rw [if_neg (fun z => t3 (w3.mp z))]
        by_cases t4 : rad.toInt ≤ 1000000000
        · obtain ⟨n1, n2, n3⟩ := m6 (by omega)
          rw [if_pos (w4.mpr t4), if_neg (show ¬ (1000000000 < top.toInt.natAbs ∨ 1000000000 < bot.toInt ∨ 1000000000 < rad.toInt) by omega)]
          by_cases t5 : 1000000000 < (top * g2).toInt
          · rw [if_pos (w5.mpr t5), if_pos (by omega)]
            exact ⟨_, _, _, _, rfl⟩
          · rw [if_neg (fun z => t5 (w5.mp z))]
            by_cases t6 : (top * g2).toInt < -1000000000
            · rw [if_pos (w6.mpr t6), if_pos (by omega)]
              exact ⟨_, _, _, _, rfl⟩
            · rw [if_neg (fun z => t6 (w6.mp z)), if_neg (show ¬ (1000000000 < (top * g2).toInt.natAbs) by omega)]
              exact tm_says_b5' (mm_add hF hc o1 o2 o3 T B R _ _ _ hT ⟨by omega, by omega, by omega⟩ n2 n3)
        · rw [if_neg (fun z => t4 (w4.mp z)), if_pos (by omega)]
          exact ⟨_, _, _, _, rfl⟩
theorem tm_addP_ok {c : Nat} {T B R : Nat → Int64} {a k r b d q : Int64} (h : tm_okS c T B R) (h1 : tm_okT a k r) (h2 : tm_okT b d q) {c' : Nat} {T' B' R' : Nat → Int64} (e : tm_addP c T B R a k r b d q = some (c', T', B', R')) : tm_okS c' T' B' R' := by
  unfold tm_addP at e
  split at e
  · cases e
  · rename_i t u v hm
    exact tm_add_ok h (tm_mul_ok h1 h2 hm) e
theorem tm_addP_eq {c : Nat} {T B R T' B' R' : Nat → Int64} (h1 : tm_eq c T T') (h2 : tm_eq c B B') (h3 : tm_eq c R R') (a k r b d q : Int64) : tm_eqS (tm_addP c T B R a k r b d q) (tm_addP c T' B' R' a k r b d q) := by
  unfold tm_addP
  split
  · exact trivial
  · exact tm_add_eq h1 h2 h3 _ _ _
