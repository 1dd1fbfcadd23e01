/-! products of two terms: class and reference -/
def tm_g (x y : Int64) : Int64 := jI (Nat.gcd x.toInt.natAbs y.toInt.natAbs)
/-- a quotient by a divisor of both: its number -/
theorem tm_gt {x y : Int64} (h : Nat.gcd x.toInt.natAbs y.toInt.natAbs < 9223372036854775808) : (tm_g x y).toInt = (Nat.gcd x.toInt.natAbs y.toInt.natAbs : Int) := jI_t (by omega) (by omega)
theorem mf_g {F : Nat} (hF : 200 ≤ F) (x y : Int64) (h0 : x.toInt ≠ 0 ∨ y.toInt ≠ 0) (h1 : Nat.gcd x.toInt.natAbs y.toInt.natAbs < 9223372036854775808) : mf_Whole_commonDivisor F x y = some (tm_g x y) := by
  obtain ⟨v, e, h⟩ := mf_commonDivisor' hF x y (fun z => by have := Nat.gcd_eq_zero_iff.mp z; omega) h1
  rw [e]; exact congrArg some (jI_eq h)
theorem mm_g {F : Nat} (hF : 18446744073709551616 ≤ F) (x y : Int64) (h1 : Nat.gcd x.toInt.natAbs y.toInt.natAbs < 9223372036854775808) : mf_Model_divisor F x y = some (tm_g x y) := by
  obtain ⟨v, e, h⟩ := mm_divisor hF x y h1
  rw [e]; exact congrArg some (jI_eq h)
/-- positive numbers, and a divisor of them -/
theorem tm_q {x : Int64} {g n : Nat} {G : Int64} (hG : G.toInt = g) (hg : 1 ≤ g) (hx : x.toInt = n) (hn : n < 9223372036854775808) : (x / G).toInt = (n / g : Nat) := by
  rw [nj_div (by omega), hG, hx]
  exact (Int.ofNat_tdiv n g).symm
/-- all the numbers of a product -/
theorem tm_mulN {a c r b d q : Int64} (h1 : tm_okT a c r) (h2 : tm_okT b d q) :
    ∃ (G ad bc c1 d1 gc g1 gd : Nat), (tm_g r q).toInt = G ∧ 1 ≤ G ∧ G ≤ 1000000000 ∧ (tm_g a d).toInt = ad ∧ 1 ≤ ad ∧ (tm_g b c).toInt = bc ∧ 1 ≤ bc ∧ (a / tm_g a d).toInt.natAbs = a.toInt.natAbs / ad ∧ (a / tm_g a d).toInt ≠ 0 ∧ (a / tm_g a d).toInt.natAbs ≤ 1000000000 ∧ (b / tm_g b c).toInt.natAbs = b.toInt.natAbs / bc ∧ (b / tm_g b c).toInt ≠ 0 ∧ (b / tm_g b c).toInt.natAbs ≤ 1000000000 ∧ (c / tm_g b c).toInt = c1 ∧ 1 ≤ c1 ∧ c1 ≤ 1000000000 ∧ (d / tm_g a d).toInt = d1 ∧ 1 ≤ d1 ∧ d1 ≤ 1000000000 ∧ (tm_g (tm_g r q) (c / tm_g b c)).toInt = gc ∧ 1 ≤ gc ∧ gc ≤ 1000000000 ∧ (tm_g r q / tm_g (tm_g r q) (c / tm_g b c)).toInt = g1 ∧ 1 ≤ g1 ∧ g1 ≤ 1000000000 ∧ (tm_g (tm_g r q / tm_g (tm_g r q) (c / tm_g b c)) (d / tm_g a d)).toInt = gd ∧ 1 ≤ gd ∧ gd ≤ 1000000000 ∧ (tm_g r q / tm_g (tm_g r q) (c / tm_g b c) / tm_g (tm_g r q / tm_g (tm_g r q) (c / tm_g b c)) (d / tm_g a d)).toInt = (g1 / gd : Nat) ∧ 1 ≤ g1 / gd ∧ g1 / gd ≤ 1000000000 ∧ (c / tm_g b c / tm_g (tm_g r q) (c / tm_g b c)).toInt = (c1 / gc : Nat) ∧ 1 ≤ c1 / gc ∧ c1 / gc ≤ 1000000000 ∧ (d / tm_g a d / tm_g (tm_g r q / tm_g (tm_g r q) (c / tm_g b c)) (d / tm_g a d)).toInt = (d1 / gd : Nat) ∧ 1 ≤ d1 / gd ∧ d1 / gd ≤ 1000000000 ∧ 1 ≤ (r / tm_g r q).toInt ∧ (r / tm_g r q).toInt ≤ 1000000000 ∧ 1 ≤ (q / tm_g r q).toInt ∧ (q / tm_g r q).toInt ≤ 1000000000
      ∧ Nat.Coprime (a.toInt.natAbs / ad * (b.toInt.natAbs / bc) * (g1 / gd)) (c1 / gc * (d1 / gd)) := by
  obtain ⟨⟨p1, p2, p3⟩, p4, p5, p6, p7⟩ := h1
  obtain ⟨⟨q1, q2, q3⟩, q4, q5, q6, q7⟩ := h2
  have G0 : 0 < Nat.gcd r.toInt.natAbs q.toInt.natAbs := Nat.gcd_pos_of_pos_left _ (by omega)
  have G1 : Nat.gcd r.toInt.natAbs q.toInt.natAbs ≤ r.toInt.natAbs := Nat.gcd_le_left _ (by omega)
  have G2 : Nat.gcd r.toInt.natAbs q.toInt.natAbs ≤ q.toInt.natAbs := Nat.gcd_le_right _ (by omega)
  have A0 : 0 < Nat.gcd a.toInt.natAbs d.toInt.natAbs := Nat.gcd_pos_of_pos_left _ (by omega)
  have A1 : Nat.gcd a.toInt.natAbs d.toInt.natAbs ≤ a.toInt.natAbs := Nat.gcd_le_left _ (by omega)
  have A2 : Nat.gcd a.toInt.natAbs d.toInt.natAbs ≤ d.toInt.natAbs := Nat.gcd_le_right _ (by omega)
  have B0 : 0 < Nat.gcd b.toInt.natAbs c.toInt.natAbs := Nat.gcd_pos_of_pos_left _ (by omega)
  have B1 : Nat.gcd b.toInt.natAbs c.toInt.natAbs ≤ b.toInt.natAbs := Nat.gcd_le_left _ (by omega)
  have B2 : Nat.gcd b.toInt.natAbs c.toInt.natAbs ≤ c.toInt.natAbs := Nat.gcd_le_right _ (by omega)
  have eG := tm_gt (x := r) (y := q) (by omega)
  have eA := tm_gt (x := a) (y := d) (by omega)
  have eB := tm_gt (x := b) (y := c) (by omega)
  have cA : Nat.Coprime (a.toInt.natAbs / Nat.gcd a.toInt.natAbs d.toInt.natAbs) (d.toInt.natAbs / Nat.gcd a.toInt.natAbs d.toInt.natAbs) := Nat.coprime_div_gcd_div_gcd A0
  have cB : Nat.Coprime (b.toInt.natAbs / Nat.gcd b.toInt.natAbs c.toInt.natAbs) (c.toInt.natAbs / Nat.gcd b.toInt.natAbs c.toInt.natAbs) := Nat.coprime_div_gcd_div_gcd B0
  have vA : Nat.gcd a.toInt.natAbs d.toInt.natAbs ∣ a.toInt.natAbs := Nat.gcd_dvd_left _ _
  have vA2 : Nat.gcd a.toInt.natAbs d.toInt.natAbs ∣ d.toInt.natAbs := Nat.gcd_dvd_right _ _
  have vB : Nat.gcd b.toInt.natAbs c.toInt.natAbs ∣ b.toInt.natAbs := Nat.gcd_dvd_left _ _
  have vB2 : Nat.gcd b.toInt.natAbs c.toInt.natAbs ∣ c.toInt.natAbs := Nat.gcd_dvd_right _ _
  have x1 : Nat.Coprime a.toInt.natAbs c.toInt.natAbs := p5
  have x2 : Nat.Coprime b.toInt.natAbs d.toInt.natAbs := q5
  generalize hG : Nat.gcd r.toInt.natAbs q.toInt.natAbs = G at *
  generalize hA : Nat.gcd a.toInt.natAbs d.toInt.natAbs = ad at *
  generalize hB : Nat.gcd b.toInt.natAbs c.toInt.natAbs = bc at *
  have ea1 : (a / tm_g a d).toInt.natAbs = a.toInt.natAbs / ad := by rw [nj_div (by omega), eA, Int.natAbs_tdiv]; rfl
  have eb1 : (b / tm_g b c).toInt.natAbs = b.toInt.natAbs / bc := by rw [nj_div (by omega), eB, Int.natAbs_tdiv]; rfl
  have la1 : 1 ≤ a.toInt.natAbs / ad := (Nat.one_le_div_iff A0).mpr A1
  have lb1 : 1 ≤ b.toInt.natAbs / bc := (Nat.one_le_div_iff B0).mpr B1
  have ua1 : a.toInt.natAbs / ad ≤ a.toInt.natAbs := Nat.div_le_self _ _
  have ub1 : b.toInt.natAbs / bc ≤ b.toInt.natAbs := Nat.div_le_self _ _
  have ec1 := tm_q (x := c) (n := c.toInt.natAbs) eB B0 (by omega) (by omega)
  have ed1 := tm_q (x := d) (n := d.toInt.natAbs) eA A0 (by omega) (by omega)
  have lc1 : 1 ≤ c.toInt.natAbs / bc := (Nat.one_le_div_iff B0).mpr B2
  have ld1 : 1 ≤ d.toInt.natAbs / ad := (Nat.one_le_div_iff A0).mpr A2
  have uc1 : c.toInt.natAbs / bc ≤ c.toInt.natAbs := Nat.div_le_self _ _
  have ud1 : d.toInt.natAbs / ad ≤ d.toInt.natAbs := Nat.div_le_self _ _
  have er1 := tm_q (x := r) (n := r.toInt.natAbs) eG G0 (by omega) (by omega)
  have eq1 := tm_q (x := q) (n := q.toInt.natAbs) eG G0 (by omega) (by omega)
  have lr1 : 1 ≤ r.toInt.natAbs / G := (Nat.one_le_div_iff G0).mpr G1
  have lq1 : 1 ≤ q.toInt.natAbs / G := (Nat.one_le_div_iff G0).mpr G2
  have ur1 : r.toInt.natAbs / G ≤ r.toInt.natAbs := Nat.div_le_self _ _
  have uq1 : q.toInt.natAbs / G ≤ q.toInt.natAbs := Nat.div_le_self _ _
  -- coprime: a1 b1 against c1 d1
  have k1 : Nat.Coprime (a.toInt.natAbs / ad) (c.toInt.natAbs / bc) := (x1.coprime_div_left vA).coprime_div_right vB2
  have k2 : Nat.Coprime (b.toInt.natAbs / bc) (d.toInt.natAbs / ad) := (x2.coprime_div_left vB).coprime_div_right vA2
  generalize hc1 : c.toInt.natAbs / bc = c1 at *
  generalize hd1 : d.toInt.natAbs / ad = d1 at *
  have C0 : 0 < Nat.gcd G c1 := Nat.gcd_pos_of_pos_left _ G0
  have C1 : Nat.gcd G c1 ≤ G := Nat.gcd_le_left _ G0
  have C2 : Nat.gcd G c1 ≤ c1 := Nat.gcd_le_right _ (by omega)
  have nG : (tm_g r q).toInt.natAbs = G := by omega
  have nc1 : (c / tm_g b c).toInt.natAbs = c1 := by omega
  have eC : (tm_g (tm_g r q) (c / tm_g b c)).toInt = (Nat.gcd G c1 : Nat) := by rw [tm_gt (by rw [nG, nc1]; omega), nG, nc1]
  have cC : Nat.Coprime (G / Nat.gcd G c1) (c1 / Nat.gcd G c1) := Nat.coprime_div_gcd_div_gcd C0
  have vC2 : Nat.gcd G c1 ∣ c1 := Nat.gcd_dvd_right _ _
  generalize hC : Nat.gcd G c1 = gc at *
  have eg1 := tm_q (x := tm_g r q) (n := G) eC C0 eG (by omega)
  have lg1 : 1 ≤ G / gc := (Nat.one_le_div_iff C0).mpr C1
  have ug1 : G / gc ≤ G := Nat.div_le_self _ _
  generalize hg1 : G / gc = g1 at *
  have D0 : 0 < Nat.gcd g1 d1 := Nat.gcd_pos_of_pos_left _ (by omega)
  have D1 : Nat.gcd g1 d1 ≤ g1 := Nat.gcd_le_left _ (by omega)
  have D2 : Nat.gcd g1 d1 ≤ d1 := Nat.gcd_le_right _ (by omega)
  have ng1 : (tm_g r q / tm_g (tm_g r q) (c / tm_g b c)).toInt.natAbs = g1 := by omega
  have nd1 : (d / tm_g a d).toInt.natAbs = d1 := by omega
  have eD : (tm_g (tm_g r q / tm_g (tm_g r q) (c / tm_g b c)) (d / tm_g a d)).toInt = (Nat.gcd g1 d1 : Nat) := by rw [tm_gt (by rw [ng1, nd1]; omega), ng1, nd1]
  have cD : Nat.Coprime (g1 / Nat.gcd g1 d1) (d1 / Nat.gcd g1 d1) := Nat.coprime_div_gcd_div_gcd D0
  have vD1 : Nat.gcd g1 d1 ∣ g1 := Nat.gcd_dvd_left _ _
  have vD2 : Nat.gcd g1 d1 ∣ d1 := Nat.gcd_dvd_right _ _
  generalize hD : Nat.gcd g1 d1 = gd at *
  have eg2 := tm_q (x := tm_g r q / tm_g (tm_g r q) (c / tm_g b c)) (n := g1) eD D0 eg1 (by omega)
  have ec2 := tm_q (x := c / tm_g b c) (n := c1) eC C0 ec1 (by omega)
  have ed2 := tm_q (x := d / tm_g a d) (n := d1) eD D0 ed1 (by omega)
  have lg2 : 1 ≤ g1 / gd := (Nat.one_le_div_iff D0).mpr D1
  have lc2 : 1 ≤ c1 / gc := (Nat.one_le_div_iff C0).mpr C2
  have ld2 : 1 ≤ d1 / gd := (Nat.one_le_div_iff D0).mpr D2
  have ug2 : g1 / gd ≤ g1 := Nat.div_le_self _ _
  have uc2 : c1 / gc ≤ c1 := Nat.div_le_self _ _
  have ud2 : d1 / gd ≤ d1 := Nat.div_le_self _ _
  refine ⟨G, ad, bc, c1, d1, gc, g1, gd, eG, by omega, by omega, eA, by omega, eB, by omega, ea1, by omega, by omega, eb1, by omega, by omega, ec1, by omega, by omega, ed1, by omega, by omega, eC, by omega, by omega, eg1, by omega, by omega, eD, by omega, by omega, eg2, by omega, by omega, ec2, by omega, by omega, ed2, by omega, by omega, by omega, by omega, by omega, by omega, ?_⟩
  have y1 : Nat.Coprime (a.toInt.natAbs / ad) (c1 / gc * (d1 / gd)) := Nat.Coprime.mul_right (k1.coprime_div_right vC2) (cA.coprime_div_right vD2)
  have y2 : Nat.Coprime (b.toInt.natAbs / bc) (c1 / gc * (d1 / gd)) := Nat.Coprime.mul_right (cB.coprime_div_right vC2) (k2.coprime_div_right vD2)
  have y3 : Nat.Coprime (g1 / gd) (c1 / gc * (d1 / gd)) := Nat.Coprime.mul_right (cC.coprime_div_left vD1) cD
  exact Nat.Coprime.mul_left (Nat.Coprime.mul_left y1 y2) y3
