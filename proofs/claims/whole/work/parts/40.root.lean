/-! root -/
theorem rt_side {F m : Nat} (hF : 18446744073709551616 ≤ F) (hm0 : 0 < m) (hm : m ≤ 100000000) : ∃ s, mf_Whole_sideOfGreatestSquare F (lN m) = some (lN s) ∧ (∀ y y1 : Int64, y * y1 = lN m → mf_Model_root_L113 y y1 F 1 2 = some (lN s)) ∧ 0 < s ∧ s ≤ 10000 ∧ s * s ∣ m := by
  obtain ⟨s, q, e, h1, h2, h3, h4⟩ := mf_side hF hm0 hm
  refine ⟨s, e, fun y y1 hy => ?_, h3, h4, ⟨q, h1⟩⟩
  obtain ⟨s', e', g1, g2, g3, g4⟩ := mm_rootL y y1 hy hm0 hm F 1 2 (by omega) (Nat.one_dvd m) (fun u a _ => by omega) (by omega) (by omega) (by omega) (by omega)
  have a1 : s ≤ s' := g2 s ⟨q, h1⟩
  have a2 : s' ∣ s := sq_max h3 h2 (by rw [← h1]; exact g1)
  have a3 := Nat.le_of_dvd h3 a2
  have a4 : s' = s := by omega
  rw [← a4]; exact e'
theorem rt_side0 {F : Nat} (hF : 18446744073709551616 ≤ F) : mf_Whole_sideOfGreatestSquare F 0 = some 1 := by
  unfold mf_Whole_sideOfGreatestSquare
  obtain ⟨f, rfl⟩ : ∃ f, F = f + 1 := ⟨F - 1, by omega⟩
  rw [mf_Whole_sideOfGreatestSquare_L10, if_pos (by decide), sd_b2_s]
  obtain ⟨r, er, r1, r2⟩ := mf_wholeRoot (F := f + 1) (m := 0) (by omega) (by omega)
  have er' : mf_Whole_wholeRoot (f + 1) 0 = some (lN r) := er
  have r0 : r = 0 := by
    rcases Nat.eq_zero_or_pos r with z | z
    · exact z
    · have := Nat.mul_pos z z; omega
  rw [er', sd_b1_s, r0, if_pos (by decide), sd_b1_s]
/-- the term of a root -/
theorem rt_ok {b : Int64} {s m : Nat} (hb1 : 1 ≤ b.toInt) (hb2 : b.toInt ≤ 1000000000) (hs0 : 0 < s) (hs : s ≤ 10000) (hm0 : 0 < m) (hm : m ≤ 100000000) (hd : s * s ∣ m) : tm_okT (lN s / tm_g (lN s) b) (b / tm_g (lN s) b) (lN (m / (s * s))) := by
  have es := lN_bits s (by omega)
  have g0 : 0 < Nat.gcd (lN s).toInt.natAbs b.toInt.natAbs := Nat.gcd_pos_of_pos_left _ (by omega)
  have g1 : Nat.gcd (lN s).toInt.natAbs b.toInt.natAbs ≤ (lN s).toInt.natAbs := Nat.gcd_le_left _ (by omega)
  have d1 : (lN s).toInt.natAbs / Nat.gcd (lN s).toInt.natAbs b.toInt.natAbs ≤ (lN s).toInt.natAbs := Nat.div_le_self _ _
  have d2 : b.toInt.natAbs / Nat.gcd (lN s).toInt.natAbs b.toInt.natAbs ≤ b.toInt.natAbs := Nat.div_le_self _ _
  obtain ⟨l1, l2, l3⟩ := tm_lowest (X := lN s) (Y := b) rfl (by omega) (by omega) (by omega) hb1 (by omega) (by omega)
  have ss : 0 < s * s := Nat.mul_pos hs0 hs0
  have r1 : 1 ≤ m / (s * s) := (Nat.one_le_div_iff ss).mpr (Nat.le_of_dvd hm0 hd)
  have r2 : m / (s * s) ≤ m := Nat.div_le_self _ _
  have er := lN_bits (m / (s * s)) (by omega)
  exact ⟨l1, l2, l3, by omega, by omega⟩
theorem root_both {F : Nat} (hF : 18446744073709551616 ≤ F) {K I c : Nat} (hK : K < 8) (hI : I < 8) (cRg : Nat → Option Nat) (xk xn yk md o1 o2 o3 : Int32) (cnt : Nat → Int32) (xT xB xR yT yB yR cn cd cr N0 D0 R0 : Nat → Int64) (hy : tm_okS c yT yB yR) (c1 : cnt I = nI c) (d1 : tm_row I c cn yT) (d2 : tm_row I c cd yB) (d3 : tm_row I c cr yR) :
    (∃ v : Int32, mf_Desk_root F (nI K) (nI I) cRg xk xn xT xB xR yk (nI c) yT yB yR = some (v, xk, xn, xT, xB, xR) ∧ mf_Model_root F (nI K) (nI I) md o1 o2 o3 cn cd cr cnt N0 D0 R0 = some (v, md, cn, cd, cr, cnt, N0, D0, R0)) ∨
    (mf_Desk_root F (nI K) (nI I) cRg xk xn xT xB xR yk (nI c) yT yB yR = some (0, 0, nI 0, xT, xB, xR) ∧ ∃ cn' cd' cr' N D R, mf_Model_root F (nI K) (nI I) md o1 o2 o3 cn cd cr cnt N0 D0 R0 = some (0, nI 0, cn', cd', cr', upd cnt K (nI 0), N, D, R) ∧ (∀ j, j < 8 * K ∨ 8 * K + 8 ≤ j → cn' j = cn j ∧ cd' j = cd j ∧ cr' j = cr j)) ∨
    (∃ t u v : Int64, tm_okT t u v ∧ mf_Desk_root F (nI K) (nI I) cRg xk xn xT xB xR yk (nI c) yT yB yR = some (0, 0, nI 1, vp_updL xT 0 t, vp_updL xB 0 u, vp_updL xR 0 v) ∧ ∃ cn' cd' cr' N D R, mf_Model_root F (nI K) (nI I) md o1 o2 o3 cn cd cr cnt N0 D0 R0 = some (0, nI 1, cn', cd', cr', upd cnt K (nI 1), N, D, R) ∧ cn' (8 * K) = t ∧ cd' (8 * K) = u ∧ cr' (8 * K) = v ∧ (∀ j, j < 8 * K ∨ 8 * K + 8 ≤ j → cn' j = cn j ∧ cd' j = cd j ∧ cr' j = cr j)) := by
  have h8 := hy.1
  have z1 : ¬ (1 : Int32) = 0 := by decide
  obtain ⟨n1, n2, n3, n4, n5⟩ := fr_nd hy
  obtain ⟨f1, f2⟩ := mf_isFraction F yk h8 yR
  obtain ⟨g1, g2⟩ := mm_fraction F hI h8 md o1 o2 o3 cnt cr yR c1 d3
  have en := mm_n hI h8 cnt cn yT c1 d1
  have ed := mm_d hI h8 cnt cd yB c1 d2
  unfold mf_Desk_root mf_Model_root
  simp only [(rg_in F hK).1, (rg_in F hI).1, (rg_in F hK).2, (rg_in F hI).2, sd_b1_s, if_neg z1, sd_ixI hI (show I < 2147483648 by omega), sd_ixI hK (show K < 2147483648 by omega), sd_g_s, mf_top F yk h8, mf_bottom F yk h8]
  rw [en, sd_b1_s, ed, sd_b1_s]
  generalize fr_n c yT = a at *
  generalize fr_d c yB = b at *
  by_cases hf : fr_is c yR
  · rw [f1 hf, g1 hf, sd_b1_s, sd_b1_s, if_neg z1, if_neg z1]
    have w0 : ((0 : Int64) ≤ a) ↔ 0 ≤ a.toInt := nj_le
    by_cases ha : 0 ≤ a.toInt
    · rw [if_pos (w0.mpr ha), if_pos (w0.mpr ha)]
      have hab : a.toInt.natAbs * b.toInt.natAbs ≤ 1000000000 * 1000000000 := Nat.mul_le_mul n1 (by omega)
      have em : a * b = lN (a.toInt.natAbs * b.toInt.natAbs) := by
        rw [lN_j _ (by omega)]
        refine jI_eq ?_
        have q : a.toInt * b.toInt = ((a.toInt.natAbs * b.toInt.natAbs : Nat) : Int) := by
          rw [Int.natCast_mul]; congr 1 <;> omega
        rw [nj_mul (by rw [q]; omega) (by rw [q]; omega), q]
      generalize hM : a.toInt.natAbs * b.toInt.natAbs = m at *
      rw [em, sd_let_s]
      have wm : (lN m ≤ (100000000 : Int64)) ↔ m ≤ 100000000 := by
        rw [show (100000000 : Int64) = lN 100000000 from rfl]; exact lN_leI (by omega) (by omega)
      by_cases hm : m ≤ 100000000
      · rw [if_pos (wm.mpr hm), if_pos (wm.mpr hm)]
        have wa : (a ≤ (0 : Int64)) ↔ a.toInt ≤ 0 := nj_le
        by_cases a0 : a.toInt = 0
        · -- zero
          right; left
          have m0 : m = 0 := by rw [← hM, a0]; exact Nat.zero_mul _
          subst m0
          have c0 := n5.mp a0
          obtain ⟨cn', cd', cr', ek, k1, k2, k3, k4⟩ := mm_keep (show 200 ≤ F by omega) hK (show 0 ≤ 8 by omega) o1 o2 o3 cnt cn cd cr N0 D0 R0
          have ek' : mf_Model_keep F (nI K) 0 o1 o2 o3 cn cd cr cnt N0 D0 R0 = some (nI 0, cn', cd', cr', upd cnt K (nI 0)) := ek
          have hg : Nat.gcd (1 : Int64).toInt.natAbs b.toInt.natAbs = 1 := Nat.gcd_one_left _
          have hgd := mf_g (show 200 ≤ F by omega) 1 b (Or.inl (by decide)) (by rw [hg]; omega)
          have gv : (tm_g 1 b).toInt ≠ 0 := by rw [tm_gt (by rw [hg]; omega), hg]; decide
          refine ⟨?_, cn', cd', cr', N0, D0, R0, ?_, k4⟩
          · rw [show lN 0 = (0 : Int64) from rfl, rt_side0 hF, sd_b1_s, hgd, sd_b1_s, if_pos rfl, sd_b1_s, sd_g_t (sd_zJt gv), sd_g_t (sd_zJt (by decide)), mf_become0, sd_b5_s]; rfl
          · rw [if_pos (wa.mpr (by omega)), ek', sd_b5_s]; rfl
        · right; right
          have m1 : 0 < m := by rw [← hM]; exact Nat.mul_pos (by omega) (by omega)
          obtain ⟨s, e1, e2, s1, s2, s3⟩ := rt_side hF m1 hm
          have ss : 0 < s * s := Nat.mul_pos s1 s1
          have sl : s * s ≤ 10000 * 10000 := Nat.mul_le_mul s2 s2
          have es := lN_bits s (by omega)
          have ok := rt_ok n2 n3 s1 s2 m1 hm s3
          have gl : Nat.gcd (lN s).toInt.natAbs b.toInt.natAbs ≤ (lN s).toInt.natAbs := Nat.gcd_le_left _ (by omega)
          have g0 : 0 < Nat.gcd (lN s).toInt.natAbs b.toInt.natAbs := Nat.gcd_pos_of_pos_left _ (by omega)
          have hgd := mf_g (show 200 ≤ F by omega) (lN s) b (Or.inl (by omega)) (by omega)
          have gv : (tm_g (lN s) b).toInt ≠ 0 := by rw [tm_gt (by omega)]; omega
          have mz : ¬ lN m = (0 : Int64) := fun z => by
            have := (lN_eqI (a := m) (b := 0) (by omega) (by omega)).mp z; omega
          refine ⟨lN s / tm_g (lN s) b, b / tm_g (lN s) b, lN (m / (s * s)), ok, ?_, ?_⟩
          · rw [e1, sd_b1_s, hgd, sd_b1_s, if_neg mz, sd_g_t (sd_zJt gv), sd_b1_s, sd_g_t (sd_zJt gv), lN_mul, sd_g_t (sd_zL ss (by omega)), lN_divI (by omega) ss (by omega), mf_become F _ _ _ ok.2.1, sd_b5_s]; rfl
          · rw [if_neg (fun z => by have := wa.mp z; omega), e2 a b em, sd_b1_s, lN_mul, sd_g_t (sd_zL ss (by omega)), lN_divI (by omega) ss (by omega)]
            obtain ⟨T', B', R', ea, t1, t2, t3⟩ := mm_add1 hF o1 o2 o3 N0 D0 R0 (lN s) b (lN (m / (s * s))) ⟨by omega, n2, n3⟩ (by omega)
            obtain ⟨cn', cd', cr', ek, k1, k2, k3, k4⟩ := mm_keep (show 200 ≤ F by omega) hK (show 1 ≤ 8 by omega) o1 o2 o3 cnt cn cd cr T' B' R'
            rw [ea, sd_b5_s, ek, sd_b5_s]
            refine ⟨cn', cd', cr', T', B', R', rfl, ?_, ?_, ?_, k4⟩
            · have := k1 0 (by omega); rw [t1] at this; exact this
            · have := k2 0 (by omega); rw [t2] at this; exact this
            · have := k3 0 (by omega); rw [t3] at this; exact this
      · rw [if_neg (fun z => hm (wm.mp z)), if_neg (fun z => hm (wm.mp z))]
        exact Or.inl ⟨_, rfl, rfl⟩
    · rw [if_neg (fun z => ha (w0.mp z)), if_neg (fun z => ha (w0.mp z))]
      exact Or.inl ⟨_, rfl, rfl⟩
  · rw [f2 hf, g2 hf, sd_b1_s, sd_b1_s, if_pos rfl, if_pos rfl]
    exact Or.inl ⟨_, rfl, rfl⟩
