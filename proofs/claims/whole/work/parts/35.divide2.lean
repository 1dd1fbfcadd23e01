/-- the reference's turned term -/
theorem mm_inv {F : Nat} (hF : 18446744073709551616 ≤ F) {a b x : Int64} (h : tm_okT a b x) : ∃ r, mf_Model_divisor F (if (0 : Int64) ≤ a then b else -b) ((if 0 < a then a else -a) * x) = some r ∧ r.toInt ≠ 0 ∧ (if (0 : Int64) ≤ a then b else -b) / r = tm_inA a b x ∧ ((if 0 < a then a else -a) * x) / r = tm_inB a b x := by
  obtain ⟨G, e1, e2, e3, e4, e5, e6, e7, e8, e9, e10, e11, e12, e13, e14⟩ := tm_inv h
  obtain ⟨⟨p1, p2, p3⟩, p4, p5, p6, p7⟩ := h
  have hb : (if (0 : Int64) ≤ a then b else -b).toInt.natAbs = b.toInt.natAbs ∧ (if (0 : Int64) ≤ a then b else -b).toInt ≠ -9223372036854775808 := by
    split
    · exact ⟨rfl, by omega⟩
    · rw [nj_neg (by omega)]; omega
  have m1 : a.toInt.natAbs * x.toInt.natAbs ≤ 1000000000 * 1000000000 := Nat.mul_le_mul p1 (by omega)
  have hy : ((if 0 < a then a else -a) * x).toInt = (a.toInt.natAbs * x.toInt.natAbs : Nat) := by
    have q : (if 0 < a then a else -a).toInt * x.toInt = ((a.toInt.natAbs * x.toInt.natAbs : Nat) : Int) := by
      rw [e9, show x.toInt = ((x.toInt.natAbs : Nat) : Int) by omega]; exact (Int.natCast_mul _ _).symm
    rw [nj_mul (by rw [q]; omega) (by rw [q]; omega), q]
  have hg : Nat.gcd (if (0 : Int64) ≤ a then b else -b).toInt.natAbs ((if 0 < a then a else -a) * x).toInt.natAbs = G := by
    rw [hb.1, hy]
    show Nat.gcd b.toInt.natAbs (a.toInt.natAbs * x.toInt.natAbs) = G
    rw [Nat.gcd_mul_right_right_of_gcd_eq_one (by rw [Nat.gcd_comm]; exact p5)]
    exact e3
  have hgl : G ≤ b.toInt.natAbs := by rw [← e3]; exact Nat.gcd_le_left _ (by omega)
  have vx : G ∣ x.toInt.natAbs := by rw [← e3]; exact Nat.gcd_dvd_right _ _
  obtain ⟨r, er, hr⟩ := mm_divisor hF (if (0 : Int64) ≤ a then b else -b) ((if 0 < a then a else -a) * x) (by rw [hg]; omega)
  rw [hg] at hr
  have rg : r = tm_g b x := nj_eq.mpr (by rw [hr, e1])
  refine ⟨r, er, by omega, ?_, ?_⟩
  · rw [rg]
    unfold tm_inA
    by_cases ha : (0 : Int64) ≤ a
    · rw [if_pos ha, if_pos ha]
    · rw [if_neg ha, if_neg ha, nj_eq]
      have n1 : (-b).toInt = -b.toInt := nj_neg (by omega)
      rw [nj_div (by omega), n1, nj_neg (by omega), Int.neg_tdiv, nj_div (by omega)]
  · rw [nj_eq, e10, nj_div (by omega), hy, hr]
    rw [← Int.ofNat_tdiv]
    rw [Nat.mul_div_assoc _ vx]
theorem mm_divL {F : Nat} (hF : 18446744073709551616 ≤ F) {c I : Nat} (hI : I < 8) (cnt : Nat → Int32) (hcnt : cnt I = nI c) (r3 y x7 u v w : Int64) (hr : r3.toInt ≠ 0) (hu : y / r3 = u) (hv : x7 / r3 = v) (o1 o2 o3 : Int32) (cn cd cr xT xB xR : Nat → Int64) (hc : c ≤ 8) (hi : tm_okT u v w) (hx : ∀ j, j < c → tm_okT (xT j) (xB j) (xR j)) (d1 : tm_row I c cn xT) (d2 : tm_row I c cd xB) (d3 : tm_row I c cr xR) :
    ∀ (n fu k : Nat) (s : tm_S) (T B R : Nat → Int64), k + n = c → n < fu → tm_okSS s → tm_at s T B R →
      tm_ends2 (mf_Model_divide_L139 (nI I) cnt r3 F y x7 w o1 o2 o3 cn cd cr fu (nI k) (nI s.1) T B R) (tm_run (tm_fQ xT xB xR u v w) n k s) := by
  intro n
  induction n with
  | zero =>
    intro fu k s T B R hk hf ho ha
    obtain ⟨f, rfl⟩ : ∃ f, fu = f + 1 := ⟨fu - 1, by omega⟩
    rw [mf_Model_divide_L139, sd_g_t (sd_ixI hI (by omega)), nI_clamp (by omega), hcnt, if_pos (nI_le (by omega) (by omega))]
    exact ⟨T, B, R, rfl, ha⟩
  | succ n ih =>
    intro fu k s T B R hk hf ho ha
    obtain ⟨f, rfl⟩ : ∃ f, fu = f + 1 := ⟨fu - 1, by omega⟩
    rw [mf_Model_divide_L139, sd_g_t (sd_ixI hI (by omega)), nI_clamp (by omega), hcnt, if_neg (nI_ge (by omega) (by omega)), sd_g_t (sd_zJt hr), sd_g_t (sd_zJt hr), nI_8, nI_add, hu, hv]
    have hxk := hx k (by omega)
    have h1 := mm_mul hF ho.1 (show 8 * I + k < 64 by omega) o1 o2 o3 T B R cn cd cr u v w (by rw [d1 k (by omega), d2 k (by omega), d3 k (by omega)]; exact hxk) hi (fun j hj => by rw [ha.1 j hj, ha.2.1 j hj]; exact (ho.2.1 j hj).1)
    rw [d1 k (by omega), d2 k (by omega), d3 k (by omega)] at h1
    have h2 := tm_says_eq h1 (tm_addP_eq ha.1 ha.2.1 ha.2.2 _ _ _ _ _ _)
    rw [tm_run]
    show tm_ends2 _ (match tm_addP s.1 s.2.1 s.2.2.1 s.2.2.2 (xT k) (xB k) (xR k) u v w with | none => none | some s' => tm_run (tm_fQ xT xB xR u v w) n (k + 1) s')
    cases hs : tm_addP s.1 s.2.1 s.2.2.1 s.2.2.2 (xT k) (xB k) (xR k) u v w with
    | none =>
      rw [hs] at h2
      obtain ⟨n', T', B', R', e⟩ := h2
      rw [e, sd_b5_s, if_pos rfl]
      exact ⟨_, _, _, _, rfl⟩
    | some s' =>
      obtain ⟨c', T0, B0, R0⟩ := s'
      have ok' := tm_addP_ok ho hxk hi hs
      rw [hs] at h2
      obtain ⟨T', B', R', e, a1, a2, a3⟩ := h2
      rw [e, sd_b5_s, if_neg (by decide), sd_let_s, nI_1]
      exact ih f (k + 1) (c', T0, B0, R0) T' B' R' (by omega) (by omega) ok' ⟨a1, a2, a3⟩
theorem mm_divide {F : Nat} (hF : 18446744073709551616 ≤ F) {K I J c m : Nat} (hK : K < 8) (hI : I < 8) (hJ : J < 8) (md o1 o2 o3 : Int32) (cnt : Nat → Int32) (cn cd cr N0 D0 R0 xT xB xR yT yB yR : Nat → Int64) (hx : tm_okS c xT xB xR) (hy : tm_okS m yT yB yR) (c1 : cnt I = nI c) (c2 : cnt J = nI m) (d1 : tm_row I c cn xT) (d2 : tm_row I c cd xB) (d3 : tm_row I c cr xR) (e1 : tm_row J m cn yT) (e2 : tm_row J m cd yB) (e3 : tm_row J m cr yR) :
    (m = 1 → rk_ref K cnt cn cd cr (mf_Model_divide F (nI K) (nI I) (nI J) md o1 o2 o3 cn cd cr cnt N0 D0 R0) (tm_divide c xT xB xR (yT 0) (yB 0) (yR 0))) ∧
    (m ≠ 1 → mf_Model_divide F (nI K) (nI I) (nI J) md o1 o2 o3 cn cd cr cnt N0 D0 R0 = some (-2, md, cn, cd, cr, cnt, N0, D0, R0)) := by
  have m8 := hy.1
  have q1 : nI m = (1 : Int32) ↔ m = 1 := by rw [show (1 : Int32) = nI 1 from rfl]; exact nI_eq (by omega) (by omega)
  unfold mf_Model_divide
  have z1 : ¬ (1 : Int32) = 0 := by decide
  simp only [(rg_in F hK).2, (rg_in F hI).2, (rg_in F hJ).2, sd_b1_s, if_neg z1, sd_ixI hJ (show J < 2147483648 by omega), sd_g_s, nI_clamp (show J < 2 ^ 31 by omega), c2]
  refine ⟨fun hm => ?_, fun hm => ?_⟩
  · subst hm
    have h0 := hy.2.1 0 (by omega)
    have f1 : cn (8 * J) = yT 0 := e1 0 (by omega)
    have f2 : cd (8 * J) = yB 0 := e2 0 (by omega)
    have f3 : cr (8 * J) = yR 0 := e3 0 (by omega)
    rw [if_pos (q1.mpr rfl)]
    simp only [sd_let_s, nI_8, sd_ixI (show 8 * J < 64 by omega) (show 8 * J < 2147483648 by omega), nI_clamp (show 8 * J < 2 ^ 31 by omega), sd_g_s, f1, f2, f3]
    have hok := fun s e => tm_divide_ok (s := s) hx h0 e
    obtain ⟨r, er, hr, hu, hv⟩ := mm_inv hF h0
    obtain ⟨G, g1, g2, g3, g4, g5, g6, g7, g8, g9, g10, g11, g12, g13, g14⟩ := tm_inv h0
    have hif : (if (0 : Int64) ≤ yT 0 then some (yB 0) else some (-(yB 0))) = some (if (0 : Int64) ≤ yT 0 then yB 0 else -(yB 0)) := by split <;> rfl
    rw [hif, sd_b1_s, er, sd_b1_s]
    simp only [sd_zJt hr, sd_g_s, hu, hv, mm_fits, sd_b1_s]
    unfold tm_divide at hok ⊢
    by_cases t : 1000000000 < (tm_inB (yT 0) (yB 0) (yR 0)).toInt
    · rw [if_neg (show ¬ (-1000000000 ≤ (tm_inA (yT 0) (yB 0) (yR 0)).toInt ∧ (tm_inA (yT 0) (yB 0) (yR 0)).toInt ≤ 1000000000 ∧ 1 ≤ (tm_inB (yT 0) (yB 0) (yR 0)).toInt ∧ (tm_inB (yT 0) (yB 0) (yR 0)).toInt ≤ 1000000000) by omega), if_pos rfl, if_pos t]
      exact ⟨_, _, _, _, rfl⟩
    · rw [if_pos (show -1000000000 ≤ (tm_inA (yT 0) (yB 0) (yR 0)).toInt ∧ (tm_inA (yT 0) (yB 0) (yR 0)).toInt ≤ 1000000000 ∧ 1 ≤ (tm_inB (yT 0) (yB 0) (yR 0)).toInt ∧ (tm_inB (yT 0) (yB 0) (yR 0)).toInt ≤ 1000000000 by omega), if_neg z1]
      rw [if_neg t] at hok ⊢
      have hi := tm_inv_ok h0 (by omega)
      have h := mm_divL hF hI cnt c1 r _ _ _ _ (yR 0) hr hu hv o1 o2 o3 cn cd cr xT xB xR hx.1 hi hx.2.1 d1 d2 d3 c F 0 tm_nil N0 D0 R0 (by omega) (by have := hx.1; omega) tm_nil_ok (tm_nil_at _ _ _)
      exact mm_reckon_end (show 200 ≤ F by omega) hK o1 o2 o3 cnt cn cd cr hok h
  · rw [if_neg (fun z => hm (q1.mp z))]
