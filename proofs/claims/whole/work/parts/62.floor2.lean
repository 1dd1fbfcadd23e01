theorem sd_b15_s {t1 t2 t3 t4 t5 t6 t7 t8 t9 t10 t11 t12 t13 t14 t15 β : Type} (o : t1 × t2 × t3 × t4 × t5 × t6 × t7 × t8 × t9 × t10 × t11 × t12 × t13 × t14 × t15) (k : t1 → t2 → t3 → t4 → t5 → t6 → t7 → t8 → t9 → t10 → t11 → t12 → t13 → t14 → t15 → Option β) : sd_b15 (some o) k = k o.1 o.2.1 o.2.2.1 o.2.2.2.1 o.2.2.2.2.1 o.2.2.2.2.2.1 o.2.2.2.2.2.2.1 o.2.2.2.2.2.2.2.1 o.2.2.2.2.2.2.2.2.1 o.2.2.2.2.2.2.2.2.2.1 o.2.2.2.2.2.2.2.2.2.2.1 o.2.2.2.2.2.2.2.2.2.2.2.1 o.2.2.2.2.2.2.2.2.2.2.2.2.1 o.2.2.2.2.2.2.2.2.2.2.2.2.2.1 o.2.2.2.2.2.2.2.2.2.2.2.2.2.2 := rfl
/-- what floor answers -/
def fl_is (c : Nat) (T B R : Nat → Int64) (a : Int64) : Prop := (fr_is c R → a.toInt = (fr_n c T).toInt / (fr_d c B).toInt) ∧ (¬ fr_is c R → (en_low T B R c / ptN = en_high T B R c / ptN → a.toInt = en_low T B R c / ptN) ∧ (¬ en_low T B R c / ptN = en_high T B R c / ptN → a = 4611686018427387906))
theorem fr_dec (c : Nat) (R : Nat → Int64) : fr_is c R ∨ ¬ fr_is c R := by
  unfold fr_is; by_cases a : c = 0 <;> by_cases b : c = 1 <;> by_cases d : R 0 = 1 <;> simp [a, b, d]
theorem fl_one {c : Nat} {T B R : Nat → Int64} {a b : Int64} (h1 : fl_is c T B R a) (h2 : fl_is c T B R b) : a = b := by
  rcases fr_dec c R with f | f
  · exact nj_eq.mpr ((h1.1 f).trans (h2.1 f).symm)
  · by_cases e : en_low T B R c / ptN = en_high T B R c / ptN
    · exact nj_eq.mpr (((h1.2 f).1 e).trans ((h2.2 f).1 e).symm)
    · exact ((h1.2 f).2 e).trans ((h2.2 f).2 e).symm
theorem en_bq {v : Int} (hb : en_b v) : -281474976710656 ≤ v / ptN ∧ v / ptN < 281474976710656 := by
  unfold en_b at hb
  have hp : (0 : Int) < ptN := Int.ofNat_lt.mpr ptN_pos
  have e : ((65536 ^ 67 : Nat) : Int) = 281474976710656 * (ptN : Int) := by rw [ptN_3]; rfl
  rw [e] at hb
  constructor
  · exact (Int.le_ediv_iff_mul_le hp).mpr (by omega)
  · exact (Int.ediv_lt_iff_lt_mul hp).mpr (by omega)
theorem fl_bd {c : Nat} {T B R : Nat → Int64} {a : Int64} (hS : tm_okS c T B R) (h : fl_is c T B R a) : a = 4611686018427387906 ∨ (-281474976710656 ≤ a.toInt ∧ a.toInt < 281474976710656) := by
  rcases fr_dec c R with f | f
  · right
    obtain ⟨n1, n2, n3, n4, n5⟩ := fr_nd hS
    rw [h.1 f]
    constructor
    · have : (fr_n c T).toInt / (fr_d c B).toInt ≥ -1000000000 := (Int.le_ediv_iff_mul_le (by omega)).mpr (by
        have : (-1000000000 : Int) * (fr_d c B).toInt ≤ -1000000000 * 1 := Int.mul_le_mul_of_nonpos_left (by omega) n2
        omega)
      omega
    · have : (fr_n c T).toInt / (fr_d c B).toInt < 1000000001 := (Int.ediv_lt_iff_lt_mul (by omega)).mpr (by
        have : (1000000001 : Int) * 1 ≤ 1000000001 * (fr_d c B).toInt := Int.mul_le_mul_of_nonneg_left n2 (by omega)
        omega)
      omega
  · by_cases e : en_low T B R c / ptN = en_high T B R c / ptN
    · right
      rw [(h.2 f).1 e]
      exact en_bq (en_lb hS)
    · exact Or.inl ((h.2 f).2 e)
theorem floor_cls {F : Nat} (hF : 18446744073709551616 ≤ F) {c I : Nat} (hI : I < 8) (cRg : Nat → Option Nat) (fR fQ : Int64) (cfr cft cfs xL xH : Nat → Int32) (xk : Int32) (xT xB xR : Nat → Int64) (hx : tm_okS c xT xB xR) (kx : ck xk c xT xB xR xL xH) :
    ∃ a fR' fQ' u' v' s' xk' xL' xH', mf_Desk_floor F (nI I) cRg fR fQ cfr cft cfs xk (nI c) xT xB xR xL xH = some (a, fR', fQ', u', v', s', xk', xL', xH') ∧ ck xk' c xT xB xR xL' xH' ∧ fl_is c xT xB xR a := by
  have z1 : ¬ (1 : Int32) = 0 := by decide
  unfold mf_Desk_floor
  rw [(rg_in F hI).1, sd_b1_s, if_neg z1, sd_g_t (sd_ixI hI (by omega))]
  rcases fr_dec c xR with f | f
  · obtain ⟨n1, n2, n3, n4, n5⟩ := fr_nd hx
    rw [(mf_isFraction F xk hx.1 xR).1 f, sd_b1_s, if_neg z1, mf_top F xk hx.1, sd_b1_s, mf_bottom F xk hx.1, sd_b1_s]
    obtain ⟨z, e1, e2⟩ := fd_floorDiv F (x := fr_n c xT) (y := fr_d c xB) (by omega) (by omega)
    rw [e1, sd_b1_s]
    exact ⟨z, fR, fQ, cfr, cft, cfs, xk, xL, xH, rfl, kx, fun _ => e2, fun q => absurd f q⟩
  · obtain ⟨f1, f2, u1, v1, s1, L1, H1, g1, g2, g3⟩ := fi_any hF hx kx fR fQ cfr cft cfs
    obtain ⟨x, a1, a2, a3, a4⟩ := wh_whole hF g2 (en_lb hx)
    obtain ⟨y, b1, b2, b3, b4⟩ := wh_whole hF g3 (en_hb hx)
    rw [(mf_isFraction F xk hx.1 xR).2 f, sd_b1_s, if_pos rfl, g1, sd_b8_s]
    unfold mf_Teller_haveSameWhole
    rw [a1, sd_b1_s, b1, sd_b1_s, ifEqJ (p := en_low xT xB xR c / ptN = en_high xT xB xR c / ptN) (by rw [a2, b2])]
    by_cases e : en_low xT xB xR c / ptN = en_high xT xB xR c / ptN
    · rw [if_pos e, sd_b1_s, sd_g_t (by decide), sd_b1_s, if_neg z1, sd_b1_s, sd_b1_s]
      exact ⟨x, f1, f2, u1, v1, s1, 1, L1, H1, rfl, Or.inr ⟨rfl, g2, g3⟩, fun q => absurd q f, fun _ => ⟨fun _ => a2, fun q => absurd e q⟩⟩
    · rw [if_neg e, sd_b1_s, sd_g_t (by decide), sd_b1_s, if_pos rfl, sd_b1_s]
      exact ⟨_, f1, f2, u1, v1, s1, 1, L1, H1, rfl, Or.inr ⟨rfl, g2, g3⟩, fun q => absurd q f, fun _ => ⟨fun q => absurd q e, fun _ => rfl⟩⟩
theorem ff_floor {F : Nat} {c I : Nat} (hI : I < 8) (o0 o1 o2 o3 : Int32) (cnt : Nat → Int32) (cn cd xT xB xR : Nat → Int64) (hx : tm_okS c xT xB xR) (c1 : cnt I = nI c) (d1 : tm_row I c cn xT) (d2 : tm_row I c cd xB) :
    (∃ z, mf_Model_fractionFloor F (nI I) 0 o0 o1 o2 o3 cn cd cnt = some z ∧ z.toInt = (fr_n c xT).toInt / (fr_d c xB).toInt) ∧ (∃ z, mf_Model_fractionFloor F (nI I) 1 o0 o1 o2 o3 cn cd cnt = some z ∧ z.toInt = (-(fr_n c xT).toInt) / (fr_d c xB).toInt) := by
  obtain ⟨n1, n2, n3, n4, n5⟩ := fr_nd hx
  unfold mf_Model_fractionFloor
  rw [sd_g_t (sd_ixI hI (by omega)), mm_n hI hx.1 cnt cn xT c1 d1, sd_b1_s, sd_g_t (sd_ixI hI (by omega)), mm_d hI hx.1 cnt cd xB c1 d2, sd_b1_s, if_pos rfl, sd_b1_s, sd_g_t (sd_ixI hI (by omega)), sd_b1_s, sd_g_t (sd_ixI hI (by omega)), sd_b1_s, if_neg (by decide), sd_b1_s]
  have ng : (-fr_n c xT).toInt = -(fr_n c xT).toInt := nj_neg (by omega)
  obtain ⟨z, e1, e2⟩ := fd_floorDiv F (x := fr_n c xT) (y := fr_d c xB) (by omega) (by omega)
  obtain ⟨y, e3, e4⟩ := fd_floorDiv F (x := -fr_n c xT) (y := fr_d c xB) (by omega) (by omega)
  rw [e1, e3, sd_b1_s, sd_b1_s]
  exact ⟨⟨z, rfl, e2⟩, ⟨y, rfl, by rw [e4, ng]⟩⟩
theorem floor_ref {F : Nat} (hF : 18446744073709551616 ≤ F) {c I : Nat} (hI : I < 8) (o0 o1 o2 o3 : Int32) (cnt : Nat → Int32) (cn cd cr xT xB xR ro re sq pt pl mi lo hi on tw tA tB : Nat → Int64) (hx : tm_okS c xT xB xR) (c1 : cnt I = nI c) (d1 : tm_row I c cn xT) (d2 : tm_row I c cd xB) (d3 : tm_row I c cr xR) :
    ∃ a o, mf_Model_floor F (nI I) o0 o1 o2 o3 cn cd cr cnt ro re sq pt pl mi lo hi on tw tA tB = some (a, o) ∧ fl_is c xT xB xR a := by
  have z1 : ¬ (1 : Int32) = 0 := by decide
  unfold mf_Model_floor
  rw [(rg_in F hI).2, sd_b1_s, if_neg z1]
  rcases fr_dec c xR with f | f
  · obtain ⟨⟨z, e1, e2⟩, -⟩ := ff_floor (F := F) hI o0 o1 o2 o3 cnt cn cd xT xB xR hx c1 d1 d2
    rw [(mm_fraction F hI hx.1 o0 o1 o2 o3 cnt cr xR c1 d3).1 f, sd_b1_s, if_neg z1, e1, sd_b1_s]
    exact ⟨z, _, rfl, fun _ => e2, fun q => absurd f q⟩
  · obtain ⟨sl, sh, r1, r2, r3, r4, r5, r6, r7, r8, r9, k1, k2, k3⟩ := re_ends hF hI hx c1 d1 d2 d3 o0 o1 o2 o3 ro re sq pt pl mi lo hi on
    obtain ⟨x, on1, tw1, lf1, a1, a2, a3⟩ := fo_floorOf hF k2 (en_lb hx) o0 o1 sl sh r9 tw tA
    obtain ⟨y, on2, tw2, lf2, b1, b2, b3⟩ := fo_floorOf hF k3 (en_hb hx) o0 o1 sl sh on1 tw1 tB
    rw [(mm_fraction F hI hx.1 o0 o1 o2 o3 cnt cr xR c1 d3).2 f, sd_b1_s, if_pos rfl, k1, sd_b11_s, a1, sd_b4_s, b1, sd_b4_s, ifEqJ (p := en_low xT xB xR c / ptN = en_high xT xB xR c / ptN) (by rw [a2, b2])]
    by_cases e : en_low xT xB xR c / ptN = en_high xT xB xR c / ptN
    · rw [if_pos e, sd_b1_s]
      exact ⟨x, _, rfl, fun q => absurd q f, fun _ => ⟨fun _ => a2, fun q => absurd e q⟩⟩
    · rw [if_neg e, sd_b1_s]
      exact ⟨_, _, rfl, fun q => absurd q f, fun _ => ⟨fun q => absurd q e, fun _ => rfl⟩⟩
/-- the least whole number that isn't below, where floor is told -/
def ce_is (c : Nat) (T B R : Nat → Int64) (a : Int64) (e : Int) : Prop := (fr_is c R → e = if (fr_d c B).toInt = 1 then a.toInt else a.toInt + 1) ∧ (¬ fr_is c R → e = a.toInt + 1)
theorem ce_one {c : Nat} {T B R : Nat → Int64} {a : Int64} {e e' : Int} (h1 : ce_is c T B R a e) (h2 : ce_is c T B R a e') : e = e' := by
  rcases fr_dec c R with f | f
  · rw [h1.1 f, h2.1 f]
  · rw [h1.2 f, h2.2 f]
theorem ce_frac {n d : Int} (hd : 0 < d) (hg : Nat.gcd n.natAbs d.natAbs = 1) : -((-n) / d) = if d = 1 then n / d else n / d + 1 := by
  by_cases h : d = 1
  · rw [if_pos h, h, Int.ediv_one, Int.ediv_one]; omega
  · rw [if_neg h]
    have m0 : n % d ≠ 0 := fun z => by
      have dv : d ∣ n := Int.dvd_of_emod_eq_zero z
      have dn : d.natAbs ∣ n.natAbs := Int.natAbs_dvd_natAbs.mpr dv
      have : d.natAbs ∣ Nat.gcd n.natAbs d.natAbs := Nat.dvd_gcd dn (Nat.dvd_refl _)
      rw [hg] at this
      have := Nat.le_of_dvd (by omega) this
      omega
    have m1 := Int.emod_nonneg n (show d ≠ 0 by omega)
    have m2 := Int.emod_lt_of_pos n hd
    have e := Int.emod_add_mul_ediv n d
    have u := (Int.ediv_emod_unique hd (a := -n) (r := d - n % d) (q := -(n / d) - 1)).mpr ⟨by
      rw [Int.mul_sub, Int.mul_one, Int.mul_neg]; omega, by omega, by omega⟩
    rw [u.1]; omega
theorem whole_cls {F c : Nat} (k : Int32) {T B R : Nat → Int64} (hS : tm_okS c T B R) {a : Int64} (ha1 : -281474976710656 ≤ a.toInt) (ha2 : a.toInt < 281474976710656) : ∃ w y, mf_Sum_isWhole F k (nI c) B R = some w ∧ (if w = 0 then some (1 : Int64) else some (0 : Int64)) = some y ∧ ce_is c T B R a (a + y).toInt ∧ (a + y).toInt ≤ a.toInt + 1 ∧ a.toInt ≤ (a + y).toInt := by
  have z1 : ¬ (1 : Int32) = 0 := by decide
  have p1 : (a + (1 : Int64)).toInt = a.toInt + 1 := by rw [nj_add] <;> rw [show (1 : Int64).toInt = 1 from rfl] <;> omega
  have p0 : (a + (0 : Int64)).toInt = a.toInt := by rw [nj_add] <;> rw [show (0 : Int64).toInt = 0 from rfl] <;> omega
  unfold mf_Sum_isWhole
  rcases fr_dec c R with f | f
  · rw [(mf_isFraction F k hS.1 R).1 f, sd_b1_s, if_neg z1, mf_bottom F k hS.1, sd_b1_s, ifEqJ (p := (fr_d c B).toInt = 1) (by rw [show (1 : Int64).toInt = 1 from rfl])]
    by_cases e : (fr_d c B).toInt = 1
    · rw [if_pos e, sd_b1_s, sd_g_t (by decide)]
      exact ⟨1, 0, rfl, rfl, ⟨fun _ => by rw [p0, if_pos e], fun q => absurd f q⟩, by omega, by omega⟩
    · rw [if_neg e, sd_b1_s, sd_g_t (by decide)]
      exact ⟨0, 1, rfl, rfl, ⟨fun _ => by rw [p1, if_neg e], fun q => absurd f q⟩, by omega, by omega⟩
  · rw [(mf_isFraction F k hS.1 R).2 f, sd_b1_s, if_pos rfl, sd_b1_s, sd_g_t (by decide)]
    exact ⟨0, 1, rfl, rfl, ⟨fun q => absurd q f, fun _ => p1⟩, by omega, by omega⟩
theorem ceil_ref {F : Nat} (hF : 18446744073709551616 ≤ F) {c I : Nat} (hI : I < 8) (o0 o1 o2 o3 : Int32) (cnt : Nat → Int32) (cn cd cr xT xB xR ro re sq pt pl mi lo hi on tw tA tB : Nat → Int64) (hx : tm_okS c xT xB xR) (c1 : cnt I = nI c) (d1 : tm_row I c cn xT) (d2 : tm_row I c cd xB) (d3 : tm_row I c cr xR) {a : Int64} (ha : fl_is c xT xB xR a) (ha1 : -281474976710656 ≤ a.toInt) (ha2 : a.toInt < 281474976710656) :
    ∃ x o, mf_Model_ceiling F (nI I) o0 o1 o2 o3 cn cd cr cnt ro re sq pt pl mi lo hi on tw tA tB = some (x, o) ∧ ce_is c xT xB xR a x.toInt := by
  have z1 : ¬ (1 : Int32) = 0 := by decide
  unfold mf_Model_ceiling
  rcases fr_dec c xR with f | f
  · obtain ⟨-, ⟨z, e1, e2⟩⟩ := ff_floor (F := F) hI o0 o1 o2 o3 cnt cn cd xT xB xR hx c1 d1 d2
    obtain ⟨n1, n2, n3, n4, n5⟩ := fr_nd hx
    rw [(mm_fraction F hI hx.1 o0 o1 o2 o3 cnt cr xR c1 d3).1 f, sd_b1_s, if_neg z1, e1, sd_b1_s, sd_b15_s]
    have cf := ce_frac (n := (fr_n c xT).toInt) (d := (fr_d c xB).toInt) (by omega) n4
    have af := ha.1 f
    rw [← af, ← e2] at cf
    have nz : (-z).toInt = -z.toInt := nj_neg (by by_cases h : (fr_d c xB).toInt = 1 <;> simp only [h, if_true, if_false] at cf <;> omega)
    refine ⟨_, _, rfl, fun _ => ?_, fun q => absurd f q⟩
    show (-z).toInt = _
    rw [nz, cf]
  · obtain ⟨y, o, e1, e2⟩ := floor_ref hF hI o0 o1 o2 o3 cnt cn cd cr xT xB xR ro re sq pt pl mi lo hi on tw tA tB hx c1 d1 d2 d3
    have : y = a := fl_one e2 ha
    subst this
    rw [(mm_fraction F hI hx.1 o0 o1 o2 o3 cnt cr xR c1 d3).2 f, sd_b1_s, if_pos rfl, e1, sd_b15_s, sd_b15_s]
    refine ⟨_, _, rfl, fun q => absurd q f, fun _ => ?_⟩
    show (y + (1 : Int64)).toInt = _
    rw [nj_add] <;> rw [show (1 : Int64).toInt = 1 from rfl] <;> omega
/-- between, both sides -/
theorem bt_ref {F : Nat} (hF : 18446744073709551616 ≤ F) {c m I J : Nat} (hI : I < 8) (hJ : J < 8) (o0 o1 o2 o3 : Int32) (cnt : Nat → Int32) (cn cd cr xT xB xR yT yB yR ro re sq pt pl mi lo hi on tw tA tB : Nat → Int64) (hx : tm_okS c xT xB xR) (hy : tm_okS m yT yB yR)
    (c1 : cnt I = nI c) (c2 : cnt J = nI m) (d1 : tm_row I c cn xT) (d2 : tm_row I c cd xB) (d3 : tm_row I c cr xR) (e1 : tm_row J m cn yT) (e2 : tm_row J m cd yB) (e3 : tm_row J m cr yR) {a b : Int64} (ha : fl_is c xT xB xR a) (hb : fl_is m yT yB yR b) :
    ∃ x o, mf_Model_between F (nI I) (nI J) o0 o1 o2 o3 cn cd cr cnt ro re sq pt pl mi lo hi on tw tA tB = some (x, o) ∧ ((a = 4611686018427387906 ∨ b = 4611686018427387906) → x = 4611686018427387906) ∧ (¬ a = 4611686018427387906 → ¬ b = 4611686018427387906 → ∃ e f : Int, ce_is c xT xB xR a e ∧ ce_is m yT yB yR b f ∧ x.toInt = if f - e < 0 then 0 else f - e) := by
  have z1 : ¬ (1 : Int32) = 0 := by decide
  unfold mf_Model_between
  rw [(rg_in F hI).2, sd_b1_s, if_neg z1, (rg_in F hJ).2, sd_b1_s, if_neg z1]
  obtain ⟨a', o, k1, k2⟩ := floor_ref hF hI o0 o1 o2 o3 cnt cn cd cr xT xB xR ro re sq pt pl mi lo hi on tw tA tB hx c1 d1 d2 d3
  have : a' = a := fl_one k2 ha
  subst this
  rw [k1, sd_b15_s]
  by_cases q : a' = 4611686018427387906
  · rw [if_pos q]
    exact ⟨_, _, rfl, fun _ => rfl, fun z => absurd q z⟩
  · rw [if_neg q]
    obtain ⟨b', o', k3, k4⟩ := floor_ref hF hJ o0 o1 o.1 o.2.1 cnt cn cd cr yT yB yR o.2.2.1 o.2.2.2.1 o.2.2.2.2.1 o.2.2.2.2.2.1 o.2.2.2.2.2.2.1 o.2.2.2.2.2.2.2.1 o.2.2.2.2.2.2.2.2.1 o.2.2.2.2.2.2.2.2.2.1 o.2.2.2.2.2.2.2.2.2.2.1 o.2.2.2.2.2.2.2.2.2.2.2.1 o.2.2.2.2.2.2.2.2.2.2.2.2.1 o.2.2.2.2.2.2.2.2.2.2.2.2.2 hy c2 e1 e2 e3
    have : b' = b := fl_one k4 hb
    subst this
    rw [k3, sd_b15_s]
    by_cases q2 : b' = 4611686018427387906
    · rw [if_pos q2]
      exact ⟨_, _, rfl, fun _ => rfl, fun _ z => absurd q2 z⟩
    · rw [if_neg q2]
      have ba := (fl_bd hx ha).resolve_left q
      have bb := (fl_bd hy hb).resolve_left q2
      obtain ⟨x, o2', k5, k6⟩ := ceil_ref hF hJ o0 o1 o'.1 o'.2.1 cnt cn cd cr yT yB yR o'.2.2.1 o'.2.2.2.1 o'.2.2.2.2.1 o'.2.2.2.2.2.1 o'.2.2.2.2.2.2.1 o'.2.2.2.2.2.2.2.1 o'.2.2.2.2.2.2.2.2.1 o'.2.2.2.2.2.2.2.2.2.1 o'.2.2.2.2.2.2.2.2.2.2.1 o'.2.2.2.2.2.2.2.2.2.2.2.1 o'.2.2.2.2.2.2.2.2.2.2.2.2.1 o'.2.2.2.2.2.2.2.2.2.2.2.2.2 hy c2 e1 e2 e3 hb bb.1 bb.2
      rw [k5, sd_b15_s]
      obtain ⟨y, o3', k7, k8⟩ := ceil_ref hF hI o0 o1 o2'.1 o2'.2.1 cnt cn cd cr xT xB xR o2'.2.2.1 o2'.2.2.2.1 o2'.2.2.2.2.1 o2'.2.2.2.2.2.1 o2'.2.2.2.2.2.2.1 o2'.2.2.2.2.2.2.2.1 o2'.2.2.2.2.2.2.2.2.1 o2'.2.2.2.2.2.2.2.2.2.1 o2'.2.2.2.2.2.2.2.2.2.2.1 o2'.2.2.2.2.2.2.2.2.2.2.2.1 o2'.2.2.2.2.2.2.2.2.2.2.2.2.1 o2'.2.2.2.2.2.2.2.2.2.2.2.2.2 hx c1 d1 d2 d3 ha ba.1 ba.2
      rw [k7, sd_b15_s]
      have cb : ∀ {c : Nat} {T B R : Nat → Int64} {a : Int64} {e : Int}, ce_is c T B R a e → a.toInt ≤ e ∧ e ≤ a.toInt + 1 := by
        intro c T B R a e h
        rcases fr_dec c R with f | f
        · rw [h.1 f]; by_cases z : (fr_d c B).toInt = 1
          · rw [if_pos z]; omega
          · rw [if_neg z]; omega
        · rw [h.2 f]; omega
      have r1 := cb k6
      have r2 := cb k8
      have sb : (x - y).toInt = x.toInt - y.toInt := by rw [nj_sub] <;> omega
      refine ⟨_, _, rfl, fun z => by rcases z with z | z; exact absurd z q; exact absurd z q2, fun _ _ => ⟨y.toInt, x.toInt, k8, k6, ?_⟩⟩
      show (if x - y < (0 : Int64) then (0 : Int64) else x - y).toInt = _
      rw [ifLtJ (p := x.toInt - y.toInt < 0) (by rw [sb]; rfl)]
      by_cases w : x.toInt - y.toInt < 0
      · rw [if_pos w, if_pos w]; rfl
      · rw [if_neg w, if_neg w, sb]
/-- the class's side, from its two floors -/
theorem bt_cls {F c m I J : Nat} (hI : I < 8) (hJ : J < 8) (kx ky : Int32) {xT xB xR yT yB yR : Nat → Int64} (hx : tm_okS c xT xB xR) (hy : tm_okS m yT yB yR) {a b : Int64} (ha : fl_is c xT xB xR a) (hb : fl_is m yT yB yR b) {O : Type} (o : O) :
    ∃ x, (if a = (4611686018427387906 : Int64) then (some ((4611686018427387906 : Int64), o)) else (if b = (4611686018427387906 : Int64) then (some ((4611686018427387906 : Int64), o)) else (sd_g (sd_ix (nI I) 8) (sd_b1 (mf_Sum_isWhole F kx (nI c) xB xR) fun r_4 => (sd_b1 (if r_4 = 0 then (some ((1 : Int64))) else (some ((0 : Int64)))) fun y => (sd_let ((a + y)) fun x3 => (sd_g (sd_ix (nI J) 8) (sd_b1 (mf_Sum_isWhole F ky (nI m) yB yR) fun r_5 => (sd_b1 (if r_5 = 0 then (some ((1 : Int64))) else (some ((0 : Int64)))) fun y_1 => (sd_let ((b + y_1)) fun x5 => (some ((if (x5 - x3) < (0 : Int64) then (0 : Int64) else (x5 - x3)), o)))))))))))) = some (x, o) ∧
      ((a = 4611686018427387906 ∨ b = 4611686018427387906) → x = 4611686018427387906) ∧ (¬ a = 4611686018427387906 → ¬ b = 4611686018427387906 → ∃ e f : Int, ce_is c xT xB xR a e ∧ ce_is m yT yB yR b f ∧ x.toInt = if f - e < 0 then 0 else f - e) := by
  by_cases q : a = 4611686018427387906
  · rw [if_pos q]
    exact ⟨_, rfl, fun _ => rfl, fun z => absurd q z⟩
  · rw [if_neg q]
    by_cases q2 : b = 4611686018427387906
    · rw [if_pos q2]
      exact ⟨_, rfl, fun _ => rfl, fun _ z => absurd q2 z⟩
    · rw [if_neg q2]
      have ba := (fl_bd hx ha).resolve_left q
      have bb := (fl_bd hy hb).resolve_left q2
      obtain ⟨w1, y1, a1, a2, a3, a4, a5⟩ := whole_cls (F := F) kx hx ba.1 ba.2
      obtain ⟨w2, y2, b1, b2, b3, b4, b5⟩ := whole_cls (F := F) ky hy bb.1 bb.2
      rw [sd_g_t (sd_ixI hI (by omega)), a1, sd_b1_s, a2, sd_b1_s, sd_let_s, sd_g_t (sd_ixI hJ (by omega)), b1, sd_b1_s, b2, sd_b1_s, sd_let_s]
      have sb : (b + y2 - (a + y1)).toInt = (b + y2).toInt - (a + y1).toInt := by rw [nj_sub] <;> omega
      refine ⟨_, rfl, fun z => by rcases z with z | z; exact absurd z q; exact absurd z q2, fun _ _ => ⟨_, _, a3, b3, ?_⟩⟩
      rw [ifLtJ (p := (b + y2).toInt - (a + y1).toInt < 0) (by rw [sb]; rfl)]
      by_cases w : (b + y2).toInt - (a + y1).toInt < 0
      · rw [if_pos w, if_pos w]; rfl
      · rw [if_neg w, if_neg w, sb]
theorem bt_same {c m : Nat} {xT xB xR yT yB yR : Nat → Int64} {a b x y : Int64} (h1 : ((a = 4611686018427387906 ∨ b = 4611686018427387906) → x = 4611686018427387906) ∧ (¬ a = 4611686018427387906 → ¬ b = 4611686018427387906 → ∃ e f : Int, ce_is c xT xB xR a e ∧ ce_is m yT yB yR b f ∧ x.toInt = if f - e < 0 then 0 else f - e))
    (h2 : ((a = 4611686018427387906 ∨ b = 4611686018427387906) → y = 4611686018427387906) ∧ (¬ a = 4611686018427387906 → ¬ b = 4611686018427387906 → ∃ e f : Int, ce_is c xT xB xR a e ∧ ce_is m yT yB yR b f ∧ y.toInt = if f - e < 0 then 0 else f - e)) : x = y := by
  by_cases q : a = 4611686018427387906 ∨ b = 4611686018427387906
  · rw [h1.1 q, h2.1 q]
  · obtain ⟨e, f, g1, g2, g3⟩ := h1.2 (fun z => q (Or.inl z)) (fun z => q (Or.inr z))
    obtain ⟨e', f', g4, g5, g6⟩ := h2.2 (fun z => q (Or.inl z)) (fun z => q (Or.inr z))
    have e1 := ce_one g1 g4
    have e2 := ce_one g2 g5
    subst e1 e2
    exact nj_eq.mpr (g3.trans g6.symm)
theorem between_both {F : Nat} (hF : 18446744073709551616 ≤ F) {c m I J : Nat} (hI : I < 8) (hJ : J < 8) (cRg : Nat → Option Nat) (fR fQ : Int64) (cfr cft cfs xL xH yL yH : Nat → Int32) (xk yk o0 o1 o2 o3 : Int32) (cnt : Nat → Int32) (cn cd cr xT xB xR yT yB yR ro re sq pt pl mi lo hi on tw tA tB : Nat → Int64)
    (hx : tm_okS c xT xB xR) (hy : tm_okS m yT yB yR) (kx : ck xk c xT xB xR xL xH) (ky : ck yk m yT yB yR yL yH) (c1 : cnt I = nI c) (c2 : cnt J = nI m) (d1 : tm_row I c cn xT) (d2 : tm_row I c cd xB) (d3 : tm_row I c cr xR) (e1 : tm_row J m cn yT) (e2 : tm_row J m cd yB) (e3 : tm_row J m cr yR) :
    ∃ a fR' fQ' u' v' s' xk' xL' xH' yk' yL' yH', mf_Desk_between F (nI I) (nI J) cRg fR fQ cfr cft cfs xk (nI c) xT xB xR xL xH yk (nI m) yT yB yR yL yH = some (a, fR', fQ', u', v', s', xk', xL', xH', yk', yL', yH') ∧ ck xk' c xT xB xR xL' xH' ∧ ck yk' m yT yB yR yL' yH' ∧
      ∃ o, mf_Model_between F (nI I) (nI J) o0 o1 o2 o3 cn cd cr cnt ro re sq pt pl mi lo hi on tw tA tB = some (a, o) := by
  have z1 : ¬ (1 : Int32) = 0 := by decide
  obtain ⟨a, f1, f2, u1, v1, s1, k1, L1, H1, g1, g2, g3⟩ := floor_cls hF hI cRg fR fQ cfr cft cfs xL xH xk xT xB xR hx kx
  obtain ⟨b, f3, f4, u2, v2, s2, k2, L2, H2, g4, g5, g6⟩ := floor_cls hF hJ cRg f1 f2 u1 v1 s1 yL yH yk yT yB yR hy ky
  obtain ⟨x, h1, h2⟩ := bt_cls (F := F) hI hJ k1 k2 hx hy g3 g6 (f3, f4, u2, v2, s2, k1, L1, H1, k2, L2, H2)
  obtain ⟨y, o, h3, h4⟩ := bt_ref hF hI hJ o0 o1 o2 o3 cnt cn cd cr xT xB xR yT yB yR ro re sq pt pl mi lo hi on tw tA tB hx hy c1 c2 d1 d2 d3 e1 e2 e3 g3 g6
  have := bt_same h2 h4
  subst this
  refine ⟨x, f3, f4, u2, v2, s2, k1, L1, H1, k2, L2, H2, ?_, g2, g5, o, h3⟩
  unfold mf_Desk_between
  rw [(rg_in F hI).1, sd_b1_s, if_neg z1, (rg_in F hJ).1, sd_b1_s, if_neg z1, g1, sd_b9_s, g4, sd_b9_s]
  exact h1
theorem between_self {F : Nat} (hF : 18446744073709551616 ≤ F) {c I : Nat} (hI : I < 8) (cRg : Nat → Option Nat) (fR fQ : Int64) (cfr cft cfs xL xH : Nat → Int32) (xk o0 o1 o2 o3 : Int32) (cnt : Nat → Int32) (cn cd cr xT xB xR ro re sq pt pl mi lo hi on tw tA tB : Nat → Int64)
    (hx : tm_okS c xT xB xR) (kx : ck xk c xT xB xR xL xH) (c1 : cnt I = nI c) (d1 : tm_row I c cn xT) (d2 : tm_row I c cd xB) (d3 : tm_row I c cr xR) :
    ∃ a fR' fQ' u' v' s' xk' xL' xH', mf_Desk_between2 F (nI I) (nI I) cRg fR fQ cfr cft cfs xk (nI c) xT xB xR xL xH = some (a, fR', fQ', u', v', s', xk', xL', xH') ∧ ck xk' c xT xB xR xL' xH' ∧
      ∃ o, mf_Model_between F (nI I) (nI I) o0 o1 o2 o3 cn cd cr cnt ro re sq pt pl mi lo hi on tw tA tB = some (a, o) := by
  have z1 : ¬ (1 : Int32) = 0 := by decide
  obtain ⟨a, f1, f2, u1, v1, s1, k1, L1, H1, g1, g2, g3⟩ := floor_cls hF hI cRg fR fQ cfr cft cfs xL xH xk xT xB xR hx kx
  obtain ⟨b, f3, f4, u2, v2, s2, k2, L2, H2, g4, g5, g6⟩ := floor_cls hF hI cRg f1 f2 u1 v1 s1 L1 H1 k1 xT xB xR hx g2
  obtain ⟨x, h1, h2⟩ := bt_cls (F := F) hI hI k2 k2 hx hx g3 g6 (f3, f4, u2, v2, s2, k2, L2, H2)
  obtain ⟨y, o, h3, h4⟩ := bt_ref hF hI hI o0 o1 o2 o3 cnt cn cd cr xT xB xR xT xB xR ro re sq pt pl mi lo hi on tw tA tB hx hx c1 c1 d1 d2 d3 d1 d2 d3 g3 g6
  have := bt_same h2 h4
  subst this
  refine ⟨x, f3, f4, u2, v2, s2, k2, L2, H2, ?_, g5, o, h3⟩
  unfold mf_Desk_between2
  rw [(rg_in F hI).1, sd_b1_s, if_neg z1, sd_b1_s, if_neg z1, g1, sd_b9_s, g4, sd_b9_s]
  exact h1
