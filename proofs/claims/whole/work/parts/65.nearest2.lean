theorem lJ_or0 (x : Int64) : x ||| 0 = x := by
  rw [← Int64.toBitVec_inj, Int64.toBitVec_or]
  show x.toBitVec ||| 0#64 = x.toBitVec
  rw [BitVec.or_zero]
theorem en_lh (T B R : Nat → Int64) (c : Nat) : en_low T B R c ≤ en_high T B R c := by unfold en_high; omega
theorem en_ab {v : Int} (h : en_b v) : v.natAbs < 65536 ^ 67 := by
  unfold en_b at h
  generalize 65536 ^ 67 = y at *
  omega
/-- the class's answer when the sign is told -/
theorem nr_cls {F : Nat} (hF : 18446744073709551616 ≤ F) {zl zh : Nat → Int32} {v w : Nat} (h1 : en_is zl (v : Int)) (h2 : en_is zh (w : Int)) (hv : v < 65536 ^ 67) (hw : w < 65536 ^ 67) {b c : Nat} (hb : is_bl v b) (hc : is_bl w c) :
    mf_Doubles_areNear F 68 68 zl zh = some (if 54 ≤ b ∧ b = c ∧ v / 2 ^ (b - 54) = w / 2 ^ (b - 54) then 1 else 0) ∧
    (54 ≤ b → ∀ neg, mf_Doubles_ofSize F 68 neg zl = some (sgJ neg (lN (dblN (b - 2) (v / 2 ^ (b - 54) / 2 + v / 2 ^ (b - 54) % 2))))) := by
  obtain ⟨b', a1, a2, a3⟩ := wl_length hF h1 hv
  obtain ⟨c', a4, a5, a6⟩ := wl_length hF h2 hw
  have eb := is_bl_one a2 hb
  have ec := is_bl_one a5 hc
  subst eb ec
  constructor
  · unfold mf_Doubles_areNear
    rw [a1, sd_b1_s, show (54 : Int32) = nI 54 from rfl, nI_ifLt (by omega) (by omega)]
    by_cases q1 : b' < 54
    · rw [if_pos q1, sd_b1_s, if_neg (by omega)]; rfl
    · rw [if_neg q1, a4, sd_b1_s, nI_ifEq (by omega) (by omega)]
      by_cases q2 : b' = c'
      · subst q2
        have l1 : v / 2 ^ (b' - 54) < 2 ^ 54 := by
          rw [Nat.div_lt_iff_lt_mul (Nat.pow_pos (by omega)), ← Nat.pow_add, show 54 + (b' - 54) = b' by omega]; exact a2.1
        have l2 : w / 2 ^ (b' - 54) < 2 ^ 54 := by
          rw [Nat.div_lt_iff_lt_mul (Nat.pow_pos (by omega)), ← Nat.pow_add, show 54 + (b' - 54) = b' by omega]; exact a5.1
        rw [if_pos rfl, wx_highest hF h1 hv a2.1 (by omega) (by omega), sd_b1_s, wx_highest hF h2 hw a5.1 (by omega) (by omega), sd_b1_s, lN_ifEq (by omega) (by omega)]
        by_cases q3 : v / 2 ^ (b' - 54) = w / 2 ^ (b' - 54)
        · rw [if_pos q3, sd_b1_s, if_pos ⟨by omega, rfl, q3⟩]; rfl
        · rw [if_neg q3, sd_b1_s, if_neg (fun z => q3 z.2.2)]; rfl
      · rw [if_neg q2, sd_b1_s, if_neg (fun z => q2 z.2.1)]; rfl
  · intro h54 neg
    have l1 : v / 2 ^ (b' - 54) < 2 ^ 54 := by
      rw [Nat.div_lt_iff_lt_mul (Nat.pow_pos (by omega)), ← Nat.pow_add, show 54 + (b' - 54) = b' by omega]; exact a2.1
    have l2 : 2 ^ 53 ≤ v / 2 ^ (b' - 54) := by
      rw [Nat.le_div_iff_mul_le (Nat.pow_pos (by omega)), ← Nat.pow_add, show 53 + (b' - 54) = b' - 1 by omega]
      rcases a2.2 with z | z
      · omega
      · exact z
    have p1 : ((nI b' - (1 : Int32)) - (1024 : Int32)).toInt + 1023 = ((b' - 2 : Nat) : Int) := by
      obtain ⟨k, rfl⟩ : ∃ k, b' = k + 1 := ⟨b' - 1, by omega⟩
      rw [nI_pred, ni_sub] <;> rw [nI_toInt (by omega), show (1024 : Int32).toInt = 1024 from rfl] <;> omega
    unfold mf_Doubles_ofSize
    rw [a1, sd_b1_s, wx_highest hF h1 hv a2.1 h54 (by omega), sd_b1_s, jn_cls F (by omega) (by omega) p1 (by omega), sd_b1_s]
    have u : upN (v / 2 ^ (b' - 54)) 1 = v / 2 ^ (b' - 54) % 2 := by
      unfold upN
      by_cases q : v / 2 ^ (b' - 54) % 2 = 1
      · rw [if_pos ⟨q, Or.inl (by decide)⟩, q]
      · rw [if_neg (fun z => q z.1)]; omega
    rw [u]
theorem nr_double (F : Nat) {x b : Nat} (h1 : 9007199254740992 ≤ x) (h2 : x < 18014398509481984) (hb1 : 54 ≤ b) (hb2 : b ≤ 2000) : mf_Model_doubleOf F (lN x) (((1024 : Int32) - nI b) + (54 : Int32)) = some (lN (dblN (b - 2) (x / 2 + x % 2))) := by
  have s1 : ((1024 : Int32) - nI b).toInt = 1024 - (b : Int) := by rw [ni_sub] <;> rw [nI_toInt (by omega), show (1024 : Int32).toInt = 1024 from rfl] <;> omega
  have s2 : ((1024 : Int32) - nI b + (54 : Int32)).toInt = 1078 - (b : Int) := by rw [ni_add] <;> rw [s1, show (54 : Int32).toInt = 54 from rfl] <;> omega
  have s3 : (-((1024 : Int32) - nI b + (54 : Int32))).toInt = (b : Int) - 1078 := by rw [Int32.toInt_neg, s2, ni_bm] <;> omega
  have s4 : (-((1024 : Int32) - nI b + (54 : Int32)) + (1 : Int32)).toInt + 1075 = ((b - 2 : Nat) : Int) := by rw [ni_add] <;> rw [s3, show (1 : Int32).toInt = 1 from rfl] <;> omega
  unfold mf_Model_doubleOf
  rw [sd_let_s, sd_let_s, lN_1, lS_r1 (by omega), show (x + 1) / 2 = x / 2 + x % 2 by omega]
  exact jn_ref (by omega) (by omega) s4 (by omega)
/-- the reference's answer when the sign is told -/
theorem nr_ref {F : Nat} (hF : 18446744073709551616 ≤ F) {s1 s2 : Int32} {lo hi : Nat → Int64} {v w : Nat} (h1 : ww lo v) (h2 : ww hi w) {b c : Nat} (hb : is_bl v b) (hb2 : b ≤ 2000) (hc : is_bl w c) (o0 o1 : Int32) (ro re sq pt pl mi on : Nat → Int64) :
    ∃ o, mf_Model_nearest_J102 F o0 o1 (nI b) s1 s2 ro re sq pt pl mi lo hi on = some ((if 54 ≤ b ∧ b = c ∧ v / 2 ^ (b - 54) = w / 2 ^ (b - 54) then sgJ (if 0 ≤ s2 then 0 else 1) (lN (dblN (b - 2) (v / 2 ^ (b - 54) / 2 + v / 2 ^ (b - 54) % 2))) else 9221120237041090560), o) := by
  unfold mf_Model_nearest_J102
  rw [show (54 : Int32) = nI 54 from rfl, nI_ifLt (by omega) (by omega)]
  by_cases q1 : b < 54
  · rw [if_pos q1, if_neg (show ¬ (54 ≤ b ∧ b = c ∧ v / 2 ^ (b - 54) = w / 2 ^ (b - 54)) by omega)]; exact ⟨_, rfl⟩
  · obtain ⟨c', a4, a5, a6⟩ := rl_bits hF h2
    have ec := is_bl_one a5 hc
    subst ec
    rw [if_neg q1, a4, sd_b1_s, nI_ifEq (by omega) (by omega)]
    by_cases q2 : b = c'
    · subst q2
      obtain ⟨lo', d1, d2⟩ := ru_unshift hF (n := b - 54) h1 (by omega)
      obtain ⟨hi', d3, d4⟩ := ru_unshift hF (n := b - 54) h2 (by omega)
      rw [if_pos rfl, nI_sub (by omega) (by omega), d1, sd_b1_s, d3, sd_b1_s, rp_compare hF d2 d4, sd_b1_s]
      have l1 : v / 2 ^ (b - 54) < 2 ^ 54 := by
        rw [Nat.div_lt_iff_lt_mul (Nat.pow_pos (by omega)), ← Nat.pow_add, show 54 + (b - 54) = b by omega]; exact hb.1
      have l2 : 2 ^ 53 ≤ v / 2 ^ (b - 54) := by
        rw [Nat.le_div_iff_mul_le (Nat.pow_pos (by omega)), ← Nat.pow_add, show 53 + (b - 54) = b - 1 by omega]
        rcases hb.2 with z | z
        · omega
        · exact z
      unfold cmpI
      by_cases q3 : v / 2 ^ (b - 54) = w / 2 ^ (b - 54)
      · rw [if_pos q3, if_pos rfl, sl_small F o0 o1 s1 s2 d2 (by omega), sd_b1_s]
        have dd := nr_double F (x := v / 2 ^ (b - 54)) (b := b) (by omega) (by omega) (by omega) (by omega)
        have dd' : mf_Model_doubleOf F (lN (v / 2 ^ (b - 54))) (((1024 : Int32) - nI b) + nI 54) = some (lN (dblN (b - 2) (v / 2 ^ (b - 54) / 2 + v / 2 ^ (b - 54) % 2))) := dd
        rw [dd', sd_b1_s, if_pos (⟨by omega, rfl, q3⟩ : 54 ≤ b ∧ b = b ∧ v / 2 ^ (b - 54) = w / 2 ^ (b - 54))]
        unfold sgJ
        by_cases q4 : 0 ≤ s2
        · rw [if_pos q4, if_pos q4, if_pos rfl, sd_b1_s, lJ_or0]; exact ⟨_, rfl⟩
        · rw [if_neg q4, if_neg q4, if_neg (by decide), sd_b1_s]; exact ⟨_, rfl⟩
      · rw [if_neg (fun z : 54 ≤ b ∧ b = b ∧ v / 2 ^ (b - 54) = w / 2 ^ (b - 54) => q3 z.2.2), if_neg q3]
        by_cases q4 : w / 2 ^ (b - 54) ≤ v / 2 ^ (b - 54)
        · rw [if_pos q4, if_neg (by decide)]; exact ⟨_, rfl⟩
        · rw [if_neg q4, if_neg (by decide)]; exact ⟨_, rfl⟩
    · rw [if_neg q2, if_neg (fun z : 54 ≤ b ∧ b = c' ∧ v / 2 ^ (b - 54) = w / 2 ^ (b - 54) => q2 z.2.1)]; exact ⟨_, rfl⟩
theorem nearest_both {F : Nat} (hF : 18446744073709551616 ≤ F) {c I : Nat} (hI : I < 8) (cRg : Nat → Option Nat) (fR fQ : Int64) (cfr cft cfs czl czh xL xH : Nat → Int32) (xk o0 o1 o2 o3 : Int32) (cnt : Nat → Int32) (cn cd cr xT xB xR ro re sq pt pl mi lo hi on : Nat → Int64)
    (hx : tm_okS c xT xB xR) (kx : ck xk c xT xB xR xL xH) (c1 : cnt I = nI c) (d1 : tm_row I c cn xT) (d2 : tm_row I c cd xB) (d3 : tm_row I c cr xR) :
    ∃ a fR' fQ' u' v' s' zl' zh' xk' xL' xH', mf_Desk_nearest F (nI I) cRg fR fQ cfr cft cfs czl czh xk (nI c) xT xB xR xL xH = some (a, fR', fQ', u', v', s', zl', zh', xk', xL', xH') ∧ ck xk' c xT xB xR xL' xH' ∧
      ∃ o, mf_Model_nearest F (nI I) o0 o1 o2 o3 cn cd cr cnt ro re sq pt pl mi lo hi on = some (a, o) := by
  have z1 : ¬ (1 : Int32) = 0 := by decide
  have h8 := hx.1
  unfold mf_Desk_nearest mf_Model_nearest
  rw [(rg_in F hI).1, (rg_in F hI).2, sd_b1_s, sd_b1_s, if_neg z1, if_neg z1, sd_g_t (sd_ixI hI (by omega)), sd_g_t (sd_ixI hI (by omega)), nI_clamp (by omega), c1]
  rcases fr_dec c xR with f | f
  · rw [(mf_isFraction F xk hx.1 xR).1 f, sd_b1_s, if_neg z1, mf_top F xk hx.1, sd_b1_s, mf_bottom F xk hx.1, sd_b1_s]
    obtain ⟨n1, n2, n3, n4, n5⟩ := fr_nd hx
    rcases Nat.eq_zero_or_pos c with q | q
    · have n0 : fr_n c xT = 0 := by unfold fr_n; rw [if_pos q]
      rw [if_pos ((nI_is0 hx.1).mpr q), n0]
      unfold mf_Doubles_ofFraction
      rw [if_pos rfl, sd_b1_s]
      exact ⟨0, fR, fQ, cfr, cft, cfs, czl, czh, xk, xL, xH, rfl, kx, _, rfl⟩
    · have cc : c = 1 := by rcases f with z | z; omega; exact z.1
      have en : fr_n c xT = xT 0 := by unfold fr_n; rw [if_neg (by omega)]
      have ed : fr_d c xB = xB 0 := by unfold fr_d; rw [if_neg (by omega)]
      have e1 : cn (8 * I) = xT 0 := d1 0 (by omega)
      have e2 : cd (8 * I) = xB 0 := d2 0 (by omega)
      rw [en] at n1 n5
      rw [ed] at n2 n3
      rw [if_neg (fun z => by have := (nI_is0 hx.1).mp z; omega), (mm_fraction F hI hx.1 o0 o1 o2 o3 cnt cr xR c1 d3).1 f, sd_b1_s, if_neg z1, nI_8, sd_g_t (sd_ixI (by omega) (by omega)), sd_g_t (sd_ixI (by omega) (by omega)), nI_clamp (by omega), e1, e2, en, ed]
      have bn : xB 0 = lN (xB 0).toInt.toNat := nj_nat (by omega)
      obtain ⟨x, k1, k2⟩ := nf_both hF (a := (xT 0).toInt.natAbs) (d := (xB 0).toInt.toNat) (vT := xT 0) n1 (by omega) (by omega) (by omega) rfl
      rw [← bn] at k1 k2
      rw [nj_abs n1, k1, k2, sd_b1_s, sd_b1_s, sd_g_t (sd_ixI (by omega) (by omega))]
      unfold sgJ
      by_cases q4 : (0 : Int64) ≤ xT 0
      · rw [if_pos q4, if_pos q4, if_pos rfl, sd_b1_s, lJ_or0]
        exact ⟨_, fR, fQ, cfr, cft, cfs, czl, czh, xk, xL, xH, rfl, kx, _, rfl⟩
      · rw [if_neg q4, if_neg q4, if_neg (by decide), sd_b1_s]
        exact ⟨_, fR, fQ, cfr, cft, cfs, czl, czh, xk, xL, xH, rfl, kx, _, rfl⟩
  · have c0 : ¬ c = 0 := fun z => f (Or.inl z)
    obtain ⟨f1, f2, u1, v1, s1, L1, H1, g1, g2, g3⟩ := fi_any hF hx kx fR fQ cfr cft cfs
    obtain ⟨zl, zh, k1, k2, k3⟩ := wz_sizes hF g2 g3 (en_lb hx) (en_hb hx) czl czh
    obtain ⟨sl, sh, r1, r2, r3, r4, r5, r6, r7, r8, r9, m1, m2, m3⟩ := re_ends hF hI hx c1 d1 d2 d3 o0 o1 o2 o3 ro re sq pt pl mi lo hi on
    obtain ⟨b, p1, p2, p3⟩ := rl_bits hF m2.2
    obtain ⟨b', p4, p5, p6⟩ := wl_length hF k2 (en_ab (en_lb hx))
    have eb := is_bl_one p5 p2
    subst eb
    obtain ⟨cc, p7, p8, p9⟩ := wl_length hF k3 (en_ab (en_hb hx))
    obtain ⟨n1, n2⟩ := nr_cls hF k2 k3 (en_ab (en_lb hx)) (en_ab (en_hb hx)) p5 p8
    have lh := en_lh xT xB xR c
    have ck' : ck 1 c xT xB xR L1 H1 := Or.inr ⟨rfl, g2, g3⟩
    rw [(mf_isFraction F xk hx.1 xR).2 f, sd_b1_s, if_pos rfl, g1, sd_b8_s, k1, sd_b3_s, if_neg (fun z => c0 ((nI_is0 hx.1).mp z)), (mm_fraction F hI hx.1 o0 o1 o2 o3 cnt cr xR c1 d3).2 f, sd_b1_s, if_pos rfl, m1, sd_b11_s, p1, sd_b1_s]
    obtain ⟨o, n3⟩ := nr_ref hF (s1 := sl) (s2 := sh) m2.2 m3.2 p2 (by omega) p8 o0 o1 r1 r2 r3 r4 r5 r6 r9
    have sL : (0 < sl) ↔ 0 < en_low xT xB xR c := by
      rw [m2.1, ni_lt, sgnI_t, show (0 : Int32).toInt = 0 from rfl]
      by_cases a : en_low xT xB xR c = 0
      · rw [if_pos a]; omega
      · rw [if_neg a]
        by_cases a2 : 0 ≤ en_low xT xB xR c
        · rw [if_pos a2]; omega
        · rw [if_neg a2]; omega
    have sH : (0 ≤ sh) ↔ 0 ≤ en_high xT xB xR c := by
      rw [m3.1, ni_le, sgnI_t, show (0 : Int32).toInt = 0 from rfl]
      by_cases a : en_high xT xB xR c = 0
      · rw [if_pos a]; omega
      · rw [if_neg a]
        by_cases a2 : 0 ≤ en_high xT xB xR c
        · rw [if_pos a2]; omega
        · rw [if_neg a2]; omega
    have go : ∀ (sg neg : Int32), ¬ sg = 0 → (if 0 ≤ sg then (0 : Int32) else 1) = neg → neg = (if 0 ≤ sh then 0 else 1) → ∃ a, (if sg = 0 then (some ((9221120237041090560 : Int64), f1, f2, u1, v1, s1, zl, zh, (1 : Int32), L1, H1)) else (sd_b1 (mf_Doubles_areNear F 68 68 zl zh) fun r_3 => (if r_3 = 0 then (some ((9221120237041090560 : Int64), f1, f2, u1, v1, s1, zl, zh, (1 : Int32), L1, H1)) else (sd_b1 (if 0 ≤ sg then (some ((0 : Int32))) else (some ((1 : Int32)))) fun y => (sd_b1 (mf_Doubles_ofSize F 68 y zl) fun r_4 => (some (r_4, f1, f2, u1, v1, s1, zl, zh, (1 : Int32), L1, H1))))))) = some (a, f1, f2, u1, v1, s1, zl, zh, (1 : Int32), L1, H1) ∧ ∃ o, mf_Model_nearest_J102 F o0 o1 (nI b') sl sh r1 r2 r3 r4 r5 r6 r7 r8 r9 = some (a, o) := by
      intro sg neg h1 h2 h3
      rw [if_neg h1, n1, sd_b1_s, n3]
      by_cases q : 54 ≤ b' ∧ b' = cc ∧ (en_low xT xB xR c).natAbs / 2 ^ (b' - 54) = (en_high xT xB xR c).natAbs / 2 ^ (b' - 54)
      · have y : (if 0 ≤ sg then (some ((0 : Int32))) else (some ((1 : Int32)))) = some neg := by
          rw [← h2]
          by_cases w : 0 ≤ sg
          · rw [if_pos w, if_pos w]
          · rw [if_neg w, if_neg w]
        rw [if_pos q, if_pos q, if_neg z1, y, sd_b1_s, n2 q.1, sd_b1_s, ← h3]
        exact ⟨_, rfl, _, rfl⟩
      · rw [if_neg q, if_neg q, if_pos rfl]
        exact ⟨_, rfl, _, rfl⟩
    by_cases q1 : en_high xT xB xR c < 0
    · obtain ⟨a, e1, e2⟩ := go (-1) 1 (by decide) (by decide) (by rw [if_neg (fun z => by have := sH.mp z; omega)])
      rw [if_pos q1, e1, if_neg (fun z => by have := sL.mp z; omega), if_neg (fun z => by have := sH.mp z; omega)]
      exact ⟨a, f1, f2, u1, v1, s1, zl, zh, 1, L1, H1, rfl, ck', e2⟩
    · rw [if_neg q1]
      by_cases q2 : 0 < en_low xT xB xR c
      · obtain ⟨a, e1, e2⟩ := go 1 0 (by decide) (by decide) (by rw [if_pos (sH.mpr (by omega))])
        rw [if_pos q2, e1, if_pos (sL.mpr q2)]
        exact ⟨a, f1, f2, u1, v1, s1, zl, zh, 1, L1, H1, rfl, ck', e2⟩
      · rw [if_neg q2, if_pos rfl, if_neg (fun z => q2 (sL.mp z)), if_pos (sH.mpr (by omega))]
        exact ⟨_, f1, f2, u1, v1, s1, zl, zh, 1, L1, H1, rfl, ck', _, rfl⟩
