/-! the numbers of the chain, both sides -/
theorem lN_neg {v : Nat} (h1 : 9223372036854775808 ≤ v) (h2 : v < 18446744073709551616) : (lN v).toInt = (v : Int) - 18446744073709551616 := by
  have e : (lN v).toInt = (v : Int).bmod (2 ^ 64) := by
    rw [nb_bv, wb_tn (by omega)]
  rw [e, Int.bmod_def]
  omega
theorem pt_told {F v : Nat} (hF : 18446744073709551616 ≤ F) {f : Nat → Int64} (h : ww f v) (o0 o1 o2 o3 : Int32) {β : Type} (k : Int64 → Option β) : (sd_b1 (mf_Model_size F f) fun r_7 => (sd_b1 (if (2 : Int32) < r_7 then (some ((4611686018427387903 : Int64))) else (sd_b1 (mf_Model_small F o0 o1 o2 o3 f) fun r_8 => (if r_8 < (0 : Int64) then (some ((4611686018427387903 : Int64))) else (sd_b1 (mf_Model_small F o0 o1 o2 o3 f) fun r_9 => (if r_9 ≤ (4611686018427387902 : Int64) then (sd_b1 (mf_Model_small F o0 o1 o2 o3 f) fun r_10 => (some (r_10))) else (some ((4611686018427387903 : Int64)))))))) k)) = k (lN (min v 4611686018427387903)) := by
  obtain ⟨j, a1, a2, a3, a4⟩ := rz_size hF h
  rw [a2, sd_b1_s, show (2 : Int32) = nI 2 from rfl, nI_ifLt (by omega) (by omega)]
  by_cases q : 2 < j
  · have g : 4294967296 ^ 2 ≤ v := by
      rcases a4 with y | y
      · omega
      · exact Nat.le_trans (Nat.pow_le_pow_right (by omega) (by omega)) y
    rw [if_pos q, sd_b1_s, show min v 4611686018427387903 = 4611686018427387903 by omega]
    rfl
  · have g : v < 4294967296 ^ 2 := Nat.lt_of_lt_of_le a3 (Nat.pow_le_pow_right (by omega) (by omega))
    rw [if_neg q, sl_small F o0 o1 o2 o3 h (by omega), sd_b1_s]
    by_cases q2 : v < 9223372036854775808
    · have t : (lN v).toInt = (v : Int) := pk_lT (by omega)
      rw [ifLtJ (p := False) (by rw [t, show (0 : Int64).toInt = 0 from rfl]; constructor; omega; exact False.elim), if_neg (fun z => z), sd_b1_s, ifLeJ (p := v ≤ 4611686018427387902) (by rw [t, show (4611686018427387902 : Int64).toInt = 4611686018427387902 from rfl]; omega)]
      by_cases q3 : v ≤ 4611686018427387902
      · rw [if_pos q3, sd_b1_s, sd_b1_s, show min v 4611686018427387903 = v by omega]
      · rw [if_neg q3, sd_b1_s, show min v 4611686018427387903 = 4611686018427387903 by omega]
        rfl
    · have t := lN_neg (v := v) (by omega) (by omega)
      rw [ifLtJ (p := True) (by rw [t, show (0 : Int64).toInt = 0 from rfl]; constructor; intro _; trivial; intro _; omega), if_pos trivial, sd_b1_s, show min v 4611686018427387903 = 4611686018427387903 by omega]
      rfl
theorem pt_65 : ptN < 65536 ^ 65 := by decide +kernel
theorem pt_sh : 1 * 2 ^ 1024 = ptN := by decide +kernel
theorem pt_fits : 1 * 2 ^ 1024 < 4294967296 ^ 76 := by decide +kernel
theorem partial_both {F : Nat} (hF : 18446744073709551616 ≤ F) {c I : Nat} (hI : I < 8) (vN : Int32) (cRg : Nat → Option Nat) (fR fQ : Int64) (cfr cft cfs cku ckl ckq cou col coq xL xH : Nat → Int32) (xk o0 o1 o2 o3 : Int32) (cnt : Nat → Int32) (cn cd cr xT xB xR ro re sq pt pl mi lo hi on tw tA uA tB uB qA qB : Nat → Int64)
    (hx : tm_okS c xT xB xR) (kx : ck xk c xT xB xR xL xH) (c1 : cnt I = nI c) (d1 : tm_row I c cn xT) (d2 : tm_row I c cd xB) (d3 : tm_row I c cr xR) :
    ∃ a fR' fQ' u' v' s' k1 k2 k3 k4 k5 k6 xk' xL' xH', mf_Desk_partial F (nI I) vN cRg fR fQ cfr cft cfs cku ckl ckq cou col coq xk (nI c) xT xB xR xL xH = some (a, fR', fQ', u', v', s', k1, k2, k3, k4, k5, k6, xk', xL', xH') ∧ ck xk' c xT xB xR xL' xH' ∧
      ∃ o, mf_Model_partial F (nI I) vN o0 o1 o2 o3 cn cd cr cnt ro re sq pt pl mi lo hi on tw tA uA tB uB qA qB = some (a, o) := by
  have z1 : ¬ (1 : Int32) = 0 := by decide
  unfold mf_Desk_partial mf_Model_partial
  rw [(rg_in F hI).1, (rg_in F hI).2, sd_b1_s, sd_b1_s, if_neg z1, if_neg z1]
  by_cases n0 : vN < 0
  · rw [if_pos n0, if_pos n0]
    exact ⟨_, _, _, _, _, _, _, _, _, _, _, _, _, _, _, rfl, kx, _, rfl⟩
  · rw [if_neg n0, if_neg n0]
    by_cases n1 : vN ≤ (24 : Int32)
    · obtain ⟨n, hn, rfl⟩ := nI_of2 (n := 24) rfl n0 n1
      rw [if_pos n1, if_pos n1, sd_g_t (sd_ixI hI (by omega))]
      rcases fr_dec c xR with f | f
      · obtain ⟨n1, n2, n3, n4, n5⟩ := fr_nd hx
        obtain ⟨v, e1, e2⟩ := pf_both hF hn (x := fr_n c xT) (y := fr_d c xB) (by omega) (by omega) o0 o1 o2 o3
        rw [(mf_isFraction F xk hx.1 xR).1 f, sd_b1_s, if_neg z1, mf_top F xk hx.1, sd_b1_s, mf_bottom F xk hx.1, sd_b1_s, e1, sd_b1_s, (mm_fraction F hI hx.1 o0 o1 o2 o3 cnt cr xR c1 d3).1 f, sd_b1_s, if_neg z1, sd_g_t (sd_ixI hI (by omega)), mm_n hI hx.1 cnt cn xT c1 d1, sd_b1_s, sd_g_t (sd_ixI hI (by omega)), mm_d hI hx.1 cnt cd xB c1 d2, sd_b1_s, e2, sd_b1_s]
        exact ⟨_, _, _, _, _, _, _, _, _, _, _, _, _, _, _, rfl, kx, _, rfl⟩
      · obtain ⟨f1, f2, u1, v1, s1, L1, H1, g1, g2, g3⟩ := fi_any hF hx kx fR fQ cfr cft cfs
        have kx' : ck 1 c xT xB xR L1 H1 := Or.inr ⟨rfl, g2, g3⟩
        obtain ⟨x, a1, a2, a3, a4⟩ := wh_whole hF g2 (en_lb hx)
        obtain ⟨y, b1, b2, b3, b4⟩ := wh_whole hF g3 (en_hb hx)
        obtain ⟨sl, sh, r1, r2, r3, r4, r5, r6, r7, r8, r9, k1, k2, k3⟩ := re_ends hF hI hx c1 d1 d2 d3 o0 o1 o2 o3 ro re sq pt pl mi lo hi on
        obtain ⟨x', on1, tw1, lf1, a1', a2', a3'⟩ := fo_floorOf hF k2 (en_lb hx) o0 o1 sl sh r9 tw tA
        obtain ⟨y', on2, tw2, lf2, b1', b2', b3'⟩ := fo_floorOf hF k3 (en_hb hx) o0 o1 sl sh on1 tw1 tB
        have exx : x' = x := nj_eq.mpr (a2'.trans a2.symm)
        have eyy : y' = y := nj_eq.mpr (b2'.trans b2.symm)
        subst exx; subst eyy
        rw [(mf_isFraction F xk hx.1 xR).2 f, sd_b1_s, if_pos rfl, g1, sd_b8_s, (mm_fraction F hI hx.1 o0 o1 o2 o3 cnt cr xR c1 d3).2 f, sd_b1_s, if_pos rfl, k1, sd_b11_s, a1', sd_b4_s, b1', sd_b4_s]
        unfold mf_Desk_partialOfEnds mf_Teller_haveSameWhole
        rw [a1, sd_b1_s, b1, sd_b1_s]
        by_cases e : x' = y'
        · rw [if_pos e, if_pos e, sd_b1_s, sd_g_t (by decide), sd_b1_s, if_neg z1]
          rcases Nat.eq_zero_or_pos n with m0 | m0
          · subst m0
            rw [show nI 0 = (0 : Int32) from rfl, if_pos rfl, if_pos rfl, sd_b1_s, sd_b7_s]
            exact ⟨_, _, _, _, _, _, _, _, _, _, _, _, _, _, _, rfl, kx', _, rfl⟩
          · have nz : ¬ nI n = 0 := nI_ne0 m0 (by omega)
            obtain ⟨cu, cl, q1, q2, q3⟩ := ch_begin hF g2 cku ckl
            obtain ⟨du, dl, q4, q5, q6⟩ := ch_begin hF g3 cou col
            obtain ⟨ua1, p1, p2⟩ := rs_set hF (v := 1) (by omega) uA
            have p1' : mf_Model_set F (1 : Int64) uA = some ua1 := p1
            obtain ⟨ua2, p3, p4⟩ := rh_shift hF (n := 1024) p2 (by omega) pt_fits
            have p3' : mf_Model_shift F (1024 : Int32) ua1 = some ua2 := p3
            rw [pt_sh] at p4
            obtain ⟨ub1, p5, p6⟩ := rc_copy hF p4 uB
            have lt1 : (en_low xT xB xR c % ptN).toNat < ptN := by
              have h1 := Int.emod_nonneg (en_low xT xB xR c) (show (ptN : Int) ≠ 0 from Int.ofNat_ne_zero.mpr (Nat.pos_iff_ne_zero.mp ptN_pos))
              have h2 := Int.emod_lt_of_pos (en_low xT xB xR c) (show (0 : Int) < ptN from Int.ofNat_lt.mpr ptN_pos)
              omega
            have lt2 : (en_high xT xB xR c % ptN).toNat < ptN := by
              have h1 := Int.emod_nonneg (en_high xT xB xR c) (show (ptN : Int) ≠ 0 from Int.ofNat_ne_zero.mpr (Nat.pos_iff_ne_zero.mp ptN_pos))
              have h2 := Int.emod_lt_of_pos (en_high xT xB xR c) (show (0 : Int) < ptN from Int.ofNat_lt.mpr ptN_pos)
              omega
            obtain ⟨tg, kq', oq', ku', kl', ou', ol', tg', qA', qB', sq', tA', tB', uA', uB', t1, t2, t3⟩ := pl_loop hF hn o0 o1 sl sh (n - 1) F 1 ckq coq cu cl du dl qA qB r3 lf1 lf2 ua2 ub1 ptN _ ptN _ (by omega) (by omega) q2 q3 q5 q6 a3' p4 b3' p6 pt_65 pt_65 lt1 lt2
            have t1' : mf_Desk_partialOfEnds_L40 (nI n) F F (1 : Int32) ckq coq cu cl du dl = some (tg, kq', oq', ku', kl', ou', ol') := t1
            have t2' : mf_Model_partial_L164 F o0 o1 sl sh (nI n) F (1 : Int32) qA qB r3 lf1 lf2 ua2 ub1 = some (tg', qA', qB', sq', tA', tB', uA', uB') := t2
            rw [if_neg nz, if_neg nz, q1, sd_b2_s, q4, sd_b2_s, t1', sd_b7_s, p1', sd_b1_s, p3', sd_b1_s, p5, sd_b1_s, t2', sd_b8_s]
            rcases t3 with ⟨y1, y2⟩ | ⟨y1, y2, w, y3, y4⟩
            · rw [if_pos y1, sd_b7_s]
              rcases y2 with y2 | y2
              · rw [if_pos y2]
                exact ⟨_, _, _, _, _, _, _, _, _, _, _, _, _, _, _, rfl, kx', _, rfl⟩
              · rw [if_neg (show ¬ tg' = 0 by rw [y2]; decide), if_pos y2]
                exact ⟨_, _, _, _, _, _, _, _, _, _, _, _, _, _, _, rfl, kx', _, rfl⟩
            · rw [if_neg (show ¬ tg = 0 by rw [y1]; decide), ch_told hF y3, sd_b1_s, sd_b7_s, if_neg (show ¬ tg' = 0 by rw [y2]; decide), if_neg (show ¬ tg' = 1 by rw [y2]; decide), pt_told hF y4]
              exact ⟨_, _, _, _, _, _, _, _, _, _, _, _, _, _, _, rfl, kx', _, rfl⟩
        · rw [if_neg e, if_neg e, sd_b1_s, sd_g_t (by decide), sd_b1_s, if_pos rfl, sd_b7_s]
          exact ⟨_, _, _, _, _, _, _, _, _, _, _, _, _, _, _, rfl, kx', _, rfl⟩
    · rw [if_neg n1, if_neg n1]
      exact ⟨_, _, _, _, _, _, _, _, _, _, _, _, _, _, _, rfl, kx, _, rfl⟩
