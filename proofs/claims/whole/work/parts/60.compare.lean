/-! compare, both sides -/
theorem sd_b6_s {t1 t2 t3 t4 t5 t6 β : Type} (a : t1) (b : t2) (c : t3) (d : t4) (e : t5) (f : t6) (k : t1 → t2 → t3 → t4 → t5 → t6 → Option β) : sd_b6 (some (a, b, c, d, e, f)) k = k a b c d e f := rfl
theorem sd_b7_s {t1 t2 t3 t4 t5 t6 t7 β : Type} (a : t1) (b : t2) (c : t3) (d : t4) (e : t5) (f : t6) (g : t7) (k : t1 → t2 → t3 → t4 → t5 → t6 → t7 → Option β) : sd_b7 (some (a, b, c, d, e, f, g)) k = k a b c d e f g := rfl
theorem sd_b8_s {t1 t2 t3 t4 t5 t6 t7 t8 β : Type} (a : t1) (b : t2) (c : t3) (d : t4) (e : t5) (f : t6) (g : t7) (h : t8) (k : t1 → t2 → t3 → t4 → t5 → t6 → t7 → t8 → Option β) : sd_b8 (some (a, b, c, d, e, f, g, h)) k = k a b c d e f g h := rfl
theorem sd_b9_s {t1 t2 t3 t4 t5 t6 t7 t8 t9 β : Type} (a : t1) (b : t2) (c : t3) (d : t4) (e : t5) (f : t6) (g : t7) (h : t8) (i : t9) (k : t1 → t2 → t3 → t4 → t5 → t6 → t7 → t8 → t9 → Option β) : sd_b9 (some (a, b, c, d, e, f, g, h, i)) k = k a b c d e f g h i := rfl
theorem sd_b11_s {t1 t2 t3 t4 t5 t6 t7 t8 t9 t10 t11 β : Type} (a : t1) (b : t2) (c : t3) (d : t4) (e : t5) (f : t6) (g : t7) (h : t8) (i : t9) (j : t10) (l : t11) (k : t1 → t2 → t3 → t4 → t5 → t6 → t7 → t8 → t9 → t10 → t11 → Option β) : sd_b11 (some (a, b, c, d, e, f, g, h, i, j, l)) k = k a b c d e f g h i j l := rfl
/-- what a register keeps of its ENDS -/
def ck (k : Int32) (c : Nat) (T B R : Nat → Int64) (L H : Nat → Int32) : Prop := k = 0 ∨ (k = 1 ∧ en_is L (en_low T B R c) ∧ en_is H (en_high T B R c))
theorem fi_any {F c : Nat} (hF : 18446744073709551616 ≤ F) {T B R : Nat → Int64} (hS : tm_okS c T B R) {k : Int32} {L H : Nat → Int32} (hk : ck k c T B R L H) (e1 e2 : Int64) (u v s : Nat → Int32) :
    ∃ e1' e2' u' v' s' L' H', mf_EndsFinder_find F e1 e2 u v s k (nI c) T B R L H = some (e1', e2', u', v', s', 1, L', H') ∧ en_is L' (en_low T B R c) ∧ en_is H' (en_high T B R c) := by
  rcases hk with rfl | ⟨rfl, h1, h2⟩
  · exact fi_find hF hS e1 e2 u v s L H
  · unfold mf_EndsFinder_find
    rw [if_neg (by decide)]
    exact ⟨e1, e2, u, v, s, L, H, rfl, h1, h2⟩
theorem compare_both {F : Nat} (hF : 18446744073709551616 ≤ F) {c m I J : Nat} (hI : I < 8) (hJ : J < 8) (cRg : Nat → Option Nat) (fR fQ : Int64) (cfr cft cfs xL xH yL yH : Nat → Int32) (xk yk o0 o1 o2 o3 : Int32) (cnt : Nat → Int32) (cn cd cr xT xB xR yT yB yR ro re sq pt pl mi lo hi on ol oh : Nat → Int64)
    (hx : tm_okS c xT xB xR) (hy : tm_okS m yT yB yR) (kx : ck xk c xT xB xR xL xH) (ky : ck yk m yT yB yR yL yH) (c1 : cnt I = nI c) (c2 : cnt J = nI m) (d1 : tm_row I c cn xT) (d2 : tm_row I c cd xB) (d3 : tm_row I c cr xR) (e1 : tm_row J m cn yT) (e2 : tm_row J m cd yB) (e3 : tm_row J m cr yR) :
    ∃ a fR' fQ' u' v' s' xk' xL' xH' yk' yL' yH', mf_Desk_compare F (nI I) (nI J) cRg fR fQ cfr cft cfs xk (nI c) xT xB xR xL xH yk (nI m) yT yB yR yL yH = some (a, fR', fQ', u', v', s', xk', xL', xH', yk', yL', yH') ∧ ck xk' c xT xB xR xL' xH' ∧ ck yk' m yT yB yR yL' yH' ∧
      ∃ o, mf_Model_compare F (nI I) (nI J) o0 o1 o2 o3 cn cd cr cnt ro re sq pt pl mi lo hi on ol oh = some (a, o) := by
  obtain ⟨v, s1, s2, s3, s4⟩ := same_both hF hI hJ xk yk o0 o1 o2 o3 cnt cn cd cr xT xB xR yT yB yR hx.1 hy.1 c1 c2 d1 d2 d3 e1 e2 e3
  have z1 : ¬ (1 : Int32) = 0 := by decide
  unfold mf_Desk_compare mf_Model_compare
  rw [(rg_in F hI).1, (rg_in F hI).2, sd_b1_s, sd_b1_s, if_neg z1, if_neg z1, (rg_in F hJ).1, (rg_in F hJ).2, sd_b1_s, sd_b1_s, if_neg z1, if_neg z1, sd_g_t (sd_ixI hI (by omega)), sd_g_t (sd_ixI hJ (by omega)), s1, s2, sd_b1_s, sd_b1_s]
  rcases s3 with q | q
  · subst q
    obtain ⟨f1, f2, u1, v1, s1', L1, H1, g1, g2, g3⟩ := fi_any hF hx kx fR fQ cfr cft cfs
    obtain ⟨f3, f4, u2, v2, s2', L2, H2, g4, g5, g6⟩ := fi_any hF hy ky f1 f2 u1 v1 s1'
    obtain ⟨sl, sh, r1, r2, r3, r4, r5, r6, r7, r8, r9, k1, k2, k3⟩ := re_ends hF hJ hy c2 e1 e2 e3 o0 o1 o2 o3 ro re sq pt pl mi lo hi on
    obtain ⟨ol', k4, k5⟩ := rc_copy hF k2.2 ol
    obtain ⟨oh', k6, k7⟩ := rc_copy hF k3.2 oh
    obtain ⟨sl2, sh2, t1, t2, t3, t4, t5, t6, t7, t8, t9, k8, k9, k10⟩ := re_ends hF hI hx c1 d1 d2 d3 o0 o1 sl sh r1 r2 r3 r4 r5 r6 r7 r8 r9
    have b1 := rI_below hF k10 (⟨k2.1, k5⟩ : re_is sl ol' (en_low yT yB yR m))
    have b2 := rI_below hF (⟨k3.1, k7⟩ : re_is sh oh' (en_high yT yB yR m)) k9
    rw [if_pos rfl, if_pos rfl, sd_g_t (sd_ixI hI (by omega)), g1, sd_b8_s, sd_g_t (sd_ixI hJ (by omega)), g4, sd_b8_s, sd_g_t (sd_ixI hI (by omega)), sd_g_t (sd_ixI hJ (by omega)), wr_order hF _ _ _ _ g2 g3 g5 g6, sd_b1_s, k1, sd_b11_s, k4, sd_b1_s, k6, sd_b1_s, k8, sd_b11_s, b1, sd_b1_s]
    refine ⟨_, f3, f4, u2, v2, s2', 1, L1, H1, 1, L2, H2, rfl, Or.inr ⟨rfl, g2, g3⟩, Or.inr ⟨rfl, g5, g6⟩, ?_⟩
    unfold ordI
    by_cases p : en_high xT xB xR c < en_low yT yB yR m
    · rw [if_pos p, if_pos p, if_neg z1]; exact ⟨_, rfl⟩
    · rw [if_neg p, if_neg p, if_pos rfl, b2, sd_b1_s]
      by_cases p2 : en_high yT yB yR m < en_low xT xB xR c
      · rw [if_pos p2, if_pos p2, if_neg z1, sd_b1_s]; exact ⟨_, rfl⟩
      · rw [if_neg p2, if_neg p2, if_pos rfl, sd_b1_s]; exact ⟨_, rfl⟩
  · subst q
    rw [if_neg z1, if_neg z1]
    exact ⟨0, fR, fQ, cfr, cft, cfs, xk, xL, xH, yk, yL, yH, rfl, kx, ky, _, rfl⟩
theorem compare_self {F : Nat} (hF : 18446744073709551616 ≤ F) {c I : Nat} (hI : I < 8) (cRg : Nat → Option Nat) (fR fQ : Int64) (cfr cft cfs xL xH : Nat → Int32) (xk o0 o1 o2 o3 : Int32) (cnt : Nat → Int32) (cn cd cr xT xB xR ro re sq pt pl mi lo hi on ol oh : Nat → Int64)
    (hx : tm_okS c xT xB xR) (c1 : cnt I = nI c) (d1 : tm_row I c cn xT) (d2 : tm_row I c cd xB) (d3 : tm_row I c cr xR) :
    mf_Desk_compare2 F (nI I) (nI I) cRg fR fQ cfr cft cfs xk (nI c) xT xB xR xL xH = some (0, fR, fQ, cfr, cft, cfs, xk, xL, xH) ∧
      ∃ o, mf_Model_compare F (nI I) (nI I) o0 o1 o2 o3 cn cd cr cnt ro re sq pt pl mi lo hi on ol oh = some (0, o) := by
  obtain ⟨v, s1, s2, s3, s4⟩ := same_both hF hI hI xk xk o0 o1 o2 o3 cnt cn cd cr xT xB xR xT xB xR hx.1 hx.1 c1 c1 d1 d2 d3 d1 d2 d3
  have z1 : ¬ (1 : Int32) = 0 := by decide
  have v1 : v = 1 := s4.mpr ⟨rfl, fun _ _ => rfl, fun _ _ => rfl, fun _ _ => rfl⟩
  subst v1
  unfold mf_Desk_compare2 mf_Model_compare
  rw [(rg_in F hI).1, (rg_in F hI).2, sd_b1_s, sd_b1_s, if_neg z1, if_neg z1, sd_b1_s, sd_b1_s, if_neg z1, if_neg z1, sd_g_t (sd_ixI hI (by omega)), sd_g_t (sd_ixI hI (by omega)), s1, s2, sd_b1_s, sd_b1_s, if_neg z1, if_neg z1]
  exact ⟨rfl, _, rfl⟩
