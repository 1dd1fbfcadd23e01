/-! the reference's ENDS -/
def sgnI (v : Int) : Int32 := if v = 0 then 0 else if 0 ≤ v then 1 else -1
def re_is (s : Int32) (f : Nat → Int64) (v : Int) : Prop := s = sgnI v ∧ ww f v.natAbs
theorem sgnI_cmp (a b : Nat) : cmpI a b = sgnI ((a : Int) - b) := by
  unfold cmpI sgnI
  by_cases h1 : a = b
  · rw [if_pos h1, if_pos (by omega)]
  · rw [if_neg h1, if_neg (show ¬ (a : Int) - b = 0 by omega)]
    by_cases h2 : b ≤ a
    · rw [if_pos h2, if_pos (show 0 ≤ (a : Int) - b by omega)]
    · rw [if_neg h2, if_neg (show ¬ 0 ≤ (a : Int) - b by omega)]
theorem sgnI_ge {v : Int} {α : Type} {x y : α} : (if 0 ≤ sgnI v then x else y) = if 0 ≤ v then x else y := by
  unfold sgnI
  by_cases h1 : v = 0
  · rw [if_pos h1, if_pos (by decide), if_pos (by omega)]
  · rw [if_neg h1]
    by_cases h2 : 0 ≤ v
    · rw [if_pos h2, if_pos (by decide), if_pos h2]
    · rw [if_neg h2, if_neg (by decide), if_neg h2]
theorem rx_between {F : Nat} (hF : 18446744073709551616 ≤ F) {f g : Nat → Int64} {v w : Nat} (hf : ww f v) (hg : ww g w) (u : Nat → Int64) : ∃ s u', mf_Model_betweenRows F f g u = some (s, u') ∧ re_is s u' ((v : Int) - w) := by
  unfold mf_Model_betweenRows
  rw [rp_compare hF hf hg, sd_b1_s, sgnI_cmp, sgnI_ge]
  by_cases c : 0 ≤ (v : Int) - w
  · obtain ⟨a, t1, w1⟩ := rc_copy hF hf u
    obtain ⟨b, t2, w2⟩ := rb_sub hF w1 hg (by omega)
    rw [if_pos c, t1, sd_b1_s, sgnI_ge, if_pos c, t2, sd_b1_s]
    exact ⟨_, b, rfl, rfl, by rw [show ((v : Int) - w).natAbs = v - w by omega]; exact w2⟩
  · obtain ⟨a, t1, w1⟩ := rc_copy hF hg u
    obtain ⟨b, t2, w2⟩ := rb_sub hF w1 hf (by omega)
    rw [if_neg c, t1, sd_b1_s, sgnI_ge, if_neg c, t2, sd_b1_s]
    exact ⟨_, b, rfl, rfl, by rw [show ((v : Int) - w).natAbs = w - v by omega]; exact w2⟩
theorem en_W76 : 8 * en_W + 100 < 4294967296 ^ 76 := by decide +kernel
theorem re_loop {F I c : Nat} (hF : 18446744073709551616 ≤ F) (hI : I < 8) {T B R : Nat → Int64} (hS : tm_okS c T B R) {cn cd cr : Nat → Int64} {cnt : Nat → Int32} (hc : cnt I = nI c) (h1 : tm_row I c cn T) (h2 : tm_row I c cd B) (h3 : tm_row I c cr R) (o0 o1 o2 o3 : Int32) :
    ∀ (m fu k : Nat) (ro re sq pt pl mi : Nat → Int64) (P M : Nat), k + m = c → m < fu → ww pl P → ww mi M → (P : Int) - M = en_v T B R k → P + M ≤ k * en_W →
    ∃ ro' re' sq' pt' pl' mi' P' M', mf_Model_ends_L26 (nI I) cnt F o0 o1 o2 o3 cn cd cr fu (nI (k - en_g T k)) (nI (en_g T k)) (nI (8 * I + k)) ro re sq pt pl mi = some (nI (c - en_g T c), nI (en_g T c), ro', re', sq', pt', pl', mi') ∧
      ww pl' P' ∧ ww mi' M' ∧ (P' : Int) - M' = en_v T B R c ∧ P' + M' ≤ c * en_W := by
  intro m
  have h8 := hS.1
  induction m with
  | zero =>
    intro fu k ro re sq pt pl mi P M e1 e2 e3 e4 e5 e6
    obtain ⟨fu, rfl⟩ : ∃ g, fu = g + 1 := ⟨fu - 1, by omega⟩
    obtain rfl : k = c := by omega
    rw [mf_Model_ends_L26, sd_g_t (sd_ixI hI (by omega)), nI_8, nI_clamp (by omega), hc, nI_add, nI_ifLe (by omega) (by omega), if_pos (Nat.le_refl _)]
    exact ⟨ro, re, sq, pt, pl, mi, P, M, rfl, e3, e4, e5, e6⟩
  | succ m ih =>
    intro fu k ro re sq pt pl mi P M e1 e2 e3 e4 e5 e6
    obtain ⟨fu, rfl⟩ : ∃ g, fu = g + 1 := ⟨fu - 1, by omega⟩
    obtain ⟨⟨p1, p2, p3⟩, p4, p5, p6, p7⟩ := hS.2.1 k (by omega)
    obtain ⟨t1, t2⟩ := tw_ok (hS.2.1 k (by omega))
    have bd := en_bd hS.2.1 k (by omega)
    have g1 := h1 k (by omega)
    have g2 := h2 k (by omega)
    have g3 := h3 k (by omega)
    obtain ⟨ro', re', sq', pt', w, q1, q2, q3⟩ := me_measure (F := F) (t := 8 * I + k) hF (by omega) o0 o1 o2 o3 (cn := cn) (cd := cd) (cr := cr) (n := (T k).toInt.natAbs) (d := (B k).toInt.toNat) (r := (R k).toInt.toNat)
      (by rw [g1]) (by rw [g2]; exact nj_nat (by omega)) (by rw [g3]; exact nj_nat (by omega)) p1 (by omega) (by omega) (by omega) ro re sq pt
    have ew : w = tw T B R k := is_w_one q3 t1
    subst ew
    have e8 : (k + 1) * en_W = k * en_W + en_W := Nat.succ_mul k en_W
    have e9 : (k + 1) * en_W ≤ 8 * en_W := Nat.mul_le_mul_right _ (by omega)
    have e10 := en_W76
    have z0 : (0 : Int64).toInt = 0 := rfl
    rw [mf_Model_ends_L26, sd_g_t (sd_ixI hI (by omega)), nI_8, nI_clamp (by omega), hc, nI_add, nI_ifLe (by omega) (by omega), if_neg (by omega), q1, sd_b4_s, sd_g_t (sd_ixI (by omega) (by omega)), nI_clamp (by omega), g1]
    by_cases hneg : (T k).toInt < 0
    · have n0 : ¬ (0 : Int64) ≤ T k := fun z => by have := nj_le.mp z; omega
      obtain ⟨mi', a1, a2⟩ := ra_add hF e4 q2 (by omega)
      rw [if_neg n0, a1, sd_b1_s, sd_g_t (sd_ixI (by omega) (by omega)), if_neg n0, sd_let_s, sd_b2_s, sd_let_s, nI_1, nI_1]
      have ge : en_g T (k + 1) = en_g T k + 1 := by rw [en_g, if_pos hneg]
      have := ih fu (k + 1) ro' re' sq' pt' pl mi' P (M + tw T B R k) (by omega) (by omega) e3 a2 (by rw [en_v, if_pos hneg]; omega) (by omega)
      rw [ge, show k + 1 - (en_g T k + 1) = k - en_g T k by omega] at this
      exact this
    · have n0 : (0 : Int64) ≤ T k := nj_le.mpr (by omega)
      obtain ⟨pl', a1, a2⟩ := ra_add hF e3 q2 (by omega)
      rw [if_pos n0, a1, sd_b1_s, sd_g_t (sd_ixI (by omega) (by omega)), if_pos n0, sd_let_s, sd_b2_s, sd_let_s, nI_1, nI_1]
      have ge : en_g T (k + 1) = en_g T k := by rw [en_g, if_neg hneg]
      have := ih fu (k + 1) ro' re' sq' pt' pl' mi (P + tw T B R k) M (by omega) (by omega) a2 e4 (by rw [en_v, if_neg hneg]; omega) (by omega)
      rw [ge, show k + 1 - en_g T k = k - en_g T k + 1 by omega] at this
      exact this
theorem re_ends {F I c : Nat} (hF : 18446744073709551616 ≤ F) (hI : I < 8) {T B R : Nat → Int64} (hS : tm_okS c T B R) {cn cd cr : Nat → Int64} {cnt : Nat → Int32} (hc : cnt I = nI c) (h1 : tm_row I c cn T) (h2 : tm_row I c cd B) (h3 : tm_row I c cr R) (o0 o1 o2 o3 : Int32) (ro re sq pt pl mi lo hi on : Nat → Int64) :
    ∃ sl sh ro' re' sq' pt' pl' mi' lo' hi' on', mf_Model_ends F (nI I) o0 o1 o2 o3 cn cd cr cnt ro re sq pt pl mi lo hi on = some (sl, sh, ro', re', sq', pt', pl', mi', lo', hi', on') ∧ re_is sl lo' (en_low T B R c) ∧ re_is sh hi' (en_high T B R c) := by
  have h8 := hS.1
  obtain ⟨p0, t1, w1⟩ := rs_set hF (v := 0) (by omega) pl
  obtain ⟨m0, t2, w2⟩ := rs_set hF (v := 0) (by omega) mi
  have t1' : mf_Model_set F 0 pl = some p0 := t1
  have t2' : mf_Model_set F 0 mi = some m0 := t2
  obtain ⟨ro', re', sq', pt', pl', mi', P, M, q1, q2, q3, q4, q5⟩ := re_loop hF hI hS hc h1 h2 h3 o0 o1 o2 o3 c F 0 ro re sq pt p0 m0 0 0 (by omega) (by omega) w1 w2 rfl (by omega)
  have bd := en_bd hS.2.1 c (Nat.le_refl _)
  have e9 : c * en_W ≤ 8 * en_W := Nat.mul_le_mul_right _ (by omega)
  have e10 := en_W76
  have q1' : mf_Model_ends_L26 (nI I) cnt F o0 o1 o2 o3 cn cd cr F 0 0 (nI (8 * I)) ro re sq pt p0 m0 = some (nI (c - en_g T c), nI (en_g T c), ro', re', sq', pt', pl', mi') := q1
  obtain ⟨m1, a1, a2⟩ := rq_add hF (s := en_g T c) q3 (by omega) (by omega)
  obtain ⟨sl, lo', b1, b2⟩ := rx_between hF q2 a2 lo
  obtain ⟨on', d1, d2⟩ := rs_set hF (v := en_g T c) (by omega) on
  obtain ⟨m2, f1, f2⟩ := rb_sub hF a2 d2 (by omega)
  obtain ⟨p2, g1, g2⟩ := rq_add hF (s := c - en_g T c) q2 (by omega) (by omega)
  obtain ⟨sh, hi', k1, k2⟩ := rx_between hF g2 f2 hi
  unfold mf_Model_ends
  rw [t1', sd_b1_s, t2', sd_b1_s, sd_let_s, nI_8, q1']
  show ∃ sl sh ro'_1 re'_1 sq'_1 pt'_1 pl'_1 mi'_1 lo'_1 hi'_1 on'_1, sd_b1 (mf_Model_addSmall F (nI (en_g T c)).toInt64 mi') _ = _ ∧ _
  rw [nI_l (by omega), a1, sd_b1_s, b1, sd_b2_s, d1, sd_b1_s, f1, sd_b1_s, nI_l (by omega), g1, sd_b1_s, k1, sd_b2_s]
  refine ⟨sl, sh, ro', re', sq', pt', p2, m2, lo', hi', on', rfl, ?_, ?_⟩
  · rw [show en_low T B R c = (P : Int) - (M + en_g T c : Nat) by unfold en_low; omega]; exact b2
  · rw [show en_high T B R c = ((P + (c - en_g T c) : Nat) : Int) - (M + en_g T c - en_g T c : Nat) by unfold en_high en_low; omega]; exact k2
