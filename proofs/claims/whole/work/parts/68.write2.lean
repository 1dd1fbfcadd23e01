/-! write of ENDS -/
theorem np_div (V j r : Nat) : V * 10 ^ (j + r) / ptN / 10 ^ r = V * 10 ^ j / ptN := by
  rw [Nat.pow_add, ← Nat.mul_assoc, Nat.div_div_eq_div_mul, Nat.mul_div_mul_right _ _ (Nat.pow_pos (by omega))]
theorem np_step (V i : Nat) : V * 10 ^ (i + 1) / ptN = V * 10 ^ i / ptN * 10 + V * 10 ^ i % ptN * 10 / ptN ∧ V * 10 ^ (i + 1) % ptN = V * 10 ^ i % ptN * 10 % ptN := by
  have dm := Nat.div_add_mod (V * 10 ^ i) ptN
  have e : V * 10 ^ (i + 1) = V * 10 ^ i % ptN * 10 + ptN * (V * 10 ^ i / ptN * 10) := by
    rw [Nat.pow_succ, ← Nat.mul_assoc]
    generalize V * 10 ^ i / ptN = q at *
    generalize V * 10 ^ i % ptN = m at *
    rw [← dm]; grind
  rw [e]
  constructor
  · rw [Nat.add_mul_div_left _ _ ptN_pos, Nat.add_comm]
  · rw [Nat.add_mul_mod_self_left]
theorem de_loop {F pl : Nat} (hF : 18446744073709551616 ≤ F) (pk : Int32) (hpl : pl ≤ 80) {VL VH : Nat} : ∀ (r fu i : Nat) (a b : Nat → Int32) (l : List Nat) (n : Int32) (p : Nat → Int32), i + r = pl → r < fu → dr_in 65536 (di a) 0 64 → dr 65536 (di a) 0 64 = ((VL * 10 ^ i % ptN : Nat) : Int) → dr_in 65536 (di b) 0 64 → dr 65536 (di b) 0 64 = ((VH * 10 ^ i % ptN : Nat) : Int) → VL * 10 ^ i / ptN = VH * 10 ^ i / ptN → tx l n p → l.length + r ≤ 128 →
    ∃ tg a' b' n' p', mf_Page_draftEnds_L30 (nI pl) F 68 68 pk fu (nI i) a b n p = some (tg, a', b', n', p') ∧ ((tg = 1 ∧ VL * 10 ^ pl / ptN = VH * 10 ^ pl / ptN ∧ tx (l ++ dgs (VL * 10 ^ pl / ptN) r) n' p') ∨ (tg = 0 ∧ ¬ VL * 10 ^ pl / ptN = VH * 10 ^ pl / ptN)) := by
  intro r
  induction r with
  | zero =>
    intro fu i a b l n p h1 h2 h3 h4 h5 h6 h7 h8 h9
    obtain ⟨fu, rfl⟩ : ∃ g, fu = g + 1 := ⟨fu - 1, by omega⟩
    obtain rfl : i = pl := by omega
    rw [mf_Page_draftEnds_L30, nI_ifLe (by omega) (by omega), if_pos (Nat.le_refl _)]
    exact ⟨1, a, b, n, p, rfl, Or.inl ⟨rfl, h7, by rw [dgs, List.append_nil]; exact h8⟩⟩
  | succ r ih =>
    intro fu i a b l n p h1 h2 h3 h4 h5 h6 h7 h8 h9
    obtain ⟨fu, rfl⟩ : ∃ g, fu = g + 1 := ⟨fu - 1, by omega⟩
    obtain ⟨a1, g1, g2, g3, g4⟩ := np_next hF h3 h4
    obtain ⟨b1, g5, g6, g7, g8⟩ := np_next hF h5 h6
    obtain ⟨s1, s2⟩ := np_step VL i
    obtain ⟨s3, s4⟩ := np_step VH i
    have v1 := np_div VL (i + 1) r
    have v2 := np_div VH (i + 1) r
    rw [show i + 1 + r = pl by omega] at v1 v2
    rw [← s2] at g3
    rw [← s4] at g7
    generalize hx : VL * 10 ^ i % ptN * 10 / ptN = x at *
    generalize hy : VH * 10 ^ i % ptN * 10 / ptN = y at *
    rw [mf_Page_draftEnds_L30, nI_ifLe (by omega) (by omega), if_neg (by omega), g1, sd_b2_s, g5, sd_b2_s, nI_ifEq (by omega) (by omega)]
    by_cases c : x = y
    · obtain ⟨n', p', e1, e2⟩ := tx_put F pk h8 (x := 48 + x) (by omega) (by omega)
      have c48 : (48 : Int32) + nI x = nI (48 + x) := nI_add 48 _
      rw [if_pos c, c48, as_chr _ (by omega), e1, sd_b2_s, sd_let_s, nI_1]
      obtain ⟨tg, a', b', n2, p2, k1, k2⟩ := ih fu (i + 1) a1 b1 _ n' p' (by omega) (by omega) g2 g3 g6 g7 (by rw [s1, s3, h7, c]) e2 (by simp; omega)
      refine ⟨tg, a', b', n2, p2, k1, ?_⟩
      have dd : l ++ dgs (VL * 10 ^ pl / ptN) (r + 1) = l ++ [48 + x] ++ dgs (VL * 10 ^ pl / ptN) r := by
        rw [dgs, v1, s1, show (VL * 10 ^ i / ptN * 10 + x) % 10 = x by omega]; simp
      rw [dd]
      exact k2
    · rw [if_neg c]
      refine ⟨0, a1, b1, n, p, rfl, Or.inr ⟨rfl, fun z => c ?_⟩⟩
      rw [z, v2, s1, s3, h7] at v1
      omega
theorem en_bN {v : Nat} (h : v < 65536 ^ 67) : en_b (v : Int) := by
  unfold en_b
  generalize 65536 ^ 67 = y at *
  omega
theorem de_ends {F pl : Nat} (hF : 18446744073709551616 ≤ F) (pk pd : Int32) (cpd : Nat → Int32) (neg : Bool) (hpl : pl ≤ 80) {VL VH k : Nat} {zl zh : Nat → Int32} (hl : en_is zl (VL : Int)) (hh : en_is zh (VH : Int)) (bl : VL < 65536 ^ 67) (bh : VH < 65536 ^ 67) (hk : is_nd (VL / ptN) k) (hk2 : k ≤ 18) :
    ∃ t n' p' zl' zh', mf_Page_draftEnds F 68 68 (if neg then 1 else 0) (nI pl) pk pd cpd zl zh = some (t, n', p', zl', zh') ∧ ((t = 1 ∧ VL * 10 ^ pl / ptN = VH * 10 ^ pl / ptN ∧ tx (txW neg (VL / ptN) k pl ++ dgs (VL * 10 ^ pl / ptN) pl) n' p') ∨ (t = 0 ∧ ¬ VL * 10 ^ pl / ptN = VH * 10 ^ pl / ptN)) := by
  obtain ⟨x, a1, a2, a3, a4⟩ := wh_whole hF hl (en_bN bl)
  obtain ⟨y, b1, b2, b3, b4⟩ := wh_whole hF hh (en_bN bh)
  obtain ⟨-, cl⟩ := en_cut hl
  obtain ⟨-, ch⟩ := en_cut hh
  have ex : x = lN (VL / ptN) := nb_lN (by rw [a2]; exact (Int.natCast_ediv _ _).symm)
  have ey : y = lN (VH / ptN) := nb_lN (by rw [b2]; exact (Int.natCast_ediv _ _).symm)
  have q1 : VL / ptN < 281474976710656 := by
    have : ((VL / ptN : Nat) : Int) = (VL : Int) / ptN := Int.natCast_ediv _ _
    omega
  have q2 : VH / ptN < 281474976710656 := by
    have : ((VH / ptN : Nat) : Int) = (VH : Int) / ptN := Int.natCast_ediv _ _
    omega
  unfold mf_Page_draftEnds
  rw [a1, sd_b1_s, b1, sd_b1_s, ex, ey, lN_ifEq (by omega) (by omega)]
  have v1 := np_div VL 0 pl
  have v2 := np_div VH 0 pl
  rw [Nat.zero_add, Nat.pow_zero, Nat.mul_one] at v1 v2
  by_cases c : VL / ptN = VH / ptN
  · obtain ⟨n1, p1, e1, e2⟩ := pg_whole hF pk pd cpd neg (W := VL / ptN) (k := k) (pl := pl) (by omega) hk hk2 hpl
    have l3 : (txW neg (VL / ptN) k pl).length ≤ 20 := by
      unfold txW
      have ll : (if neg then [45] else ([] : List Nat)).length ≤ 1 := by cases neg <;> decide
      rw [List.length_append, List.length_append, dgs_len]
      by_cases c : pl = 0
      · rw [if_pos c]; simp only [List.length_nil]; omega
      · rw [if_neg c]; simp only [List.length_cons, List.length_nil]; omega
    obtain ⟨tg, a', b', n2, p2, k1, k2⟩ := de_loop (F := F) (pl := pl) hF pk hpl (VL := VL) (VH := VH) pl F 0 zl zh _ n1 p1 (by omega) (by omega) (fun i p q => hl.1 i p (by omega)) (by rw [Nat.pow_zero, Nat.mul_one, ← cl]; exact (Int.natCast_emod _ _).symm) (fun i p q => hh.1 i p (by omega)) (by rw [Nat.pow_zero, Nat.mul_one, ← ch]; exact (Int.natCast_emod _ _).symm) (by rw [Nat.pow_zero, Nat.mul_one, Nat.mul_one]; exact c) e2 (by omega)
    have k1' : mf_Page_draftEnds_L30 (nI pl) F 68 68 pk F 0 zl zh n1 p1 = some (tg, a', b', n2, p2) := k1
    rw [if_pos c, e1, sd_b2_s, k1', sd_b5_s]
    rcases k2 with ⟨t1, t2, t3⟩ | ⟨t1, t2⟩
    · rw [t1, if_neg (by decide)]
      exact ⟨1, n2, p2, a', b', rfl, Or.inl ⟨rfl, t2, t3⟩⟩
    · rw [t1, if_pos rfl]
      exact ⟨0, n2, p2, a', b', rfl, Or.inr ⟨rfl, t2⟩⟩
  · rw [if_neg c]
    exact ⟨0, pd, cpd, zl, zh, rfl, Or.inr ⟨rfl, fun z => c (by rw [← v1, ← v2, z])⟩⟩
/-- the reference: times ten, so often -/
theorem wm_loop {F pl : Nat} (hF : 18446744073709551616 ≤ F) {M : Nat} (hM : M * 10 ^ 81 < 4294967296 ^ 76) (hpl : pl ≤ 80) {VL VH : Nat} (hl : VL ≤ M) (hh : VH ≤ M) : ∀ (r fu i : Nat) (a b : Nat → Int64), i + r = pl → r < fu → ww a (VL * 10 ^ i) → ww b (VH * 10 ^ i) →
    ∃ a' b', mf_Model_write_L132 (nI pl) F fu (nI i) a b = some (a', b') ∧ ww a' (VL * 10 ^ pl) ∧ ww b' (VH * 10 ^ pl) := by
  have big : ∀ V j : Nat, V ≤ M → j ≤ 81 → V * 10 ^ j < 4294967296 ^ 76 := fun V j h1 h2 => by
    have : V * 10 ^ j ≤ M * 10 ^ 81 := Nat.mul_le_mul h1 (Nat.pow_le_pow_right (by omega) h2)
    exact Nat.lt_of_le_of_lt this hM
  intro r
  induction r with
  | zero =>
    intro fu i a b h1 h2 h3 h4
    obtain ⟨fu, rfl⟩ : ∃ g, fu = g + 1 := ⟨fu - 1, by omega⟩
    obtain rfl : i = pl := by omega
    rw [mf_Model_write_L132, nI_ifLe (by omega) (by omega), if_pos (Nat.le_refl _)]
    exact ⟨a, b, rfl, h3, h4⟩
  | succ r ih =>
    intro fu i a b h1 h2 h3 h4
    obtain ⟨fu, rfl⟩ : ∃ g, fu = g + 1 := ⟨fu - 1, by omega⟩
    have eL : VL * 10 ^ (i + 1) = VL * 10 ^ i * 10 := by rw [Nat.pow_succ, Nat.mul_assoc]
    have eH : VH * 10 ^ (i + 1) = VH * 10 ^ i * 10 := by rw [Nat.pow_succ, Nat.mul_assoc]
    obtain ⟨a1, t1, w1⟩ := rm_mul hF (a := 10) h3 (by omega) (by rw [← eL]; exact big VL _ hl (by omega)) (big VL _ hl (by omega))
    obtain ⟨b1, t2, w2⟩ := rm_mul hF (a := 10) h4 (by omega) (by rw [← eH]; exact big VH _ hh (by omega)) (big VH _ hh (by omega))
    have t1' : mf_Model_multiplyRow F 10 a = some a1 := t1
    have t2' : mf_Model_multiplyRow F 10 b = some b1 := t2
    rw [mf_Model_write_L132, nI_ifLe (by omega) (by omega), if_neg (by omega), t1', sd_b1_s, t2', sd_b1_s, sd_let_s, nI_1]
    exact ih fu (i + 1) a1 b1 (by omega) (by omega) (by rw [eL]; exact w1) (by rw [eH]; exact w2)
/-- one digit off -/
theorem dd_loop : ∀ (j fu l : Nat) (u : Nat → Int64), j ≤ 76 → j < fu → l < 10 → dr_in 4294967296 (dj u) 0 j →
    ∃ u' l', mf_Model_digits_L30 fu (lN l) (dnI j) u = some (lN l', u') ∧ l' < 10 ∧ dr_in 4294967296 (dj u') 0 j ∧ (∀ i, j ≤ i → u' i = u i) ∧ (l : Int) * 4294967296 ^ j + dr 4294967296 (dj u) 0 j = 10 * dr 4294967296 (dj u') 0 j + l' := by
  intro j
  induction j with
  | zero =>
    intro fu l u h1 h2 h3 h4
    obtain ⟨fu, rfl⟩ : ∃ g, fu = g + 1 := ⟨fu - 1, by omega⟩
    rw [mf_Model_digits_L30, if_pos dnI_n0]
    exact ⟨u, l, rfl, h3, fun i _ _ => by omega, fun i _ => rfl, by simp [dr_0]⟩
  | succ j ih =>
    intro fu l u h1 h2 h3 h4
    obtain ⟨fu, rfl⟩ : ∃ g, fu = g + 1 := ⟨fu - 1, by omega⟩
    have q1 := h4 j (by omega) (by omega)
    obtain ⟨x, hx⟩ := Int.eq_ofNat_of_zero_le q1.1
    have ux : u j = lN x := nb_lN hx
    have xl : x < 4294967296 := by omega
    have s1 : lN l <<< ((32 : Int32).toInt64 &&& 63) = lN (l * 2 ^ 32) := wb_shl l (k := 32) (by omega)
    have o1 : lN (l * 2 ^ 32) ||| lN x = lN (l * 4294967296 + x) := lS_or (a := l) (b := x) (k := 32) (by omega) (by omega)
    rw [mf_Model_digits_L30, dnI_s, if_neg (dnI_np (by omega)), sd_g_t (sd_ixI (by omega) (by omega)), sd_let_s, nI_clamp (by omega), ux, s1, o1, sd_g_t (sd_ixI (by omega) (by omega)), sd_let_s, sd_let_s, sd_let_s, show (10 : Int64) = lN 10 from rfl, lN_remI (by omega) (by omega) (by omega), lN_divI (by omega) (by omega) (by omega), dnI_d]
    obtain ⟨u', l', g1, g2, g3, g4, g5⟩ := ih fu ((l * 4294967296 + x) % 10) (vp_updL u j (lN ((l * 4294967296 + x) / 10))) (by omega) (by omega) (by omega) (fun i p q => by rw [dj_upd, if_neg (by omega)]; exact h4 i p (by omega))
    have k1 : dj u' j = ((l * 4294967296 + x) / 10 : Nat) := by
      unfold dj; rw [g4 j (Nat.le_refl _), show vp_updL u j (lN ((l * 4294967296 + x) / 10)) j = lN ((l * 4294967296 + x) / 10) from if_pos rfl, lN_bits _ (by omega)]
    have k2 : dr 4294967296 (dj (vp_updL u j (lN ((l * 4294967296 + x) / 10)))) 0 j = dr 4294967296 (dj u) 0 j := dr_congr _ _ _ (fun i p q => by rw [dj_upd, if_neg (by omega)])
    rw [k2] at g5
    refine ⟨u', l', g1, g2, fun i p q => ?_, fun i p => ?_, ?_⟩
    · rcases Nat.lt_or_ge i j with z | z
      · exact g3 i p (by omega)
      · rw [show i = j by omega, k1]; omega
    · rw [g4 i (by omega)]; exact if_neg (by omega)
    · rw [dr_top, dr_top, Nat.zero_add, hx, k1, Int.pow_succ]
      have dm : (10 : Int) * ((l * 4294967296 + x) / 10 : Nat) + ((l * 4294967296 + x) % 10 : Nat) = l * 4294967296 + x := by omega
      generalize ((l * 4294967296 + x) / 10 : Nat) = y1 at *
      generalize ((l * 4294967296 + x) % 10 : Nat) = y2 at *
      generalize dr 4294967296 (dj u) 0 j = y3 at *
      generalize dr 4294967296 (dj u') 0 j = y4 at *
      generalize (4294967296 : Int) ^ j = y5 at *
      grind
theorem dd_one {F : Nat} (hF : 18446744073709551616 ≤ F) {u : Nat → Int64} {N : Nat} (h : ww u N) : ∃ j u', mf_Model_size F u = some (nI j) ∧ mf_Model_digits_L30 F 0 (dnI j) u = some (lN (N % 10), u') ∧ ww u' (N / 10) := by
  obtain ⟨j, a1, a2, a3, a4⟩ := rz_size hF h
  obtain ⟨u', l', g1, g2, g3, g4, g5⟩ := dd_loop j F 0 u a1 (by omega) (by omega) (fun i p q => h.1 i p (by omega))
  have p1 := dr_pos 4294967296 (by decide) j 0 g3
  obtain ⟨q, hq⟩ := Int.eq_ofNat_of_zero_le p1
  rw [ww_lo h a1 a3, hq] at g5
  have e : N = 10 * q + l' := by
    have z : ((0 : Nat) : Int) * 4294967296 ^ j = 0 := Int.zero_mul _
    rw [z] at g5
    omega
  refine ⟨j, u', a2, ?_, ?_⟩
  · have g1' : mf_Model_digits_L30 F 0 (dnI j) u = some (lN l', u') := g1
    rw [g1', show N % 10 = l' by omega]
  · rw [show N / 10 = q by omega]
    exact ww_cut g3 hq a1 (fun i p r => by rw [g4 i p]; exact ww_hi h a3 i p r)
/-- all digits, the lowest first -/
theorem dl_loop {F pl K N : Nat} (hF : 18446744073709551616 ≤ F) (hpl : pl < K) (hK : K ≤ 120) (h0 : N < 10 ^ K) (h1 : ∀ m, m < K → pl < m → 0 < N / 10 ^ m) : ∀ (r fu m : Nat) (u : Nat → Int64) (dg : Nat → Int32), m + r = K → r < fu → ww u (N / 10 ^ m) → (∀ i, i < m → dg i = nI (N / 10 ^ i % 10)) →
    ∃ u' dg', mf_Model_digits_L2 (nI pl) F fu (nI m) u dg = some (nI K, u', dg') ∧ (∀ i, i < K → dg' i = nI (N / 10 ^ i % 10)) := by
  intro r
  induction r with
  | zero =>
    intro fu m u dg e1 e2 e3 e4
    obtain ⟨fu, rfl⟩ : ∃ g, fu = g + 1 := ⟨fu - 1, by omega⟩
    obtain rfl : m = K := by omega
    obtain ⟨j, a1, a2, a3, a4⟩ := rz_size hF e3
    rw [Nat.div_eq_of_lt h0] at a4
    have j0 : j = 0 := by
      rcases a4 with z | z
      · exact z
      · have := Nat.pow_pos (n := j - 1) (show 0 < 4294967296 by omega); omega
    subst j0
    rw [mf_Model_digits_L2, nI_ifLe (by omega) (by omega), if_neg (by omega), a2, sd_b1_s, if_pos (by decide)]
    exact ⟨u, dg, rfl, e4⟩
  | succ r ih =>
    intro fu m u dg e1 e2 e3 e4
    obtain ⟨fu, rfl⟩ : ∃ g, fu = g + 1 := ⟨fu - 1, by omega⟩
    obtain ⟨j, u', b1, b2, b3⟩ := dd_one hF e3
    have jm : nI j - (1 : Int32) = dnI j := by
      rw [← dnI_d, ni_eq, Int32.toInt_sub, Int32.toInt_add]; rfl
    have body : ∃ u2 dg', mf_Model_digits_J17 F (mf_Model_digits_L2 (nI pl) F fu) (nI m) u dg = some (nI K, u2, dg') ∧ (∀ i, i < K → dg' i = nI (N / 10 ^ i % 10)) := by
      unfold mf_Model_digits_J17
      rw [b1, sd_b1_s, sd_let_s, jm, b2, sd_b2_s, sd_g_t (sd_ixI (by omega) (by omega)), sd_let_s, sd_let_s, nI_1, nI_clamp (by omega), lN_i]
      refine ih fu (m + 1) u' _ (by omega) (by omega) ?_ (fun i p => ?_)
      · rw [Nat.pow_succ, ← Nat.div_div_eq_div_mul]; exact b3
      · by_cases z : i = m
        · rw [z]; exact if_pos rfl
        · rw [show upd dg m (nI (N / 10 ^ m % 10)) i = dg i from if_neg z]; exact e4 i (by omega)
    rw [mf_Model_digits_L2, nI_ifLe (by omega) (by omega)]
    by_cases c : m ≤ pl
    · rw [if_pos c]; exact body
    · have j0 : ¬ nI j ≤ 0 := by
        obtain ⟨j', a1, a2, a3, a4⟩ := rz_size hF e3
        have ej : nI j' = nI j := Option.some.inj (a2.symm.trans b1)
        rw [← ej]
        have : 0 < N / 10 ^ m := h1 m (by omega) (by omega)
        have j1 : j' ≠ 0 := fun z => by rw [z, Nat.pow_zero] at a3; omega
        exact nI_nle (by omega) (by omega)
      rw [if_neg c, b1, sd_b1_s, if_neg j0]
      exact body
/-- the digits are said, the highest first -/
theorem ds_low {F pl N K : Nat} (hpl : pl ≤ 80) (o0 o2 o3 : Int32) {dg : Nat → Int32} (hd : ∀ i, i < K → dg i = nI (N / 10 ^ i % 10)) (hK : pl < K) (hK2 : K ≤ 120) : ∀ (j fu : Nat) (l : List Nat) (n : Int32) (p : Nat → Int32), j ≤ pl → j < fu → tx l n p → l.length + j ≤ 128 →
    ∃ n' p', mf_Model_digits_L90 F dg o0 o2 o3 (nI pl) fu (dnI j) n p = some (n', p') ∧ tx (l ++ dgs N j) n' p' := by
  intro j
  induction j with
  | zero =>
    intro fu l n p h1 h2 h3 h4
    obtain ⟨fu, rfl⟩ : ∃ g, fu = g + 1 := ⟨fu - 1, by omega⟩
    rw [mf_Model_digits_L90, if_pos dnI_n0]
    exact ⟨n, p, rfl, by rw [dgs, List.append_nil]; exact h3⟩
  | succ j ih =>
    intro fu l n p h1 h2 h3 h4
    obtain ⟨fu, rfl⟩ : ∃ g, fu = g + 1 := ⟨fu - 1, by omega⟩
    have ml : N / 10 ^ j % 10 < 10 := Nat.mod_lt _ (by omega)
    obtain ⟨n1, p1, e1, e2⟩ := tx_say F o0 o2 o3 h3 (x := 48 + N / 10 ^ j % 10) (by omega) (by omega)
    have c48 : (48 : Int32) + nI (N / 10 ^ j % 10) = nI (48 + N / 10 ^ j % 10) := nI_add 48 _
    rw [mf_Model_digits_L90, dnI_s, if_neg (dnI_np (by omega)), sd_g_t (sd_ixI (by omega) (by omega)), nI_clamp (by omega), hd j (by omega), c48, e1, sd_b2_s, nI_ifEq (by omega) (by omega), if_neg (by omega), sd_b2_s, sd_let_s, dnI_d]
    obtain ⟨n', p', g1, g2⟩ := ih fu _ n1 p1 (by omega) (by omega) e2 (by simp; omega)
    refine ⟨n', p', g1, ?_⟩
    rw [dgs, show l ++ (48 + N / 10 ^ j % 10) :: dgs N j = l ++ [48 + N / 10 ^ j % 10] ++ dgs N j by simp]
    exact g2
theorem ds_high {F pl N K : Nat} (hpl : pl ≤ 80) (o0 o2 o3 : Int32) {dg : Nat → Int32} (hd : ∀ i, i < K → dg i = nI (N / 10 ^ i % 10)) (hK2 : K ≤ 120) : ∀ (i fu : Nat) (l : List Nat) (n : Int32) (p : Nat → Int32), pl + i + 1 ≤ K → i + 1 < fu → tx l n p → l.length + i + 2 ≤ 128 →
    ∃ n' p' fu', mf_Model_digits_L90 F dg o0 o2 o3 (nI pl) fu (dnI (pl + i + 1)) n p = mf_Model_digits_L90 F dg o0 o2 o3 (nI pl) fu' (dnI pl) n' p' ∧ fu' + (i + 1) = fu ∧ tx (l ++ dgs (N / 10 ^ pl) (i + 1) ++ (if pl = 0 then [] else [46])) n' p' := by
  intro i
  induction i with
  | zero =>
    intro fu l n p h1 h2 h3 h4
    obtain ⟨fu, rfl⟩ : ∃ g, fu = g + 1 := ⟨fu - 1, by omega⟩
    have ml : N / 10 ^ pl % 10 < 10 := Nat.mod_lt _ (by omega)
    obtain ⟨n1, p1, e1, e2⟩ := tx_say F o0 o2 o3 h3 (x := 48 + N / 10 ^ pl % 10) (by omega) (by omega)
    have c48 : (48 : Int32) + nI (N / 10 ^ pl % 10) = nI (48 + N / 10 ^ pl % 10) := nI_add 48 _
    have d1 : dgs (N / 10 ^ pl) (0 + 1) = [48 + N / 10 ^ pl % 10] := by rw [dgs, dgs, Nat.pow_zero, Nat.div_one]
    rw [mf_Model_digits_L90, Nat.add_zero, dnI_s, if_neg (dnI_np (by omega)), sd_g_t (sd_ixI (by omega) (by omega)), nI_clamp (by omega), hd pl (by omega), c48, e1, sd_b2_s, if_pos rfl, show (0 : Int32) = nI 0 from rfl, nI_ifLe (by omega) (by omega), d1]
    by_cases c : pl = 0
    · rw [if_pos (by omega), sd_b2_s, sd_let_s, dnI_d, if_pos c, List.append_nil]
      exact ⟨n1, p1, fu, rfl, rfl, e2⟩
    · obtain ⟨n2, p2, e3, e4⟩ := tx_say F o0 o2 o3 e2 (x := 46) (by omega) (by simp; omega)
      have e3' : mf_Model_say F 46 o0 n1 o2 o3 p1 = some (n2, p2) := e3
      rw [if_neg (by omega), e3', sd_b2_s, sd_b2_s, sd_let_s, dnI_d, if_neg c]
      exact ⟨n2, p2, fu, rfl, rfl, e4⟩
  | succ i ih =>
    intro fu l n p h1 h2 h3 h4
    obtain ⟨fu, rfl⟩ : ∃ g, fu = g + 1 := ⟨fu - 1, by omega⟩
    have ml : N / 10 ^ (pl + i + 1) % 10 < 10 := Nat.mod_lt _ (by omega)
    obtain ⟨n1, p1, e1, e2⟩ := tx_say F o0 o2 o3 h3 (x := 48 + N / 10 ^ (pl + i + 1) % 10) (by omega) (by omega)
    have c48 : (48 : Int32) + nI (N / 10 ^ (pl + i + 1) % 10) = nI (48 + N / 10 ^ (pl + i + 1) % 10) := nI_add 48 _
    rw [mf_Model_digits_L90, show pl + (i + 1) + 1 = (pl + i + 1) + 1 by omega, dnI_s, if_neg (dnI_np (by omega)), sd_g_t (sd_ixI (by omega) (by omega)), nI_clamp (by omega), hd (pl + i + 1) (by omega), c48, e1, sd_b2_s, nI_ifEq (by omega) (by omega), if_neg (by omega), sd_b2_s, sd_let_s, dnI_d]
    obtain ⟨n', p', fu', g1, g2, g3⟩ := ih fu _ n1 p1 (by omega) (by omega) e2 (by simp; omega)
    refine ⟨n', p', fu', g1, by omega, ?_⟩
    have dd : l ++ dgs (N / 10 ^ pl) (i + 1 + 1) = l ++ [48 + N / 10 ^ (pl + i + 1) % 10] ++ dgs (N / 10 ^ pl) (i + 1) := by
      rw [dgs, Nat.div_div_eq_div_mul, ← Nat.pow_add, show pl + (i + 1) = pl + i + 1 by omega]; simp
    rw [dd]
    exact g3
theorem dw_digits {F pl N k : Nat} (hF : 18446744073709551616 ≤ F) (hpl : pl ≤ 80) (hk : is_nd (N / 10 ^ pl) k) (hk2 : k ≤ 18) (o0 o2 o3 : Int32) (u : Nat → Int64) (dg : Nat → Int32) (hu : ww u N) (l : List Nat) (n : Int32) (p : Nat → Int32) (hl : tx l n p) (ll : l.length ≤ 1) :
    ∃ n' p' u' dg', mf_Model_digits F (nI pl) o0 n o2 o3 p u dg = some (n', p', u', dg') ∧ tx (l ++ dgs (N / 10 ^ pl) k ++ (if pl = 0 then [] else [46]) ++ dgs N pl) n' p' := by
  have hk0 := hk.1
  have hp : 0 < 10 ^ pl := Nat.pow_pos (by omega)
  obtain ⟨u', dg', a1, a2⟩ := dl_loop (F := F) (pl := pl) (K := pl + k) (N := N) hF (by omega) (by omega) (by
      have := hk.2.1
      rw [Nat.div_lt_iff_lt_mul hp, Nat.mul_comm, ← Nat.pow_add] at this
      exact this) (fun m h1 h2 => by
      rcases hk.2.2 with z | z
      · omega
      · rw [Nat.le_div_iff_mul_le hp, ← Nat.pow_add] at z
        have : 10 ^ m ≤ 10 ^ (k - 1 + pl) := Nat.pow_le_pow_right (by omega) (by omega)
        exact Nat.div_pos (by omega) (Nat.pow_pos (by omega))) (pl + k) F 0 u dg (by omega) (by omega) (by rw [Nat.pow_zero, Nat.div_one]; exact hu) (fun i h => by omega)
  have a1' : mf_Model_digits_L2 (nI pl) F F 0 u dg = some (nI (pl + k), u', dg') := a1
  unfold mf_Model_digits
  have e : nI (pl + k) - (1 : Int32) = dnI (pl + (k - 1) + 1) := by
    rw [show pl + k = pl + (k - 1) + 1 by omega, nI_pred]; rfl
  obtain ⟨n1, p1, fu', b1, b2, b3⟩ := ds_high (F := F) (pl := pl) (N := N) (K := pl + k) hpl o0 o2 o3 a2 (by omega) (k - 1) F l n p (by omega) (by omega) hl (by omega)
  rw [show k - 1 + 1 = k by omega] at b3
  obtain ⟨n2, p2, c1, c2⟩ := ds_low (F := F) (pl := pl) (N := N) (K := pl + k) hpl o0 o2 o3 a2 (by omega) (by omega) pl fu' _ n1 p1 (by omega) (by omega) b3 (by
    rw [List.length_append, List.length_append, dgs_len]
    by_cases c : pl = 0
    · rw [if_pos c]; simp only [List.length_nil]; omega
    · rw [if_neg c]; simp only [List.length_cons, List.length_nil]; omega)
  rw [a1', sd_b3_s, sd_let_s, e, b1, c1, sd_b2_s]
  exact ⟨n2, p2, u', dg', rfl, c2⟩
