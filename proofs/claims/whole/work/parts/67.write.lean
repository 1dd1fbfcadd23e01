/-! write of a fraction, both sides -/
theorem tf_loop (F : Nat) (pk o0 o2 o3 : Int32) {d pl : Nat} (hd0 : 0 < d) (hd : d ≤ 1000000000) (hpl : pl ≤ 80) : ∀ (r fu k x : Nat) (l : List Nat) (n m : Int32) (p q : Nat → Int32), k + r = pl → r < fu → x < d → tx l n p → tx l m q → l.length + r ≤ 128 →
    ∃ l' n' p' m' q', mf_Page_draftFraction_L36 (nI pl) (lN d) F pk fu (lN x) (nI k) n p = some (n', p') ∧ mf_Model_writeFraction_L46 (nI pl) (lN d) F o0 o2 o3 fu (lN x) (nI k) m q = some (m', q') ∧ tx l' n' p' ∧ tx l' m' q' := by
  intro r
  induction r with
  | zero =>
    intro fu k x l n m p q h1 h2 h3 h4 h5 h6
    obtain ⟨fu, rfl⟩ : ∃ g, fu = g + 1 := ⟨fu - 1, by omega⟩
    rw [mf_Page_draftFraction_L36, mf_Model_writeFraction_L46, nI_ifLe (by omega) (by omega), nI_ifLe (by omega) (by omega), if_pos (by omega), if_pos (by omega)]
    exact ⟨l, n, p, m, q, rfl, rfl, h4, h5⟩
  | succ r ih =>
    intro fu k x l n m p q h1 h2 h3 h4 h5 h6
    obtain ⟨fu, rfl⟩ : ∃ g, fu = g + 1 := ⟨fu - 1, by omega⟩
    have dl : x * 10 / d < 10 := by rw [Nat.div_lt_iff_lt_mul hd0]; omega
    obtain ⟨n', p', e1, e2⟩ := tx_put F pk h4 (x := 48 + x * 10 / d) (by omega) (by omega)
    obtain ⟨m', q', e3, e4⟩ := tx_say F o0 o2 o3 h5 (x := 48 + x * 10 / d) (by omega) (by omega)
    have c48 : (48 : Int32) + nI (x * 10 / d) = nI (48 + x * 10 / d) := nI_add 48 _
    rw [mf_Page_draftFraction_L36, mf_Model_writeFraction_L46, nI_ifLe (by omega) (by omega), nI_ifLe (by omega) (by omega), if_neg (show ¬ pl ≤ k by omega), if_neg (show ¬ pl ≤ k by omega)]
    simp only [sd_let_s, sd_zL hd0 (show d < 9223372036854775808 by omega), sd_g_s]
    rw [show (10 : Int64) = lN 10 from rfl, show (48 : Int64) = lN 48 from rfl, lN_mul, lN_remI (by omega) (by omega) (by omega), lN_divI (by omega) (by omega) (by omega), lN_add, lN_i, lN_i, as_chr _ (by omega), c48, e1, e3, sd_b2_s, sd_b2_s, nI_1]
    exact ih fu (k + 1) (x * 10 % d) _ n' m' p' q' (by omega) (by omega) (Nat.mod_lt _ hd0) e2 e4 (by simp; omega)
theorem tf_both {F : Nat} (hF : 18446744073709551616 ≤ F) (pk pd o0 o2 o3 : Int32) (cpd out : Nat → Int32) {vT : Int64} {a d pl : Nat} (hv : vT.toInt.natAbs = a) (ha : a ≤ 1000000000) (hd0 : 0 < d) (hd : d ≤ 1000000000) (hpl : pl ≤ 80) :
    ∃ l n p m q, mf_Page_draftFraction F vT (lN d) (nI pl) pk pd cpd = some (n, p) ∧ mf_Model_writeFraction F vT (lN d) (nI pl) o0 0 o2 o3 out = some (m, q) ∧ tx l n p ∧ tx l m q := by
  have dl : a / d ≤ a := Nat.div_le_self _ _
  obtain ⟨k, k1, k2⟩ := is_nd_ex 9 (a / d) (by omega)
  have ml : a % d < d := Nat.mod_lt _ hd0
  unfold mf_Page_draftFraction mf_Model_writeFraction
  simp only [sd_let_s, sd_zL hd0 (show d < 9223372036854775808 by omega), sd_g_s]
  rw [nj_abs (by omega), hv, lN_divI (by omega) (by omega) (by omega), ]
  have rm : lN a - lN (a / d) * lN d = lN (a % d) := by
    have := lN_remI (a := a) (b := d) (by omega) (by omega) (by omega)
    rw [lN_divI (by omega) (by omega) (by omega)] at this
    exact this
  rw [rm]
  have key : ∀ neg : Bool, (neg = false ↔ (0 : Int64) ≤ vT) → ∃ l n p m q, (sd_b1 (if (0 : Int64) ≤ vT then (some ((0 : Int32))) else (some ((1 : Int32)))) fun y => (sd_b2 (mf_Page_draftWhole F y (lN (a / d)) (nI pl) pk pd cpd) fun upg upd => (sd_b2 (mf_Page_draftFraction_L36 (nI pl) (lN d) F pk F (lN (a % d)) (0 : Int32) upg upd) fun rupg rupd => (some (rupg, rupd))))) = some (n, p) ∧
      (sd_b2 (if (0 : Int64) ≤ vT then (some ((0 : Int32), out)) else (sd_b2 (mf_Model_say F (45 : Int32) o0 (0 : Int32) o2 o3 out) fun umo_1 uaout_1 => (some (umo_1, uaout_1)))) fun umo uaout => (sd_b2 (mf_Model_number 20 (lN (a / d)) o0 umo o2 o3 uaout) fun umo_2 uaout_2 => (sd_b2 (if nI pl ≤ 0 then (some (umo_2, uaout_2)) else (sd_b2 (mf_Model_say F (46 : Int32) o0 umo_2 o2 o3 uaout_2) fun umo_4 uaout_4 => (some (umo_4, uaout_4)))) fun umo_3 uaout_3 => (sd_b2 (mf_Model_writeFraction_L46 (nI pl) (lN d) F o0 o2 o3 F (lN (a % d)) (0 : Int32) umo_3 uaout_3) fun rumo ruaout => (some (rumo, ruaout)))))) = some (m, q) ∧ tx l n p ∧ tx l m q := by
    intro neg hneg
    obtain ⟨n1, p1, e1, e2⟩ := pg_whole hF pk pd cpd neg (W := a / d) (k := k) (pl := pl) (by omega) k1 (by omega) hpl
    have y1 : (if (0 : Int64) ≤ vT then (some ((0 : Int32))) else (some ((1 : Int32)))) = some (if neg then 1 else 0) := by
      cases neg with
      | false => rw [if_pos (hneg.mp rfl)]; rfl
      | true => rw [if_neg (fun z => by have := hneg.mpr z; cases this)]; rfl
    have r1 : ∃ m1 q1, (if (0 : Int64) ≤ vT then (some ((0 : Int32), out)) else (sd_b2 (mf_Model_say F (45 : Int32) o0 (0 : Int32) o2 o3 out) fun umo_1 uaout_1 => (some (umo_1, uaout_1)))) = some (m1, q1) ∧ tx (if neg then [45] else []) m1 q1 := by
      cases neg with
      | false => rw [if_pos (hneg.mp rfl)]; exact ⟨0, out, rfl, tx_nil out⟩
      | true =>
        obtain ⟨m1, q1, g1, g2⟩ := tx_say F o0 o2 o3 (tx_nil out) (x := 45) (by omega) (by decide)
        have g1' : mf_Model_say F 45 o0 0 o2 o3 out = some (m1, q1) := g1
        rw [if_neg (fun z => by have := hneg.mpr z; cases this), g1', sd_b2_s]
        exact ⟨m1, q1, rfl, g2⟩
    obtain ⟨m1, q1, g1, g2⟩ := r1
    have ll : (if neg then [45] else ([] : List Nat)).length ≤ 1 := by cases neg <;> decide
    obtain ⟨m2, q2, g3, g4⟩ := rn_number 20 (a / d) k o0 o2 o3 _ m1 q1 (by omega) k1 (by omega) g2 (by omega)
    have l2 : ((if neg then [45] else ([] : List Nat)) ++ dgs (a / d) k).length ≤ 11 := by rw [List.length_append, dgs_len]; omega
    have r2 : ∃ m3 q3, (if nI pl ≤ 0 then (some (m2, q2)) else (sd_b2 (mf_Model_say F (46 : Int32) o0 m2 o2 o3 q2) fun umo_4 uaout_4 => (some (umo_4, uaout_4)))) = some (m3, q3) ∧ tx (txW neg (a / d) k pl) m3 q3 := by
      rw [show (0 : Int32) = nI 0 from rfl, nI_ifLe (by omega) (by omega)]
      unfold txW
      by_cases c : pl = 0
      · rw [if_pos (by omega), if_pos c, List.append_nil]; exact ⟨m2, q2, rfl, g4⟩
      · obtain ⟨m3, q3, g5, g6⟩ := tx_say F o0 o2 o3 g4 (x := 46) (by omega) (by omega)
        have g5' : mf_Model_say F 46 o0 m2 o2 o3 q2 = some (m3, q3) := g5
        rw [if_neg (by omega), g5', sd_b2_s, if_neg c]; exact ⟨m3, q3, rfl, g6⟩
    obtain ⟨m3, q3, g5, g6⟩ := r2
    have l3 : (txW neg (a / d) k pl).length ≤ 12 := by
      unfold txW
      rw [List.length_append]
      by_cases c : pl = 0
      · rw [if_pos c]; simp only [List.length_nil]; omega
      · rw [if_neg c]; simp only [List.length_cons, List.length_nil]; omega
    obtain ⟨l', n', p', m', q', h1, h2, h3, h4⟩ := tf_loop F pk o0 o2 o3 (d := d) (pl := pl) hd0 hd hpl pl F 0 (a % d) _ n1 m3 p1 q3 (by omega) (by omega) ml e2 g6 (by omega)
    have h1' : mf_Page_draftFraction_L36 (nI pl) (lN d) F pk F (lN (a % d)) 0 n1 p1 = some (n', p') := h1
    have h2' : mf_Model_writeFraction_L46 (nI pl) (lN d) F o0 o2 o3 F (lN (a % d)) 0 m3 q3 = some (m', q') := h2
    refine ⟨l', n', p', m', q', ?_, ?_, h3, h4⟩
    · rw [y1, sd_b1_s, e1, sd_b2_s, h1', sd_b2_s]
    · rw [g1, sd_b2_s, g3, sd_b2_s, g5, sd_b2_s, h2', sd_b2_s]
  by_cases c : (0 : Int64) ≤ vT
  · exact key false ⟨fun _ => c, fun _ => rfl⟩
  · exact key true ⟨fun z => (by cases z), fun z => absurd z c⟩
/-- nextPlace -/
theorem np_loop : ∀ (m fu k : Nat) (c : Int32) (u : Nat → Int32), k + m = 64 → m < fu → dr_in 65536 (di u) k m → 0 ≤ c.toInt → c.toInt ≤ 9 →
    ∃ c' u', mf_Wide_nextPlace_L4 68 fu c (nI k) u = some (c', u') ∧ 0 ≤ c'.toInt ∧ c'.toInt ≤ 9 ∧ dr 65536 (di u') k m + c'.toInt * 65536 ^ m = c.toInt + dr 65536 (di u) k m * 10 ∧ (∀ i, i < k ∨ k + m ≤ i → u' i = u i) ∧ dr_in 65536 (di u') k m := by
  intro m
  induction m with
  | zero =>
    intro fu k c u h1 h2 h3 h4 h5
    obtain ⟨fu, rfl⟩ : ∃ g, fu = g + 1 := ⟨fu - 1, by omega⟩
    rw [mf_Wide_nextPlace_L4, show (64 : Int32) = nI 64 from rfl, nI_ifLe (by omega) (by omega), if_pos (by omega)]
    exact ⟨c, u, rfl, h4, h5, by simp [dr_0], fun i _ => rfl, fun i _ _ => by omega⟩
  | succ m ih =>
    intro fu k c u h1 h2 h3 h4 h5
    obtain ⟨fu, rfl⟩ : ∃ g, fu = g + 1 := ⟨fu - 1, by omega⟩
    have q1 := h3 k (by omega) (by omega)
    have e2 : (u k * (10 : Int32)).toInt = di u k * 10 := by unfold di at *; rw [ni_mul] <;> rw [show (10 : Int32).toInt = 10 from rfl] <;> omega
    have e3 : (c + u k * (10 : Int32)).toInt = c.toInt + di u k * 10 := by rw [ni_add] <;> rw [e2] <;> omega
    rw [mf_Wide_nextPlace_L4, show (64 : Int32) = nI 64 from rfl, nI_ifLe (by omega) (by omega), if_neg (by omega)]
    simp only [sd_ixI (show k < 68 by omega) (show k < 2147483648 by omega), sd_g_s, sd_let_s, nI_1, nI_clamp (show k < 2 ^ 31 by omega)]
    generalize hx : c + u k * (10 : Int32) = x at e3
    have f1 := nb_i16 x
    have f3 := nb_ri16 x
    obtain ⟨c', u', g1, g2, g3, g4, g5, g6⟩ := ih fu (k + 1) (x >>> ((16 : Int32) &&& 31)) (upd u k (x &&& (65535 : Int32))) (by omega) (by omega) (fun i p q => by rw [di_upd, if_neg (by omega)]; exact h3 i (by omega) (by omega)) (by omega) (by omega)
    refine ⟨c', u', g1, g2, g3, ?_, ?_, ?_⟩
    · have g7 : u' k = x &&& (65535 : Int32) := by
        rw [g5 _ (Or.inl (by omega))]; exact if_pos rfl
      have g8 : dr 65536 (di (upd u k (x &&& (65535 : Int32)))) (k + 1) m = dr 65536 (di u) (k + 1) m :=
        dr_congr _ m _ (fun i p q => by rw [di_upd, if_neg (by omega)])
      rw [g8, f3] at g4
      rw [dr_s, dr_s, Int.pow_succ]
      have g9 : di u' k = x.toInt % 65536 := by unfold di; rw [g7]; exact f1
      rw [g9]
      have g10 := Int.emod_add_mul_ediv x.toInt 65536
      generalize dr 65536 (di u') (k + 1) m = y1 at *
      generalize dr 65536 (di u) (k + 1) m = y2 at *
      generalize (65536 : Int) ^ m = y4 at *
      generalize x.toInt % 65536 = z1 at *
      generalize x.toInt / 65536 = z2 at *
      grind
    · intro i p
      rw [g5 i (by omega)]
      exact if_neg (by omega)
    · intro i p q
      rcases Nat.eq_or_lt_of_le p with z | z
      · rw [← z]
        unfold di
        rw [g5 _ (Or.inl (by omega)), show upd u k (x &&& (65535 : Int32)) k = x &&& (65535 : Int32) from if_pos rfl, f1]
        omega
      · exact g6 i (by omega) (by omega)
theorem np_next {F : Nat} (hF : 18446744073709551616 ≤ F) {u : Nat → Int32} {x : Nat} (h1 : dr_in 65536 (di u) 0 64) (h2 : dr 65536 (di u) 0 64 = (x : Int)) :
    ∃ u', mf_Wide_nextPlace F 68 u = some (nI (x * 10 / ptN), u') ∧ dr_in 65536 (di u') 0 64 ∧ dr 65536 (di u') 0 64 = ((x * 10 % ptN : Nat) : Int) ∧ x * 10 / ptN < 10 := by
  obtain ⟨c', u', g1, g2, g3, g4, g5, g6⟩ := np_loop 64 F 0 0 u (by omega) (by omega) h1 (by decide) (by decide)
  have g1' : mf_Wide_nextPlace_L4 68 F 0 0 u = some (c', u') := g1
  have l1 := dr_pos 65536 (by decide) 64 0 g6
  have l2 := dr_lt 65536 (by decide) 64 0 g6
  rw [pt_pow] at g4 l2
  obtain ⟨lo, hlo⟩ := Int.eq_ofNat_of_zero_le l1
  obtain ⟨c, hc⟩ := Int.eq_ofNat_of_zero_le g2
  rw [hlo] at l2
  rw [hlo, hc, h2, show (0 : Int32).toInt = 0 from rfl] at g4
  have e : x * 10 = lo + ptN * c := by
    have : ((x * 10 : Nat) : Int) = ((lo + ptN * c : Nat) : Int) := by
      rw [Int.natCast_add, Int.natCast_mul, Int.natCast_mul, Int.mul_comm (ptN : Int)]; omega
    exact Int.ofNat.inj this
  have d1 : x * 10 / ptN = c := by rw [e, Nat.add_mul_div_left _ _ ptN_pos, Nat.div_eq_of_lt (Int.ofNat_lt.mp l2), Nat.zero_add]
  have d2 : x * 10 % ptN = lo := by rw [e, Nat.add_mul_mod_self_left, Nat.mod_eq_of_lt (Int.ofNat_lt.mp l2)]
  unfold mf_Wide_nextPlace
  rw [g1', sd_b2_s, d1, d2]
  refine ⟨u', ?_, g6, hlo, by omega⟩
  have : c' = nI c := by rw [ni_eq, nI_toInt (by omega)]; exact hc
  rw [this]
