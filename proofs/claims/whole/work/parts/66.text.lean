/-! what is written: codes, one by one -/
theorem as_nar : ∀ n, n < 128 → vp_nar .byte ((nI n).toInt8.toInt32) = nI n := by decide +kernel
theorem as_chr : ∀ n, n < 128 → ((nI n).toUInt32 % 65536).toInt32 = nI n := by decide +kernel
theorem as_255 : ∀ n, n < 128 → nI n &&& 255 = nI n := by decide +kernel
def tx (l : List Nat) (n : Int32) (p : Nat → Int32) : Prop := n = nI l.length ∧ l.length ≤ 128 ∧ ∀ j, j < l.length → ∃ c, l[j]? = some c ∧ p j = nI c ∧ c < 128
theorem tx_nil (p : Nat → Int32) : tx [] 0 p := ⟨rfl, by decide, fun j h => absurd h (by simp)⟩
theorem tx_add {l : List Nat} {n : Int32} {p : Nat → Int32} (h : tx l n p) {x : Nat} (hx : x < 128) (hl : l.length < 128) : tx (l ++ [x]) (nI (l.length + 1)) (upd p l.length (nI x)) := by
  refine ⟨by simp, by simp; omega, fun j hj => ?_⟩
  simp at hj
  rcases Nat.lt_or_ge j l.length with z | z
  · obtain ⟨c, a1, a2, a3⟩ := h.2.2 j z
    refine ⟨c, by rw [List.getElem?_append_left z]; exact a1, ?_, a3⟩
    rw [← a2]; exact if_neg (by omega)
  · have e : j = l.length := by omega
    subst e
    refine ⟨x, by rw [List.getElem?_append_right (Nat.le_refl _)]; simp, if_pos rfl, hx⟩
theorem tx_put (F : Nat) (k : Int32) {l : List Nat} {n : Int32} {p : Nat → Int32} (h : tx l n p) {x : Nat} (hx : x < 128) (hl : l.length < 128) : ∃ n' p', mf_Page_put F (nI x) k n p = some (n', p') ∧ tx (l ++ [x]) n' p' := by
  refine ⟨_, _, ?_, tx_add h hx hl⟩
  unfold mf_Page_put
  rw [h.1, show (128 : Int32) = nI 128 from rfl, nI_ifLe (by omega) (by omega), if_neg (by omega), sd_g_t (sd_ixI hl (by omega)), sd_let_s, sd_let_s, nI_1, nI_clamp (by omega), as_nar x hx, sd_b2_s]
theorem tx_say (F : Nat) (o0 o2 o3 : Int32) {l : List Nat} {n : Int32} {p : Nat → Int32} (h : tx l n p) {x : Nat} (hx : x < 128) (hl : l.length < 128) : ∃ n' p', mf_Model_say F (nI x) o0 n o2 o3 p = some (n', p') ∧ tx (l ++ [x]) n' p' := by
  refine ⟨_, _, ?_, tx_add h hx hl⟩
  unfold mf_Model_say
  rw [h.1, sd_g_t (sd_ixI hl (by omega)), sd_let_s, sd_let_s, nI_1, nI_clamp (by omega), as_nar x hx]
theorem tx_out {l : List Nat} {n m : Int32} {p q : Nat → Int32} (h1 : tx l n p) (h2 : tx l m q) : n = nI l.length ∧ m = nI l.length ∧ out_same l.length p q := by
  refine ⟨h1.1, h2.1, h1.2.1, fun j hj => ?_⟩
  obtain ⟨c, a1, a2, a3⟩ := h1.2.2 j hj
  obtain ⟨d, b1, b2, b3⟩ := h2.2.2 j hj
  have e : c = d := Option.some.inj (a1.symm.trans b1)
  subst e
  exact ⟨a2.trans b2.symm, by rw [a2]; exact as_255 c a3⟩
/-- the last k digits of v, to base ten -/
def dgs (v : Nat) : Nat → List Nat
  | 0 => []
  | k + 1 => (48 + v / 10 ^ k % 10) :: dgs v k
theorem dgs_len (v : Nat) : ∀ k, (dgs v k).length = k := by
  intro k
  induction k with
  | zero => rfl
  | succ k ih => rw [dgs, List.length_cons, ih]
theorem dgs_cat (v : Nat) : ∀ a b, dgs v (a + b) = dgs (v / 10 ^ b) a ++ dgs v b := by
  intro a b
  induction a with
  | zero => rw [Nat.zero_add, dgs]; rfl
  | succ a ih => rw [show a + 1 + b = a + b + 1 by omega, dgs, ih, dgs, List.cons_append, Nat.div_div_eq_div_mul, ← Nat.pow_add, Nat.add_comm b a]
theorem dgs_back (v k : Nat) : dgs v (k + 1) = dgs (v / 10) k ++ [48 + v % 10] := by
  rw [dgs_cat v k 1, Nat.pow_one, dgs, dgs, Nat.pow_zero, Nat.div_one]
theorem dgs_mod {v w : Nat} : ∀ k, v % 10 ^ k = w % 10 ^ k → dgs v k = dgs w k := by
  intro k
  induction k with
  | zero => intro _; rfl
  | succ k ih =>
    intro h
    have hk : v % 10 ^ k = w % 10 ^ k := by
      have a : v % 10 ^ (k + 1) % 10 ^ k = v % 10 ^ k := Nat.mod_mod_of_dvd v (Nat.pow_dvd_pow 10 (by omega))
      have b : w % 10 ^ (k + 1) % 10 ^ k = w % 10 ^ k := Nat.mod_mod_of_dvd w (Nat.pow_dvd_pow 10 (by omega))
      rw [← a, h, b]
    have hd : v / 10 ^ k % 10 = w / 10 ^ k % 10 := by
      have a : v % 10 ^ (k + 1) = v % 10 ^ k + 10 ^ k * (v / 10 ^ k % 10) := Nat.mod_pow_succ
      have b : w % 10 ^ (k + 1) = w % 10 ^ k + 10 ^ k * (w / 10 ^ k % 10) := Nat.mod_pow_succ
      rw [a, b, hk] at h
      exact Nat.eq_of_mul_eq_mul_left (Nat.pow_pos (by omega)) (Nat.add_left_cancel h)
    rw [dgs, dgs, hd, ih hk]
/-- so many digits a number has -/
def is_nd (v k : Nat) : Prop := 0 < k ∧ v < 10 ^ k ∧ (k = 1 ∨ 10 ^ (k - 1) ≤ v)
theorem is_nd_one {v b c : Nat} (h1 : is_nd v b) (h2 : is_nd v c) : b = c := by
  have key : ∀ {b c : Nat}, is_nd v b → is_nd v c → ¬ b < c := by
    intro b c h1 h2 h
    rcases h2.2.2 with z | z
    · have := h1.1; omega
    · have : 10 ^ b ≤ 10 ^ (c - 1) := Nat.pow_le_pow_right (by omega) (by omega)
      have := h1.2.1
      omega
  have := key h1 h2
  have := key h2 h1
  omega
theorem is_nd_ex : ∀ (f v : Nat), v < 10 ^ (f + 1) → ∃ k, is_nd v k ∧ k ≤ f + 1 := by
  intro f
  induction f with
  | zero => intro v h; exact ⟨1, ⟨by omega, h, Or.inl rfl⟩, by omega⟩
  | succ f ih =>
    intro v h
    rcases Nat.lt_or_ge v (10 ^ (f + 1)) with z | z
    · obtain ⟨k, a, b⟩ := ih v z
      exact ⟨k, a, by omega⟩
    · exact ⟨f + 2, ⟨by omega, h, Or.inr z⟩, by omega⟩
theorem is_nd_div {v k : Nat} (h : is_nd v (k + 1)) (hk : 0 < k) : is_nd (v / 10) k ∧ 9 < v := by
  obtain ⟨h1, h2, h3⟩ := h
  have g : 10 ^ k ≤ v := by
    rcases h3 with z | z
    · omega
    · exact z
  obtain ⟨j, rfl⟩ : ∃ j, k = j + 1 := ⟨k - 1, by omega⟩
  rw [Nat.pow_succ] at g h2
  have pj : 0 < 10 ^ j := Nat.pow_pos (by omega)
  refine ⟨⟨hk, ?_, Or.inr ?_⟩, by omega⟩
  · omega
  · rw [show j + 1 - 1 = j by omega]; omega
/-- the class's unit -/
theorem pg_unit {W k : Nat} (hW : W < 9223372036854775808) (hk : is_nd W k) (hk2 : k ≤ 18) : ∀ (r fu m : Nat), m + 1 + r = k → r < fu → mf_Page_draftWhole_L21 (lN W) fu (lN (10 ^ m)) (nI m) = some (lN (10 ^ (k - 1))) := by
  have p18 : ∀ m, m ≤ 18 → 10 ^ m ≤ 1000000000000000000 := fun m hm => by
    have : 10 ^ m ≤ 10 ^ 18 := Nat.pow_le_pow_right (by omega) hm
    exact this
  intro r
  induction r with
  | zero =>
    intro fu m h1 h2
    obtain ⟨fu, rfl⟩ : ∃ g, fu = g + 1 := ⟨fu - 1, by omega⟩
    have := p18 m (by omega)
    have hlt : W / 10 < 10 ^ m := by
      have h := hk.2.1
      rw [show k = m + 1 by omega, Nat.pow_succ] at h
      omega
    rw [mf_Page_draftWhole_L21, show (18 : Int32) = nI 18 from rfl, nI_ifLe (by omega) (by omega), if_neg (by omega), show (10 : Int64) = lN 10 from rfl, lN_divI (by omega) (by omega) (by omega), lN_ifLt (by omega) (by omega), if_pos hlt, show k - 1 = m by omega]
  | succ r ih =>
    intro fu m h1 h2
    obtain ⟨fu, rfl⟩ : ∃ g, fu = g + 1 := ⟨fu - 1, by omega⟩
    have := p18 m (by omega)
    have hge : ¬ W / 10 < 10 ^ m := by
      rcases hk.2.2 with z | z
      · omega
      · have : 10 ^ (m + 1) ≤ 10 ^ (k - 1) := Nat.pow_le_pow_right (by omega) (by omega)
        rw [Nat.pow_succ] at this
        omega
    rw [mf_Page_draftWhole_L21, show (18 : Int32) = nI 18 from rfl, nI_ifLe (by omega) (by omega), if_neg (by omega), show (10 : Int64) = lN 10 from rfl, lN_divI (by omega) (by omega) (by omega), lN_ifLt (by omega) (by omega), if_neg hge, sd_let_s, sd_let_s, lN_mul, nI_1, ← Nat.pow_succ]
    exact ih fu (m + 1) (by omega) (by omega)
theorem pg_digits (F : Nat) (pk : Int32) {W : Nat} (hW : W < 9223372036854775808) : ∀ (m fu : Nat) (l : List Nat) (n : Int32) (p : Nat → Int32), m ≤ 17 → m + 1 < fu → tx l n p → l.length + m + 1 ≤ 128 →
    ∃ n' p', mf_Page_draftWhole_L57 F (lN W) pk fu (lN (10 ^ m)) n p = some (n', p') ∧ tx (l ++ dgs W (m + 1)) n' p' := by
  intro m
  induction m with
  | zero =>
    intro fu l n p h1 h2 h3 h4
    obtain ⟨fu, rfl⟩ : ∃ g, fu = g + 1 + 1 := ⟨fu - 2, by omega⟩
    have w1 : W / 1 ≤ W := Nat.div_le_self _ _
    obtain ⟨n', p', e1, e2⟩ := tx_put F pk h3 (x := 48 + W / 1 % 10) (by omega) (by omega)
    rw [mf_Page_draftWhole_L57, Nat.pow_zero, show (0 : Int64) = lN 0 from rfl, lN_ifLe (by omega) (by omega), if_neg (by omega), sd_g_t (sd_zL (by omega) (by omega)), show (10 : Int64) = lN 10 from rfl, show (48 : Int64) = lN 48 from rfl, lN_divI (by omega) (by omega) (by omega), lN_remI (by omega) (by omega) (by omega), lN_add, lN_i, as_chr _ (by omega), e1, sd_b2_s, sd_let_s, lN_divI (by omega) (by omega) (by omega), mf_Page_draftWhole_L57, if_pos (by decide)]
    exact ⟨n', p', rfl, e2⟩
  | succ m ih =>
    intro fu l n p h1 h2 h3 h4
    obtain ⟨fu, rfl⟩ : ∃ g, fu = g + 1 := ⟨fu - 1, by omega⟩
    have p17 : 10 ^ (m + 1) ≤ 10 ^ 17 := Nat.pow_le_pow_right (by omega) h1
    have p0 : 0 < 10 ^ (m + 1) := Nat.pow_pos (by omega)
    have w1 : W / 10 ^ (m + 1) ≤ W := Nat.div_le_self _ _
    have md : W / 10 ^ (m + 1) % 10 < 10 := Nat.mod_lt _ (by omega)
    obtain ⟨n', p', e1, e2⟩ := tx_put F pk h3 (x := 48 + W / 10 ^ (m + 1) % 10) (by omega) (by omega)
    rw [mf_Page_draftWhole_L57, show (0 : Int64) = lN 0 from rfl, lN_ifLe (by omega) (by omega), if_neg (by omega), sd_g_t (sd_zL (by omega) (by omega)), show (10 : Int64) = lN 10 from rfl, show (48 : Int64) = lN 48 from rfl, lN_divI (by omega) (by omega) (by omega), lN_remI (by omega) (by omega) (by omega), lN_add, lN_i, as_chr _ (by omega), e1, sd_b2_s, sd_let_s, lN_divI (by omega) (by omega) (by omega)]
    have ed : 10 ^ (m + 1) / 10 = 10 ^ m := by rw [Nat.pow_succ]; exact Nat.mul_div_cancel _ (by omega)
    rw [ed]
    obtain ⟨n2, p2, g1, g2⟩ := ih fu (l ++ [48 + W / 10 ^ (m + 1) % 10]) n' p' (by omega) (by omega) e2 (by simp; omega)
    refine ⟨n2, p2, g1, ?_⟩
    rw [dgs, show l ++ (48 + W / 10 ^ (m + 1) % 10) :: dgs W (m + 1) = l ++ [48 + W / 10 ^ (m + 1) % 10] ++ dgs W (m + 1) by simp]
    exact g2
/-- sign, whole part, point -/
def txW (neg : Bool) (W k pl : Nat) : List Nat := (if neg then [45] else []) ++ dgs W k ++ (if pl = 0 then [] else [46])
theorem pg_whole {F : Nat} (hF : 18446744073709551616 ≤ F) (pk pd : Int32) (cpd : Nat → Int32) (neg : Bool) {W k pl : Nat} (hW : W < 9223372036854775808) (hk : is_nd W k) (hk2 : k ≤ 18) (hpl : pl ≤ 80) :
    ∃ n' p', mf_Page_draftWhole F (if neg then 1 else 0) (lN W) (nI pl) pk pd cpd = some (n', p') ∧ tx (txW neg W k pl) n' p' := by
  unfold mf_Page_draftWhole
  have s1 : ∃ n1 p1, (if (if neg then (1 : Int32) else 0) = 0 then (some ((0 : Int32), cpd)) else (sd_b2 (mf_Page_put F (45 : Int32) pk (0 : Int32) cpd) fun upg_1 upd_1 => (some (upg_1, upd_1)))) = some (n1, p1) ∧ tx (if neg then [45] else []) n1 p1 := by
    cases neg with
    | false => exact ⟨0, cpd, rfl, tx_nil cpd⟩
    | true =>
      obtain ⟨n', p', e1, e2⟩ := tx_put F pk (tx_nil cpd) (x := 45) (by omega) (by decide)
      have e1' : mf_Page_put F 45 pk 0 cpd = some (n', p') := e1
      refine ⟨n', p', ?_, e2⟩
      rw [if_neg (by decide), e1', sd_b2_s]
  obtain ⟨n1, p1, a1, a2⟩ := s1
  have hk0 := hk.1
  have u1 := pg_unit hW hk hk2 (k - 1) F 0 (by omega) (by omega)
  have u1' : mf_Page_draftWhole_L21 (lN W) F 1 0 = some (lN (10 ^ (k - 1))) := u1
  have ll : (if neg then [45] else ([] : List Nat)).length ≤ 1 := by cases neg <;> decide
  obtain ⟨n2, p2, b1, b2⟩ := pg_digits F pk hW (k - 1) F _ n1 p1 (by omega) (by omega) a2 (by omega)
  rw [show k - 1 + 1 = k by omega] at b2
  rw [a1, sd_b2_s, u1', sd_b1_s, b1, sd_b2_s, show (0 : Int32) = nI 0 from rfl, nI_ifLe (by omega) (by omega)]
  unfold txW
  by_cases c : pl = 0
  · rw [if_pos (by omega), sd_b2_s, if_pos c, List.append_nil]
    exact ⟨n2, p2, rfl, b2⟩
  · have l2 : ((if neg then [45] else ([] : List Nat)) ++ dgs W k).length ≤ 19 := by rw [List.length_append, dgs_len]; omega
    obtain ⟨n', p', e1, e2⟩ := tx_put F pk b2 (x := 46) (by omega) (by omega)
    have e1' : mf_Page_put F 46 pk n2 p2 = some (n', p') := e1
    rw [if_neg (by omega), e1', sd_b2_s, sd_b2_s, if_neg c]
    exact ⟨n', p', rfl, e2⟩
/-- the reference's number -/
theorem rn_number : ∀ (G v k : Nat) (o0 o2 o3 : Int32) (l : List Nat) (n : Int32) (p : Nat → Int32), v < 9223372036854775808 → is_nd v k → k ≤ G → tx l n p → l.length + k ≤ 128 →
    ∃ n' p', mf_Model_number G (lN v) o0 n o2 o3 p = some (n', p') ∧ tx (l ++ dgs v k) n' p' := by
  intro G
  induction G with
  | zero => intro v k o0 o2 o3 l n p h1 h2 h3; have := h2.1; omega
  | succ G ih =>
    intro v k o0 o2 o3 l n p h1 h2 h3 h4 h5
    have hk := h2.1
    obtain ⟨j, rfl⟩ : ∃ j, k = j + 1 := ⟨k - 1, by omega⟩
    have c48 : ∀ x : Nat, x < 10 → (48 : Int32) + nI x = nI (48 + x) := fun x _ => nI_add 48 x
    rw [mf_Model_number, show (9 : Int64) = lN 9 from rfl, show (10 : Int64) = lN 10 from rfl, lN_ifLe (by omega) (by omega), lN_divI (by omega) (by omega) (by omega)]
    have rm : lN v - lN (v / 10) * lN 10 = lN (v % 10) := by
      have := lN_remI (a := v) (b := 10) (by omega) (by omega) (by omega)
      rw [lN_divI (by omega) (by omega) (by omega)] at this
      exact this
    rw [rm, lN_i, c48 _ (by omega), dgs_back]
    rcases Nat.eq_zero_or_pos j with z | z
    · subst z
      have h9 := h2.2.1
      obtain ⟨n', p', e1, e2⟩ := tx_say G o0 o2 o3 h4 (x := 48 + v % 10) (by omega) (by omega)
      rw [if_pos (by omega), sd_b2_s, e1, sd_b2_s]
      exact ⟨n', p', rfl, e2⟩
    · obtain ⟨a, b⟩ := is_nd_div h2 z
      obtain ⟨n1, p1, e1, e2⟩ := ih (v / 10) j o0 o2 o3 l n p (by omega) a (by omega) h4 (by omega)
      obtain ⟨n', p', e3, e4⟩ := tx_say G o0 o2 o3 e2 (x := 48 + v % 10) (by omega) (by rw [List.length_append, dgs_len]; omega)
      rw [if_neg (by omega), e1, sd_b2_s, sd_b2_s, e3, sd_b2_s, ← List.append_assoc]
      exact ⟨n', p', rfl, e4⟩
