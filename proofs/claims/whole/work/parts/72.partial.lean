/-! the chain of ENDS: the reference's division, and both sides in step -/
theorem rv_loop {F D M : Nat} (hF : 18446744073709551616 ≤ F) (hM : M * 8 + 8 < 4294967296 ^ 76) : ∀ (m fu : Nat) (qu to sq : Nat → Int64) (Q X U : Nat), m ≤ 2000 → m < fu → ww qu Q → ww to X → (0 < m → ww sq (D * 2 ^ (m - 1))) → (m = 0 → ∃ s, ww sq s) → X < D * 2 ^ m → U = D * (Q * 2 ^ m) + X → U ≤ M → 0 < D →
    ∃ qu' to' sq' s, mf_Model_divideRows_L41 F fu (dnI m) qu to sq = some (qu', to', sq') ∧ ww qu' (U / D) ∧ ww to' (U % D) ∧ ww sq' s := by
  intro m
  induction m with
  | zero =>
    intro fu qu to sq Q X U h1 h2 h3 h4 h5 h6 h7 h8 h9 h10
    obtain ⟨fu, rfl⟩ : ∃ g, fu = g + 1 := ⟨fu - 1, by omega⟩
    obtain ⟨s, hs⟩ := h6 rfl
    rw [mf_Model_divideRows_L41, if_pos dnI_n0]
    rw [Nat.pow_zero, Nat.mul_one] at h7 h8
    have e1 : U / D = Q := by rw [h8, Nat.mul_add_div h10, Nat.div_eq_of_lt h7, Nat.add_zero]
    have e2 : U % D = X := by rw [h8, Nat.mul_add_mod, Nat.mod_eq_of_lt h7]
    exact ⟨qu, to, sq, s, rfl, by rw [e1]; exact h3, by rw [e2]; exact h4, hs⟩
  | succ k ih =>
    intro fu qu to sq Q X U h1 h2 h3 h4 h5 h6 h7 h8 h9 h10
    obtain ⟨fu, rfl⟩ : ∃ g, fu = g + 1 := ⟨fu - 1, by omega⟩
    have hs := h5 (by omega)
    rw [show k + 1 - 1 = k by omega] at hs
    obtain ⟨sq', t1, w1⟩ := ru_unshift hF (n := 1) hs (by omega)
    have t1' : mf_Model_unshift F 1 sq = some sq' := t1
    have w1k : 0 < k → ww sq' (D * 2 ^ (k - 1)) := fun hk => by
      have e : D * 2 ^ k / 2 ^ 1 = D * 2 ^ (k - 1) := by
        obtain ⟨j, rfl⟩ : ∃ j, k = j + 1 := ⟨k - 1, by omega⟩
        rw [Nat.pow_one, Nat.pow_succ, ← Nat.mul_assoc, Nat.mul_div_cancel _ (by omega), show j + 1 - 1 = j by omega]
      rw [e] at w1
      exact w1
    have pk : 0 < 2 ^ k := Nat.pow_pos (by omega)
    have QU : Q ≤ U := by
      have a1 : Q * 1 ≤ Q * 2 ^ (k + 1) := Nat.mul_le_mul_left _ (Nat.pow_pos (by omega))
      have a2 : 1 * (Q * 2 ^ (k + 1)) ≤ D * (Q * 2 ^ (k + 1)) := Nat.mul_le_mul_right _ h10
      omega
    have e2 : D * 2 ^ (k + 1) = 2 * (D * 2 ^ k) := by rw [Nat.pow_succ]; grind
    rw [e2] at h7
    have ps : ∀ q : Nat, q * 2 ^ (k + 1) = 2 * q * 2 ^ k := fun q => by rw [Nat.pow_succ]; grind
    rw [ps] at h8
    rw [mf_Model_divideRows_L41, dnI_s, if_neg (dnI_np (by omega)), rp_compare hF h4 hs, sd_b1_s, cmpI_neg, dnI_d]
    by_cases c : X < D * 2 ^ k
    · obtain ⟨q1, t6, w6⟩ := rt_twice hF h3 (show 0 ≤ 1 by omega) (by omega)
      have t6' : mf_Model_twice F 0 qu = some q1 := t6
      rw [if_pos c, sd_b1_s, if_pos rfl, sd_b1_s, if_pos rfl, sd_b1_s, t6', sd_b1_s, t1', sd_b1_s, sd_let_s]
      exact ih fu q1 to sq' (2 * Q + 0) X U (by omega) (by omega) w6 h4 w1k (fun _ => ⟨_, w1⟩) c (by rw [Nat.add_zero]; exact h8) h9 h10
    · obtain ⟨to1, t7, w7⟩ := rb_sub hF h4 hs (by omega)
      obtain ⟨q1, t6, w6⟩ := rt_twice hF h3 (show 1 ≤ 1 by omega) (by omega)
      have t6' : mf_Model_twice F 1 qu = some q1 := t6
      rw [if_neg c, sd_b1_s, if_neg (by decide), t7, sd_b1_s, sd_b1_s, if_neg (by decide), sd_b1_s, t6', sd_b1_s, t1', sd_b1_s, sd_let_s]
      exact ih fu q1 to1 sq' (2 * Q + 1) (X - D * 2 ^ k) U (by omega) (by omega) w6 w7 w1k (fun _ => ⟨_, w1⟩) (by omega) (by
        have : D * ((2 * Q + 1) * 2 ^ k) = D * (2 * Q * 2 ^ k) + D * 2 ^ k := by generalize 2 ^ k = y; grind
        omega) h9 h10
theorem pw_1100 : (2 : Nat) ^ 1100 * 8 + 8 < 4294967296 ^ 76 := by decide +kernel
theorem rv_divide {F U D : Nat} (hF : 18446744073709551616 ≤ F) (hU : U < 2 ^ 1100) (hD : D < 2 ^ 1100) (hD0 : 0 < D) {to un : Nat → Int64} (h1 : ww to U) (h2 : ww un D) (o0 o1 o2 o3 : Int32) (sq qu : Nat → Int64) :
    ∃ sq' to' qu', mf_Model_divideRows F o0 o1 o2 o3 sq to un qu = some (sq', to', qu') ∧ ww to' (U % D) ∧ ww qu' (U / D) := by
  obtain ⟨q0, a1, a2⟩ := rs_set hF (v := 0) (by omega) qu
  obtain ⟨bt, b1, b2, b3⟩ := rl_bits hF h1
  obtain ⟨bd, c1, c2, c3⟩ := rl_bits hF h2
  have small : ∀ {v b : Nat}, v < 2 ^ 1100 → is_bl v b → b ≤ 1100 := fun {v b} h g => by
    rcases g.2 with z | z
    · omega
    · rcases Nat.lt_or_ge 1100 b with y | y
      · exfalso
        have : 2 ^ 1100 ≤ 2 ^ (b - 1) := Nat.pow_le_pow_right (by omega) (by omega)
        omega
      · exact y
  have bt1 := small hU b2
  have bd1 := small hD c2
  have a1' : mf_Model_set F 0 qu = some q0 := a1
  have by_ : (if (0 : Int32) < nI bt - nI bd then nI bt - nI bd else (0 : Int32)) = nI (bt - bd) := by
    have s : (nI bt - nI bd).toInt = (bt : Int) - bd := by rw [ni_sub] <;> rw [nI_toInt (by omega), nI_toInt (by omega)] <;> omega
    by_cases z : (0 : Int32) < nI bt - nI bd
    · have := ni_lt.mp z
      rw [s, show (0 : Int32).toInt = 0 from rfl] at this
      rw [if_pos z, nI_sub (by omega) (by omega)]
    · have : ¬ (0 : Int32).toInt < (nI bt - nI bd).toInt := fun y => z (ni_lt.mpr y)
      rw [s, show (0 : Int32).toInt = 0 from rfl] at this
      rw [if_neg z, show bt - bd = 0 by omega]; rfl
  obtain ⟨s1, d1, d2⟩ := rc_copy hF h2 sq
  have fits : D * 2 ^ (bt - bd) < 4294967296 ^ 76 := by
    have e1 : D * 2 ^ (bt - bd) < 2 ^ bd * 2 ^ (bt - bd) := Nat.mul_lt_mul_of_pos_right c2.1 (Nat.pow_pos (by omega))
    rw [← Nat.pow_add] at e1
    have e2 : 2 ^ (bd + (bt - bd)) ≤ 2 ^ 1100 := Nat.pow_le_pow_right (by omega) (by omega)
    have e3 := pw_1100
    generalize 2 ^ 1100 = y at *
    omega
  obtain ⟨s2, e1, e2⟩ := rh_shift hF (n := bt - bd) d2 (by omega) fits
  have Xl : U < D * 2 ^ (bt - bd + 1) := by
    have g1 : 2 ^ (bd - 1) ≤ D := by
      rcases c2.2 with z | z
      · rw [z]; exact hD0
      · exact z
    have g2 : 2 ^ (bd - 1) * 2 ^ (bt - bd + 1) ≤ D * 2 ^ (bt - bd + 1) := Nat.mul_le_mul_right _ g1
    rw [← Nat.pow_add] at g2
    have g3 : 2 ^ bt ≤ 2 ^ (bd - 1 + (bt - bd + 1)) := Nat.pow_le_pow_right (by omega) (by
      rcases c2.2 with z | z
      · have := c2.1; rw [z] at this; omega
      · have bd0 : bd ≠ 0 := fun y => by have := c2.1; rw [y] at this; omega
        omega)
    have := b2.1
    omega
  obtain ⟨qu', to', sq', s, f1, f2, f3, f4⟩ := rv_loop (F := F) (D := D) (M := 2 ^ 1100) hF pw_1100 (bt - bd + 1) F q0 to s2 0 U U (by omega) (by omega) a2 h1 (fun _ => by rw [show bt - bd + 1 - 1 = bt - bd by omega]; exact e2) (fun z => by omega) Xl (by rw [Nat.zero_mul, Nat.mul_zero, Nat.zero_add]) (Nat.le_of_lt hU) hD0
  rw [dnI_s] at f1
  unfold mf_Model_divideRows
  rw [a1', sd_b1_s, b1, sd_b1_s, c1, sd_b1_s, sd_let_s, by_, d1, sd_b1_s, e1, sd_b1_s, f1, sd_b3_s]
  exact ⟨sq', to', qu', rfl, f3, f2⟩
/-- exchange -/
theorem rx_loop (f g : Nat → Int64) : ∀ (m fu k : Nat) (a b : Nat → Int64), k + m = 76 → m < fu → (∀ i, i < k → a i = g i ∧ b i = f i) → (∀ i, k ≤ i → i < 76 → a i = f i ∧ b i = g i) →
    ∃ a' b', mf_Model_exchange_L2 fu (nI k) a b = some (a', b') ∧ (∀ i, i < 76 → a' i = g i ∧ b' i = f i) := by
  intro m
  induction m with
  | zero =>
    intro fu k a b h1 h2 h3 h4
    obtain ⟨fu, rfl⟩ : ∃ g, fu = g + 1 := ⟨fu - 1, by omega⟩
    rw [mf_Model_exchange_L2, show (76 : Int32) = nI 76 from rfl, nI_ifLe (by omega) (by omega), if_pos (by omega)]
    exact ⟨a, b, rfl, fun i p => h3 i (by omega)⟩
  | succ m ih =>
    intro fu k a b h1 h2 h3 h4
    obtain ⟨fu, rfl⟩ : ∃ g, fu = g + 1 := ⟨fu - 1, by omega⟩
    rw [mf_Model_exchange_L2, show (76 : Int32) = nI 76 from rfl, nI_ifLe (by omega) (by omega), if_neg (by omega)]
    simp only [sd_ixI (show k < 76 by omega) (show k < 2147483648 by omega), sd_g_s, sd_let_s, nI_1, nI_clamp (show k < 2 ^ 31 by omega)]
    have hk := h4 k (by omega) (by omega)
    refine ih fu (k + 1) _ _ (by omega) (by omega) (fun i p => ?_) (fun i p q => ?_)
    · unfold vp_updL
      by_cases z : i = k
      · rw [if_pos z, if_pos z, z]; exact ⟨hk.2, hk.1⟩
      · rw [if_neg z, if_neg z]; exact h3 i (by omega)
    · unfold vp_updL
      rw [if_neg (by omega), if_neg (by omega)]; exact h4 i (by omega) q
theorem rx_exchange {F v w : Nat} (hF : 18446744073709551616 ≤ F) {f g : Nat → Int64} (hf : ww f v) (hg : ww g w) : ∃ a b, mf_Model_exchange F f g = some (a, b) ∧ ww a w ∧ ww b v := by
  obtain ⟨a, b, e1, e2⟩ := rx_loop f g 76 F 0 f g (by omega) (by omega) (fun i p => by omega) (fun i _ _ => ⟨rfl, rfl⟩)
  have e1' : mf_Model_exchange_L2 F 0 f g = some (a, b) := e1
  unfold mf_Model_exchange
  rw [e1', sd_b2_s]
  exact ⟨a, b, rfl, ww_ext hg (fun i p => (e2 i p).1), ww_ext hf (fun i p => (e2 i p).2)⟩
theorem sz_zero {F v : Nat} (hF : 18446744073709551616 ≤ F) {f : Nat → Int64} (hf : ww f v) : ∃ s : Int32, mf_Model_size F f = some s ∧ (s = 0 ↔ v = 0) := by
  obtain ⟨j, a1, a2, a3, a4⟩ := rz_size hF hf
  refine ⟨nI j, a2, ?_⟩
  rw [show (0 : Int32) = nI 0 from rfl, nI_eq (by omega) (by omega)]
  constructor
  · intro z; rw [z, Nat.pow_zero] at a3; omega
  · intro z
    rcases a4 with y | y
    · exact y
    · rw [z] at y
      have := Nat.pow_pos (n := j - 1) (show 0 < 4294967296 by omega)
      omega
theorem pw_pt : 65536 ^ 65 < 2 ^ 1100 := by decide +kernel
/-- both loops in step -/
theorem pl_loop {F n : Nat} (hF : 18446744073709551616 ≤ F) (hn : n ≤ 24) (o0 o1 o2 o3 : Int32) : ∀ (r fu k : Nat) (kq oq ku kl ou ol : Nat → Int32) (qA qB sq tA tB uA uB : Nat → Int64) (U1 L1 U2 L2 : Nat), k + r = n → r + 1 < fu → cw ku U1 → cw kl L1 → cw ou U2 → cw ol L2 → ww tA L1 → ww uA U1 → ww tB L2 → ww uB U2 → U1 < 65536 ^ 65 → U2 < 65536 ^ 65 → L1 < U1 → L2 < U2 →
    ∃ tg kq' oq' ku' kl' ou' ol' tg' qA' qB' sq' tA' tB' uA' uB', mf_Desk_partialOfEnds_L40 (nI n) F fu (nI k) kq oq ku kl ou ol = some (tg, kq', oq', ku', kl', ou', ol') ∧ mf_Model_partial_L164 F o0 o1 o2 o3 (nI n) fu (nI k) qA qB sq tA tB uA uB = some (tg', qA', qB', sq', tA', tB', uA', uB') ∧
      ((tg = 0 ∧ (tg' = 0 ∨ tg' = 1)) ∨ (tg = 1 ∧ tg' = 2 ∧ ∃ v, cw kq' v ∧ ww qA' v)) := by
  intro r
  induction r with
  | zero =>
    intro fu k kq oq ku kl ou ol qA qB sq tA tB uA uB U1 L1 U2 L2 h1 h2 a1 a2 a3 a4 b1 b2 b3 b4 c1 c2 c3 c4
    obtain ⟨fu, rfl⟩ : ∃ g, fu = g + 1 + 1 := ⟨fu - 2, by omega⟩
    obtain rfl : k = n := by omega
    obtain ⟨g1, g2⟩ := ch_goOn hF a1 a2 c1 c3 kq
    obtain ⟨g3, g4⟩ := ch_goOn hF a3 a4 c2 c4 oq
    obtain ⟨s1, s2, s3⟩ := sz_zero hF b1
    obtain ⟨s4, s5, s6⟩ := sz_zero hF b3
    have hpt := pw_pt
    rw [mf_Desk_partialOfEnds_L40, mf_Model_partial_L164, nI_ifLt (by omega) (by omega), if_neg (by omega), s2, sd_b1_s]
    by_cases z1 : L1 = 0
    · rw [g1 z1, sd_b4_s, if_pos rfl, if_pos (s3.mpr z1)]
      exact ⟨_, _, _, _, _, _, _, _, _, _, _, _, _, _, _, rfl, rfl, Or.inl ⟨rfl, Or.inl rfl⟩⟩
    · obtain ⟨u1', q1', g5, g6, g7⟩ := g2 (by omega)
      rw [g5, sd_b4_s, if_neg (by decide), if_neg (fun z => z1 (s3.mp z)), s5, sd_b1_s]
      by_cases z2 : L2 = 0
      · rw [g3 z2, sd_b4_s, if_pos rfl, if_pos (s6.mpr z2)]
        exact ⟨_, _, _, _, _, _, _, _, _, _, _, _, _, _, _, rfl, rfl, Or.inl ⟨rfl, Or.inl rfl⟩⟩
      · obtain ⟨u2', q2', g8, g9, g10⟩ := g4 (by omega)
        obtain ⟨x1, x2, k1, k2, k3⟩ := rx_exchange hF b1 b2
        obtain ⟨x3, x4, k4, k5, k6⟩ := rx_exchange hF b3 b4
        obtain ⟨y1, y2, y3, k7, k8, k9⟩ := rv_divide hF (U := U1) (D := L1) (by omega) (by omega) (by omega) k2 k3 o0 o1 o2 o3 sq qA
        obtain ⟨y4, y5, y6, k10, k11, k12⟩ := rv_divide hF (U := U2) (D := L2) (by omega) (by omega) (by omega) k5 k6 o0 o1 o2 o3 y1 qB
        rw [g8, sd_b4_s, if_neg (by decide), ch_agrees hF g7 g10, sd_b1_s, if_neg (fun z => z2 (s6.mp z)), k1, sd_b2_s, k4, sd_b2_s, k7, sd_b3_s, k10, sd_b3_s, rp_compare hF k9 k12, sd_b1_s]
        unfold cmpI
        by_cases q : U1 / L1 = U2 / L2
        · rw [if_pos q, if_neg (by decide), sd_let_s, nI_1, mf_Desk_partialOfEnds_L40, nI_ifLt (by omega) (by omega), if_pos (by omega), if_pos q, if_pos rfl, if_pos rfl]
          exact ⟨_, _, _, _, _, _, _, _, _, _, _, _, _, _, _, rfl, rfl, Or.inr ⟨rfl, rfl, _, g7, k9⟩⟩
        · rw [if_neg q, if_pos rfl, if_neg q]
          by_cases q4 : U2 / L2 ≤ U1 / L1
          · rw [if_pos q4, if_neg (by decide)]
            exact ⟨_, _, _, _, _, _, _, _, _, _, _, _, _, _, _, rfl, rfl, Or.inl ⟨rfl, Or.inr rfl⟩⟩
          · rw [if_neg q4, if_neg (by decide)]
            exact ⟨_, _, _, _, _, _, _, _, _, _, _, _, _, _, _, rfl, rfl, Or.inl ⟨rfl, Or.inr rfl⟩⟩
  | succ r ih =>
    intro fu k kq oq ku kl ou ol qA qB sq tA tB uA uB U1 L1 U2 L2 h1 h2 a1 a2 a3 a4 b1 b2 b3 b4 c1 c2 c3 c4
    obtain ⟨fu, rfl⟩ : ∃ g, fu = g + 1 := ⟨fu - 1, by omega⟩
    obtain ⟨g1, g2⟩ := ch_goOn hF a1 a2 c1 c3 kq
    obtain ⟨g3, g4⟩ := ch_goOn hF a3 a4 c2 c4 oq
    obtain ⟨s1, s2, s3⟩ := sz_zero hF b1
    obtain ⟨s4, s5, s6⟩ := sz_zero hF b3
    have hpt := pw_pt
    rw [mf_Desk_partialOfEnds_L40, mf_Model_partial_L164, nI_ifLt (by omega) (by omega), if_neg (by omega), s2, sd_b1_s]
    by_cases z1 : L1 = 0
    · rw [g1 z1, sd_b4_s, if_pos rfl, if_pos (s3.mpr z1)]
      exact ⟨_, _, _, _, _, _, _, _, _, _, _, _, _, _, _, rfl, rfl, Or.inl ⟨rfl, Or.inl rfl⟩⟩
    · obtain ⟨u1', q1', g5, g6, g7⟩ := g2 (by omega)
      rw [g5, sd_b4_s, if_neg (by decide), if_neg (fun z => z1 (s3.mp z)), s5, sd_b1_s]
      by_cases z2 : L2 = 0
      · rw [g3 z2, sd_b4_s, if_pos rfl, if_pos (s6.mpr z2)]
        exact ⟨_, _, _, _, _, _, _, _, _, _, _, _, _, _, _, rfl, rfl, Or.inl ⟨rfl, Or.inl rfl⟩⟩
      · obtain ⟨u2', q2', g8, g9, g10⟩ := g4 (by omega)
        obtain ⟨x1, x2, k1, k2, k3⟩ := rx_exchange hF b1 b2
        obtain ⟨x3, x4, k4, k5, k6⟩ := rx_exchange hF b3 b4
        obtain ⟨y1, y2, y3, k7, k8, k9⟩ := rv_divide hF (U := U1) (D := L1) (by omega) (by omega) (by omega) k2 k3 o0 o1 o2 o3 sq qA
        obtain ⟨y4, y5, y6, k10, k11, k12⟩ := rv_divide hF (U := U2) (D := L2) (by omega) (by omega) (by omega) k5 k6 o0 o1 o2 o3 y1 qB
        rw [g8, sd_b4_s, if_neg (by decide), ch_agrees hF g7 g10, sd_b1_s, if_neg (fun z => z2 (s6.mp z)), k1, sd_b2_s, k4, sd_b2_s, k7, sd_b3_s, k10, sd_b3_s, rp_compare hF k9 k12, sd_b1_s]
        unfold cmpI
        by_cases q : U1 / L1 = U2 / L2
        · rw [if_pos q, if_neg (by decide), sd_let_s, nI_1, if_pos q, if_pos rfl, nI_ifEq (by omega) (by omega), if_neg (by omega), sd_let_s]
          exact ih fu (k + 1) _ _ _ _ _ _ _ _ _ _ _ _ _ L1 (U1 % L1) L2 (U2 % L2) (by omega) (by omega) a2 g6 a4 g9 k8 k3 k11 k6 (by omega) (by omega) (Nat.mod_lt _ (by omega)) (Nat.mod_lt _ (by omega))
        · rw [if_neg q, if_pos rfl, if_neg q]
          by_cases q4 : U2 / L2 ≤ U1 / L1
          · rw [if_pos q4, if_neg (by decide)]
            exact ⟨_, _, _, _, _, _, _, _, _, _, _, _, _, _, _, rfl, rfl, Or.inl ⟨rfl, Or.inr rfl⟩⟩
          · rw [if_neg q4, if_neg (by decide)]
            exact ⟨_, _, _, _, _, _, _, _, _, _, _, _, _, _, _, rfl, rfl, Or.inl ⟨rfl, Or.inr rfl⟩⟩
