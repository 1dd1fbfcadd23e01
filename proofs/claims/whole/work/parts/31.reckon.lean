theorem mm_opl (op : Nat) (y : Int64) (hop : op < 2) : (if nI op = 0 then sd_g true (some y) else sd_g true (some (-y))) = some (tm_sg op y) := by
  unfold tm_sg
  rcases (show op = 0 ∨ op = 1 by omega) with h | h
  · subst h; rw [if_pos nI_0, if_neg (by decide)]; rfl
  · subst h; rw [if_neg (by decide), if_pos rfl]; rfl
/-- the reference's inner loop, for sums -/
theorem mm_sumL {F : Nat} (hF : 18446744073709551616 ≤ F) {m J : Nat} (hJ : J < 8) (cnt : Nat → Int32) (hcnt : cnt J = nI m) (op : Nat) (hop : op < 2) (vI vX o1 o2 o3 : Int32) (cn cd cr yT yB yR : Nat → Int64) (hm : m ≤ 8) (hy : ∀ j, j < m → tm_okT (yT j) (yB j) (yR j)) (e1 : tm_row J m cn yT) (e2 : tm_row J m cd yB) (e3 : tm_row J m cr yR) :
    ∀ (n fu k : Nat) (s : tm_S) (T B R : Nat → Int64), k + n = m → n < fu → tm_okSS s → tm_at s T B R →
      tm_ends2 (mf_Model_reckon_L134 (nI J) cnt (nI op) F vI vX cn cd cr o1 o2 o3 fu (nI (8 * J + k)) (nI s.1) T B R) (tm_run (tm_fS op yT yB yR) n k s) := by
  intro n
  induction n with
  | zero =>
    intro fu k s T B R hk hf ho ha
    obtain ⟨f, rfl⟩ : ∃ f, fu = f + 1 := ⟨fu - 1, by omega⟩
    rw [mf_Model_reckon_L134, sd_g_t (sd_ixI hJ (by omega)), nI_clamp (by omega), hcnt, nI_8, nI_add, if_pos (nI_le (by omega) (by omega))]
    exact ⟨T, B, R, rfl, ha⟩
  | succ n ih =>
    intro fu k s T B R hk hf ho ha
    obtain ⟨f, rfl⟩ : ∃ f, fu = f + 1 := ⟨fu - 1, by omega⟩
    rw [mf_Model_reckon_L134, sd_g_t (sd_ixI hJ (by omega)), nI_clamp (by omega), hcnt, nI_8, nI_add, if_neg (nI_ge (by omega) (by omega))]
    have h2' : ¬ nI op = (2 : Int32) := fun z => by
      rw [show (2 : Int32) = nI 2 from rfl, nI_eq (by omega) (by omega)] at z; omega
    rw [if_neg h2']
    simp only [sd_ixI (show 8 * J + k < 64 by omega) (show 8 * J + k < 2147483648 by omega), nI_clamp (show 8 * J + k < 2 ^ 31 by omega)]
    rw [mm_opl op _ hop, sd_b1_s, e1 k (by omega), e2 k (by omega), e3 k (by omega)]
    simp only [sd_g_s]
    have hyk := tm_sg_ok (op := op) (hy k (by omega))
    have h1 := mm_add hF ho.1 o1 o2 o3 T B R (tm_sg op (yT k)) (yB k) (yR k) (fun j hj => by rw [ha.1 j hj, ha.2.1 j hj]; exact (ho.2.1 j hj).1) hyk.1 hyk.2.1 hyk.2.2.1
    have h2 := tm_says_eq h1 (tm_add_eq ha.1 ha.2.1 ha.2.2 _ _ _)
    rw [tm_run]
    show tm_ends2 _ (match tm_add s.1 s.2.1 s.2.2.1 s.2.2.2 (tm_sg op (yT k)) (yB k) (yR k) with | none => none | some s' => tm_run (tm_fS op yT yB yR) n (k + 1) s')
    cases hs : tm_add s.1 s.2.1 s.2.2.1 s.2.2.2 (tm_sg op (yT k)) (yB k) (yR k) with
    | none =>
      rw [hs] at h2
      obtain ⟨n', T', B', R', e⟩ := h2
      rw [e, sd_b5_s, sd_b5_s, if_pos rfl]
      exact ⟨_, _, _, _, rfl⟩
    | some s' =>
      obtain ⟨c', T0, B0, R0⟩ := s'
      have ok' := tm_add_ok ho hyk hs
      rw [hs] at h2
      obtain ⟨T', B', R', e, a1, a2, a3⟩ := h2
      rw [e, sd_b5_s, sd_b5_s, if_neg (by decide), sd_let_s, nI_1]
      exact ih f (k + 1) (c', T0, B0, R0) T' B' R' (by omega) (by omega) ok' ⟨a1, a2, a3⟩
/-- the reference's inner loop, for products -/
theorem mm_prodI {F : Nat} (hF : 18446744073709551616 ≤ F) {m J I i : Nat} (hJ : J < 8) (hI : I < 8) (hi : i < 8) (cnt : Nat → Int32) (hcnt : cnt J = nI m) (o1 o2 o3 : Int32) (cn cd cr xT xB xR yT yB yR : Nat → Int64) (hm : m ≤ 8) (hx : tm_okT (xT i) (xB i) (xR i)) (d1 : cn (8 * I + i) = xT i) (d2 : cd (8 * I + i) = xB i) (d3 : cr (8 * I + i) = xR i) (hy : ∀ j, j < m → tm_okT (yT j) (yB j) (yR j)) (e1 : tm_row J m cn yT) (e2 : tm_row J m cd yB) (e3 : tm_row J m cr yR) :
    ∀ (n fu k : Nat) (s : tm_S) (T B R : Nat → Int64), k + n = m → n < fu → tm_okSS s → tm_at s T B R →
      tm_ends2 (mf_Model_reckon_L134 (nI J) cnt 2 F (nI I) (nI i) cn cd cr o1 o2 o3 fu (nI (8 * J + k)) (nI s.1) T B R) (tm_run (tm_fP (xT i) (xB i) (xR i) yT yB yR) n k s) := by
  intro n
  induction n with
  | zero =>
    intro fu k s T B R hk hf ho ha
    obtain ⟨f, rfl⟩ : ∃ f, fu = f + 1 := ⟨fu - 1, by omega⟩
    rw [mf_Model_reckon_L134, sd_g_t (sd_ixI hJ (by omega)), nI_clamp (by omega), hcnt, nI_8, nI_add, if_pos (nI_le (by omega) (by omega))]
    exact ⟨T, B, R, rfl, ha⟩
  | succ n ih =>
    intro fu k s T B R hk hf ho ha
    obtain ⟨f, rfl⟩ : ∃ f, fu = f + 1 := ⟨fu - 1, by omega⟩
    rw [mf_Model_reckon_L134, sd_g_t (sd_ixI hJ (by omega)), nI_clamp (by omega), hcnt, nI_8, nI_add, if_neg (nI_ge (by omega) (by omega)), if_pos rfl]
    simp only [sd_ixI (show 8 * J + k < 64 by omega) (show 8 * J + k < 2147483648 by omega), nI_clamp (show 8 * J + k < 2 ^ 31 by omega), sd_g_s, nI_8, nI_add]
    rw [e1 k (by omega), e2 k (by omega), e3 k (by omega)]
    have hyk := hy k (by omega)
    have h1 := mm_mul hF ho.1 (show 8 * I + i < 64 by omega) o1 o2 o3 T B R cn cd cr (yT k) (yB k) (yR k) (by rw [d1, d2, d3]; exact hx) hyk (fun j hj => by rw [ha.1 j hj, ha.2.1 j hj]; exact (ho.2.1 j hj).1)
    rw [d1, d2, d3] at h1
    have h2 := tm_says_eq h1 (tm_addP_eq ha.1 ha.2.1 ha.2.2 _ _ _ _ _ _)
    rw [tm_run]
    show tm_ends2 _ (match tm_addP s.1 s.2.1 s.2.2.1 s.2.2.2 (xT i) (xB i) (xR i) (yT k) (yB k) (yR k) with | none => none | some s' => tm_run (tm_fP (xT i) (xB i) (xR i) yT yB yR) n (k + 1) s')
    cases hs : tm_addP s.1 s.2.1 s.2.2.1 s.2.2.2 (xT i) (xB i) (xR i) (yT k) (yB k) (yR k) with
    | none =>
      rw [hs] at h2
      obtain ⟨n', T', B', R', e⟩ := h2
      rw [e, sd_b5_s, sd_b5_s, if_pos rfl]
      exact ⟨_, _, _, _, rfl⟩
    | some s' =>
      obtain ⟨c', T0, B0, R0⟩ := s'
      have ok' := tm_addP_ok ho hx hyk hs
      rw [hs] at h2
      obtain ⟨T', B', R', e, a1, a2, a3⟩ := h2
      rw [e, sd_b5_s, sd_b5_s, if_neg (by decide), sd_let_s, nI_1]
      exact ih f (k + 1) (c', T0, B0, R0) T' B' R' (by omega) (by omega) ok' ⟨a1, a2, a3⟩
theorem nI_80 (i : Nat) : (8 : Int32) * nI i = nI (8 * i + 0) := nI_8 i
/-- the reference's outer loop, for sums: once -/
theorem mm_outS {F : Nat} (hF : 18446744073709551616 ≤ F) {m J : Nat} (hJ : J < 8) (cnt : Nat → Int32) (hcnt : cnt J = nI m) (op : Nat) (hop : op < 2) (vI o1 o2 o3 : Int32) (cn cd cr yT yB yR : Nat → Int64) (hm : m ≤ 8) (hy : ∀ j, j < m → tm_okT (yT j) (yB j) (yR j)) (e1 : tm_row J m cn yT) (e2 : tm_row J m cd yB) (e3 : tm_row J m cr yR) (s : tm_S) (T B R : Nat → Int64) (ho : tm_okSS s) (ha : tm_at s T B R) :
    tm_ends2 (mf_Model_reckon_L107 (nI op) vI cnt (nI J) F cn cd cr o1 o2 o3 F 0 (nI s.1) T B R) (tm_run (tm_fS op yT yB yR) m 0 s) := by
  obtain ⟨f, rfl⟩ : ∃ f, F = f + 1 + 1 := ⟨F - 2, by omega⟩
  have hq : ¬ (2 : Int32) ≤ nI op := fun z => by have := (ni_leL (C := 2) (c := 2) rfl (by omega)).mp z; omega
  have h2 := mm_sumL hF hJ cnt hcnt op hop vI 0 o1 o2 o3 cn cd cr yT yB yR hm hy e1 e2 e3 m (f + 1 + 1) 0 s T B R (by omega) (by omega) ho ha
  rw [mf_Model_reckon_L107, if_neg hq, sd_b1_s, if_neg (by decide), sd_let_s, nI_80]
  cases hs : tm_run (tm_fS op yT yB yR) m 0 s with
  | none =>
    rw [hs] at h2
    obtain ⟨T', B', R', n', e⟩ := h2
    rw [e, sd_b5_s, if_pos rfl]
    exact ⟨_, _, _, _, rfl⟩
  | some s' =>
    rw [hs] at h2
    obtain ⟨T', B', R', e, a⟩ := h2
    rw [e, sd_b5_s, if_neg (by decide), sd_let_s, mf_Model_reckon_L107, if_neg hq, sd_b1_s, if_pos (by decide)]
    exact ⟨T', B', R', rfl, a⟩
/-- the reference's outer loop, for products -/
theorem mm_outP {F : Nat} (hF : 18446744073709551616 ≤ F) {c m J I : Nat} (hJ : J < 8) (hI : I < 8) (cnt : Nat → Int32) (hcnt : cnt J = nI m) (hcnt2 : cnt I = nI c) (o1 o2 o3 : Int32) (cn cd cr xT xB xR yT yB yR : Nat → Int64) (hc : c ≤ 8) (hm : m ≤ 8) (hx : ∀ j, j < c → tm_okT (xT j) (xB j) (xR j)) (d1 : tm_row I c cn xT) (d2 : tm_row I c cd xB) (d3 : tm_row I c cr xR) (hy : ∀ j, j < m → tm_okT (yT j) (yB j) (yR j)) (e1 : tm_row J m cn yT) (e2 : tm_row J m cd yB) (e3 : tm_row J m cr yR) :
    ∀ (n fu k : Nat) (s : tm_S) (T B R : Nat → Int64), k + n = c → n < fu → tm_okSS s → tm_at s T B R →
      tm_ends2 (mf_Model_reckon_L107 2 (nI I) cnt (nI J) F cn cd cr o1 o2 o3 fu (nI k) (nI s.1) T B R) (tm_run (tm_fO xT xB xR yT yB yR m) n k s) := by
  intro n
  induction n with
  | zero =>
    intro fu k s T B R hk hf ho ha
    obtain ⟨f, rfl⟩ : ∃ f, fu = f + 1 := ⟨fu - 1, by omega⟩
    rw [mf_Model_reckon_L107, if_pos (by decide), sd_g_t (sd_ixI hI (by omega)), nI_clamp (by omega), hcnt2, sd_b1_s, if_pos (nI_le (by omega) (by omega))]
    exact ⟨T, B, R, rfl, ha⟩
  | succ n ih =>
    intro fu k s T B R hk hf ho ha
    obtain ⟨f, rfl⟩ : ∃ f, fu = f + 1 := ⟨fu - 1, by omega⟩
    have hxk := hx k (by omega)
    have h2 := mm_prodI hF hJ hI (show k < 8 by omega) cnt hcnt o1 o2 o3 cn cd cr xT xB xR yT yB yR hm hxk (d1 k (by omega)) (d2 k (by omega)) (d3 k (by omega)) hy e1 e2 e3 m F 0 s T B R (by omega) (by omega) ho ha
    rw [mf_Model_reckon_L107, if_pos (by decide), sd_g_t (sd_ixI hI (by omega)), nI_clamp (by omega), hcnt2, sd_b1_s, if_neg (nI_ge (by omega) (by omega)), sd_let_s, nI_80]
    rw [tm_run]
    show tm_ends2 _ (match tm_run (tm_fP (xT k) (xB k) (xR k) yT yB yR) m 0 s with | none => none | some s' => tm_run (tm_fO xT xB xR yT yB yR m) n (k + 1) s')
    cases hs : tm_run (tm_fP (xT k) (xB k) (xR k) yT yB yR) m 0 s with
    | none =>
      rw [hs] at h2
      obtain ⟨T', B', R', n', e⟩ := h2
      rw [e, sd_b5_s, if_pos rfl]
      exact ⟨_, _, _, _, rfl⟩
    | some s' =>
      have ok' := tm_run_ok (tm_fP_ok hxk hy) m 0 s s' (by omega) ho hs
      rw [hs] at h2
      obtain ⟨T', B', R', e, a⟩ := h2
      rw [e, sd_b5_s, if_neg (by decide), sd_let_s, nI_1]
      exact ih f (k + 1) s' T' B' R' (by omega) (by omega) ok' a
/-- keep -/
theorem mm_keepL {K c : Nat} (hK : K < 8) (hc : c ≤ 8) (N D R : Nat → Int64) : ∀ (n fu k : Nat) (cn cd cr : Nat → Int64), k + n = c → n < fu → tm_row K k cn N → tm_row K k cd D → tm_row K k cr R →
    ∃ cn' cd' cr', mf_Model_keep_L2 (nI c) (nI K) N D R fu (nI k) cn cd cr = some (cn', cd', cr') ∧ tm_row K c cn' N ∧ tm_row K c cd' D ∧ tm_row K c cr' R ∧ (∀ j, j < 8 * K ∨ 8 * K + 8 ≤ j → cn' j = cn j ∧ cd' j = cd j ∧ cr' j = cr j) := by
  intro n
  induction n with
  | zero =>
    intro fu k cn cd cr hk hf h1 h2 h3
    obtain ⟨f, rfl⟩ : ∃ f, fu = f + 1 := ⟨fu - 1, by omega⟩
    obtain rfl : k = c := by omega
    rw [mf_Model_keep_L2, if_pos (nI_le (by omega) (by omega))]
    exact ⟨_, _, _, rfl, h1, h2, h3, fun j _ => ⟨rfl, rfl, rfl⟩⟩
  | succ n ih =>
    intro fu k cn cd cr hk hf h1 h2 h3
    obtain ⟨f, rfl⟩ : ∃ f, fu = f + 1 := ⟨fu - 1, by omega⟩
    rw [mf_Model_keep_L2, if_neg (nI_ge (by omega) (by omega))]
    simp only [nI_8, nI_add, sd_ixI (show k < 8 by omega) (show k < 2147483648 by omega), sd_ixI (show 8 * K + k < 64 by omega) (show 8 * K + k < 2147483648 by omega), nI_clamp (show k < 2 ^ 31 by omega), nI_clamp (show 8 * K + k < 2 ^ 31 by omega), sd_g_s, sd_let_s, nI_1]
    have up : ∀ {f g : Nat → Int64}, tm_row K k f g → tm_row K (k + 1) (vp_updL f (8 * K + k) (g k)) g := fun {f g} h j hj => by
      unfold vp_updL
      by_cases e : j = k
      · rw [if_pos (by omega), e]
      · rw [if_neg (by omega)]; exact h j (by omega)
    obtain ⟨cn', cd', cr', e, a1, a2, a3, a4⟩ := ih f (k + 1) _ _ _ (by omega) (by omega) (up h1) (up h2) (up h3)
    refine ⟨cn', cd', cr', e, a1, a2, a3, fun j hj => ?_⟩
    obtain ⟨b1, b2, b3⟩ := a4 j hj
    unfold vp_updL at b1 b2 b3
    rw [if_neg (by omega)] at b1 b2 b3
    exact ⟨b1, b2, b3⟩
theorem mm_keep {F : Nat} (hF : 200 ≤ F) {K c : Nat} (hK : K < 8) (hc : c ≤ 8) (o1 o2 o3 : Int32) (cnt : Nat → Int32) (cn cd cr N D R : Nat → Int64) : ∃ cn' cd' cr', mf_Model_keep F (nI K) (nI c) o1 o2 o3 cn cd cr cnt N D R = some (nI c, cn', cd', cr', upd cnt K (nI c)) ∧ tm_row K c cn' N ∧ tm_row K c cd' D ∧ tm_row K c cr' R ∧ (∀ j, j < 8 * K ∨ 8 * K + 8 ≤ j → cn' j = cn j ∧ cd' j = cd j ∧ cr' j = cr j) := by
  obtain ⟨cn', cd', cr', e, a⟩ := mm_keepL hK hc N D R c F 0 cn cd cr (by omega) (by omega) (fun j h => absurd h (by omega)) (fun j h => absurd h (by omega)) (fun j h => absurd h (by omega))
  refine ⟨cn', cd', cr', ?_, a⟩
  unfold mf_Model_keep
  rw [show (0 : Int32) = nI 0 from rfl, e, sd_b3_s, sd_g_t (sd_ixI hK (by omega)), sd_let_s, nI_clamp (by omega)]
