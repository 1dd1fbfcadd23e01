def tm_fP (a k r : Int64) (yT yB yR : Nat → Int64) (j : Nat) (s : tm_S) : Option tm_S := tm_addP s.1 s.2.1 s.2.2.1 s.2.2.2 a k r (yT j) (yB j) (yR j)
def tm_fO (xT xB xR yT yB yR : Nat → Int64) (m : Nat) (i : Nat) (s : tm_S) : Option tm_S := tm_run (tm_fP (xT i) (xB i) (xR i) yT yB yR) m 0 s
theorem tm_fP_ok {a k r : Int64} {yT yB yR : Nat → Int64} {m : Nat} (ha : tm_okT a k r) (hy : ∀ j, j < m → tm_okT (yT j) (yB j) (yR j)) : ∀ (j : Nat) (s s' : tm_S), j < m → tm_okSS s → tm_fP a k r yT yB yR j s = some s' → tm_okSS s' := fun j s s' hj ho e => by
  obtain ⟨c', T0, B0, R0⟩ := s'
  exact tm_addP_ok ho ha (hy j hj) e
theorem tm_fS_ok {op : Nat} {yT yB yR : Nat → Int64} {m : Nat} (hy : ∀ j, j < m → tm_okT (yT j) (yB j) (yR j)) : ∀ (j : Nat) (s s' : tm_S), j < m → tm_okSS s → tm_fS op yT yB yR j s = some s' → tm_okSS s' := fun j s s' hj ho e => by
  obtain ⟨c', T0, B0, R0⟩ := s'
  exact tm_add_ok ho (tm_sg_ok (hy j hj)) e
theorem mf_prodI {F : Nat} (hF : 200 ≤ F) {m i : Nat} (hm : m ≤ 8) (hi : i < 8) (xk xn yk q : Int32) (xT xB xR yT yB yR : Nat → Int64) (hx : tm_okT (xT i) (xB i) (xR i)) (hy : ∀ j, j < m → tm_okT (yT j) (yB j) (yR j)) :
    ∀ (n fu k : Nat) (s : tm_S) (T B R : Nat → Int64), k + n = m → n < fu → tm_okSS s → tm_at s T B R →
      tm_ends (mf_Sum_becomeProducts_L17 (nI m) F (nI i) q xk xn xT xB xR yk yT yB yR fu (nI k) T B R (nI s.1)) (tm_run (tm_fP (xT i) (xB i) (xR i) yT yB yR) n k s) := by
  intro n
  induction n with
  | zero =>
    intro fu k s T B R hk hf ho ha
    obtain ⟨f, rfl⟩ : ∃ f, fu = f + 1 := ⟨fu - 1, by omega⟩
    rw [mf_Sum_becomeProducts_L17, if_pos (nI_le (by omega) (by omega))]
    exact ⟨T, B, R, rfl, ha⟩
  | succ n ih =>
    intro fu k s T B R hk hf ho ha
    obtain ⟨f, rfl⟩ : ∃ f, fu = f + 1 := ⟨fu - 1, by omega⟩
    rw [mf_Sum_becomeProducts_L17, if_neg (nI_ge (by omega) (by omega))]
    have hyk := hy k (by omega)
    have h1 := mf_addProduct hF ho.1 hi (show k < 8 by omega) q xk xn yk (nI m) T B R xT xB xR yT yB yR hx hyk (fun j hj => by rw [ha.1 j hj, ha.2.1 j hj]; exact (ho.2.1 j hj).1)
    have h2 := tm_says_eq h1 (tm_addP_eq ha.1 ha.2.1 ha.2.2 _ _ _ _ _ _)
    rw [tm_run]
    show tm_ends _ (match tm_addP s.1 s.2.1 s.2.2.1 s.2.2.2 (xT i) (xB i) (xR i) (yT k) (yB k) (yR k) with | none => none | some s' => tm_run (tm_fP (xT i) (xB i) (xR i) yT yB yR) n (k + 1) s')
    cases hs : tm_addP s.1 s.2.1 s.2.2.1 s.2.2.2 (xT i) (xB i) (xR i) (yT k) (yB k) (yR k) with
    | none =>
      rw [hs] at h2
      obtain ⟨n', T', B', R', e⟩ := h2
      rw [e, sd_b5_s, if_pos rfl]
      exact ⟨_, _, _, _, rfl⟩
    | some s' =>
      obtain ⟨c', T0, B0, R0⟩ := s'
      have ok' := tm_addP_ok ho hx hyk hs
      rw [hs] at h2
      obtain ⟨T', B', R', e, a1, a2, a3⟩ := h2
      rw [e, sd_b5_s, if_neg (by decide), sd_let_s, nI_1]
      exact ih f (k + 1) (c', T0, B0, R0) T' B' R' (by omega) (by omega) ok' ⟨a1, a2, a3⟩
theorem mf_prodO {F : Nat} (hF : 200 ≤ F) {c m : Nat} (hc : c ≤ 8) (hm : m ≤ 8) (xk yk q : Int32) (xT xB xR yT yB yR : Nat → Int64) (hx : ∀ j, j < c → tm_okT (xT j) (xB j) (xR j)) (hy : ∀ j, j < m → tm_okT (yT j) (yB j) (yR j)) :
    ∀ (n fu k : Nat) (s : tm_S) (T B R : Nat → Int64), k + n = c → n < fu → tm_okSS s → tm_at s T B R →
      tm_ends (mf_Sum_becomeProducts_L6 (nI c) (nI m) F q xk xT xB xR yk yT yB yR fu (nI k) T B R (nI s.1)) (tm_run (tm_fO xT xB xR yT yB yR m) n k s) := by
  intro n
  induction n with
  | zero =>
    intro fu k s T B R hk hf ho ha
    obtain ⟨f, rfl⟩ : ∃ f, fu = f + 1 := ⟨fu - 1, by omega⟩
    rw [mf_Sum_becomeProducts_L6, if_pos (nI_le (by omega) (by omega))]
    exact ⟨T, B, R, rfl, ha⟩
  | succ n ih =>
    intro fu k s T B R hk hf ho ha
    obtain ⟨f, rfl⟩ : ∃ f, fu = f + 1 := ⟨fu - 1, by omega⟩
    rw [mf_Sum_becomeProducts_L6, if_neg (nI_ge (by omega) (by omega))]
    have hxk := hx k (by omega)
    have h2 := mf_prodI hF hm (show k < 8 by omega) xk (nI c) yk q xT xB xR yT yB yR hxk hy m F 0 s T B R (by omega) (by omega) ho ha
    rw [tm_run]
    show tm_ends _ (match tm_run (tm_fP (xT k) (xB k) (xR k) yT yB yR) m 0 s with | none => none | some s' => tm_run (tm_fO xT xB xR yT yB yR m) n (k + 1) s')
    cases hs : tm_run (tm_fP (xT k) (xB k) (xR k) yT yB yR) m 0 s with
    | none =>
      rw [hs] at h2
      obtain ⟨T', B', R', n', e⟩ := h2
      have e' : mf_Sum_becomeProducts_L17 (nI m) F (nI k) q xk (nI c) xT xB xR yk yT yB yR F 0 T B R (nI s.1) = some (0, T', B', R', n') := e
      rw [e', sd_b5_s, if_pos rfl]
      exact ⟨_, _, _, _, rfl⟩
    | some s' =>
      have ok' := tm_run_ok (tm_fP_ok hxk hy) m 0 s s' (by omega) ho hs
      rw [hs] at h2
      obtain ⟨T', B', R', e, a⟩ := h2
      have e' : mf_Sum_becomeProducts_L17 (nI m) F (nI k) q xk (nI c) xT xB xR yk yT yB yR F 0 T B R (nI s.1) = some (1, T', B', R', nI s'.1) := e
      rw [e', sd_b5_s, if_neg (by decide), sd_let_s, nI_1]
      exact ih f (k + 1) s' T' B' R' (by omega) (by omega) ok' a
def tm_nil : tm_S := (0, fun _ => 0, fun _ => 0, fun _ => 0)
theorem tm_nil_ok : tm_okSS tm_nil := ⟨by show (0 : Nat) ≤ 8; omega, fun j h => absurd h (by show ¬ j < 0; omega), fun i j _ h => absurd h (by show ¬ j < 0; omega)⟩
theorem tm_nil_at (T B R : Nat → Int64) : tm_at tm_nil T B R := ⟨fun j h => absurd h (by show ¬ j < 0; omega), fun j h => absurd h (by show ¬ j < 0; omega), fun j h => absurd h (by show ¬ j < 0; omega)⟩
theorem mf_becomeProducts {F : Nat} (hF : 200 ≤ F) {c m : Nat} (dk dn xk yk : Int32) (dT dB dR xT xB xR yT yB yR : Nat → Int64) (hx : tm_okS c xT xB xR) (hy : tm_okS m yT yB yR) :
    match tm_run (tm_fO xT xB xR yT yB yR m) c 0 tm_nil with
    | none => ∃ n T B R, mf_Sum_becomeProducts F dk dn dT dB dR xk (nI c) xT xB xR yk (nI m) yT yB yR = some (0, 0, n, T, B, R)
    | some s => ∃ T B R, mf_Sum_becomeProducts F dk dn dT dB dR xk (nI c) xT xB xR yk (nI m) yT yB yR = some (1, 0, nI s.1, T, B, R) ∧ tm_at s T B R := by
  have h2 := mf_prodO hF hx.1 hy.1 xk yk 0 xT xB xR yT yB yR hx.2.1 hy.2.1 c F 0 tm_nil dT dB dR (by omega) (by have := hx.1; omega) tm_nil_ok (tm_nil_at _ _ _)
  unfold mf_Sum_becomeProducts mf_Sum_clear
  rw [sd_b2_s]
  cases hs : tm_run (tm_fO xT xB xR yT yB yR m) c 0 tm_nil with
  | none =>
    rw [hs] at h2
    obtain ⟨T, B, R, n, e2⟩ := h2
    have e2' : mf_Sum_becomeProducts_L6 (nI c) (nI m) F 0 xk xT xB xR yk yT yB yR F 0 dT dB dR 0 = some (0, T, B, R, n) := e2
    rw [e2', sd_b5_s, if_pos rfl]
    exact ⟨_, _, _, _, rfl⟩
  | some s =>
    rw [hs] at h2
    obtain ⟨T, B, R, e2, h3⟩ := h2
    have e2' : mf_Sum_becomeProducts_L6 (nI c) (nI m) F 0 xk xT xB xR yk yT yB yR F 0 dT dB dR 0 = some (1, T, B, R, nI s.1) := e2
    rw [e2', sd_b5_s, if_neg (by decide)]
    exact ⟨_, _, _, rfl, h3⟩
/-! the reference: registers are rows of eight places -/
def tm_row (i c : Nat) (f g : Nat → Int64) : Prop := ∀ j, j < c → f (8 * i + j) = g j
theorem nI_8 (i : Nat) : (8 : Int32) * nI i = nI (8 * i) := by
  rw [show (8 : Int32) = nI 8 from rfl]; exact pk_mul 8 i
/-- the reference's first loop: the first number's terms, one by one: each goes to the end -/
theorem tm_pos_end {c : Nat} {R : Nat → Int64} {x : Int64} (h : ∀ j, j < c → R j < x) : tm_pos c R x = c := by
  have h1 := tm_pos_le c R x
  rcases Nat.lt_or_ge (tm_pos c R x) c with q | q
  · have h2 := tm_posF_at R x c 0 (by show tm_pos c R x < 0 + c; omega)
    have h3 := nj_lt.mp (h _ q)
    have h4 := nj_le.mp h2
    unfold tm_pos at h3
    omega
  · omega
theorem tm_add_end {c : Nat} {T B R : Nat → Int64} {a b x : Int64} (hc : c < 8) (h : ∀ j, j < c → R j < x) : tm_add c T B R a b x = some (c + 1, tm_ins c a T, tm_ins c b B, tm_ins c x R) := by
  unfold tm_add
  rw [tm_pos_end h, if_neg (fun z => by omega), if_neg (by omega)]
theorem tm_okS.le {c k : Nat} {T B R : Nat → Int64} (h : tm_okS c T B R) (hk : k ≤ c) : tm_okS k T B R := ⟨by have := h.1; omega, fun j q => h.2.1 j (by omega), fun i j q1 q2 => h.2.2 i j q1 (by omega)⟩
theorem tm_eq.le {c k : Nat} {f g : Nat → Int64} (h : tm_eq c f g) (hk : k ≤ c) : tm_eq k f g := fun j q => h j (by omega)
theorem mm_copyL {F : Nat} (hF : 18446744073709551616 ≤ F) {c i : Nat} (hi : i < 8) (cnt : Nat → Int32) (hcnt : cnt i = nI c) (op : Nat) (hop : op < 2) (o1 o2 o3 : Int32) (cn cd cr xT xB xR : Nat → Int64) (hx : tm_okS c xT xB xR) (e1 : tm_row i c cn xT) (e2 : tm_row i c cd xB) (e3 : tm_row i c cr xR) :
    ∀ (n fu k : Nat) (T B R : Nat → Int64), k + n = c → n < fu → tm_eq k T xT → tm_eq k B xB → tm_eq k R xR →
      ∃ T' B' R', mf_Model_reckon_L41 (nI i) cnt (nI op) F cn cd cr o1 o2 o3 fu (nI k) (nI k) T B R = some (nI c, T', B', R') ∧ tm_eq c T' xT ∧ tm_eq c B' xB ∧ tm_eq c R' xR := by
  intro n
  have h8 := hx.1
  induction n with
  | zero =>
    intro fu k T B R hk hf h1 h2 h3
    obtain ⟨f, rfl⟩ : ∃ f, fu = f + 1 := ⟨fu - 1, by omega⟩
    obtain rfl : k = c := by omega
    rw [mf_Model_reckon_L41, sd_g_t (sd_ixI hi (by omega)), nI_clamp (by omega), hcnt, if_pos (nI_le (by omega) (by omega))]
    exact ⟨T, B, R, rfl, h1, h2, h3⟩
  | succ n ih =>
    intro fu k T B R hk hf h1 h2 h3
    obtain ⟨f, rfl⟩ : ∃ f, fu = f + 1 := ⟨fu - 1, by omega⟩
    rw [mf_Model_reckon_L41, sd_g_t (sd_ixI hi (by omega)), nI_clamp (by omega), hcnt, if_neg (nI_ge (by omega) (by omega)), if_neg (fun z => by have := (ni_leL (C := 2) (c := 2) rfl (by omega)).mp z; omega)]
    simp only [nI_8, nI_add, sd_ixI (show 8 * i + k < 64 by omega) (show 8 * i + k < 2147483648 by omega), nI_clamp (show 8 * i + k < 2 ^ 31 by omega), sd_g_s]
    rw [e1 k (by omega), e2 k (by omega), e3 k (by omega)]
    have hxk := hx.2.1 k (by omega)
    have hlt : ∀ j, j < k → R j < xR k := fun j hj => by rw [h3 j hj]; exact hx.2.2 j k hj (by omega)
    have h4 := mm_add hF (show k ≤ 8 by omega) o1 o2 o3 T B R (xT k) (xB k) (xR k) (fun j hj => by rw [h1 j hj, h2 j hj]; exact (hx.2.1 j (by omega)).1) hxk.1 hxk.2.1 hxk.2.2.1
    rw [tm_add_end (by omega) hlt] at h4
    obtain ⟨T', B', R', e, a1, a2, a3⟩ := h4
    rw [e, sd_b5_s, sd_let_s, nI_1]
    have up : ∀ {f g h : Nat → Int64} {v : Int64}, tm_eq (k + 1) f (tm_ins k v g) → tm_eq k g h → v = h k → tm_eq (k + 1) f h := fun {f g h v} q1 q2 q3 j hj => by
      rw [q1 j hj]
      unfold tm_ins
      by_cases z : j < k
      · rw [if_pos z]; exact q2 j z
      · rw [if_neg z, if_pos (by omega), q3]; congr 1; omega
    exact ih f (k + 1) T' B' R' (by omega) (by omega) (up a1 h1 rfl) (up a2 h2 rfl) (up a3 h3 rfl)
