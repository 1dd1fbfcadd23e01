/-! sums and products of numbers, term by term -/
def tm_run (f : Nat → tm_S → Option tm_S) : Nat → Nat → tm_S → Option tm_S
  | 0, _, s => some s
  | m + 1, k, s => match f k s with
    | none => none
    | some s' => tm_run f m (k + 1) s'
def tm_okSS (s : tm_S) : Prop := tm_okS s.1 s.2.1 s.2.2.1 s.2.2.2
def tm_at (s : tm_S) (T B R : Nat → Int64) : Prop := tm_eq s.1 T s.2.1 ∧ tm_eq s.1 B s.2.2.1 ∧ tm_eq s.1 R s.2.2.2
theorem tm_says_eq {m : Option (Int32 × Int32 × (Nat → Int64) × (Nat → Int64) × (Nat → Int64))} {s s' : Option tm_S} (h : tm_says m s) (e : tm_eqS s s') : tm_says m s' := by
  match s, s', h, e with
  | none, none, h, _ => exact h
  | some (c, T, B, R), some (c', T', B', R'), h, e =>
    obtain ⟨rfl, e1, e2, e3⟩ := e
    obtain ⟨t, b, r, hm, a1, a2, a3⟩ := h
    exact ⟨t, b, r, hm, fun j q => (a1 j q).trans (e1 j q), fun j q => (a2 j q).trans (e2 j q), fun j q => (a3 j q).trans (e3 j q)⟩
/-- the sum's term: added or taken -/
def tm_sg (op : Nat) (y : Int64) : Int64 := if op = 1 then -y else y
theorem tm_sg_ok {op : Nat} {a b x : Int64} (h : tm_okT a b x) : tm_okT (tm_sg op a) b x := by
  unfold tm_sg
  split
  · obtain ⟨⟨p1, p2, p3⟩, p4, p5, p6⟩ := h
    have e : (-a).toInt = -a.toInt := nj_neg (by omega)
    have e2 : (-a).toInt.natAbs = a.toInt.natAbs := by omega
    exact ⟨⟨by omega, p2, p3⟩, by omega, by rw [e2]; exact p5, p6⟩
  · exact h
/-- what a loop over terms answers, with its mark: 0 is FULL -/
def tm_ends (m : Option (Nat × (Nat → Int64) × (Nat → Int64) × (Nat → Int64) × Int32)) (s : Option tm_S) : Prop := match s with
  | none => ∃ T B R n, m = some (0, T, B, R, n)
  | some s' => ∃ T B R, m = some (1, T, B, R, nI s'.1) ∧ tm_at s' T B R
def tm_ends2 (m : Option (Nat × Int32 × (Nat → Int64) × (Nat → Int64) × (Nat → Int64))) (s : Option tm_S) : Prop := match s with
  | none => ∃ T B R n, m = some (0, n, T, B, R)
  | some s' => ∃ T B R, m = some (1, nI s'.1, T, B, R) ∧ tm_at s' T B R
theorem tm_sgc {op : Nat} (y : Int64) : ((if op = 1 then (-1 : Int32) else 1).toInt64) * y = tm_sg op y := by
  unfold tm_sg
  split
  · show (-1 : Int64) * y = -y
    rw [Int64.neg_mul, Int64.one_mul]
  · show (1 : Int64) * y = y
    rw [Int64.one_mul]
def tm_fS (op : Nat) (yT yB yR : Nat → Int64) (j : Nat) (s : tm_S) : Option tm_S := tm_add s.1 s.2.1 s.2.2.1 s.2.2.2 (tm_sg op (yT j)) (yB j) (yR j)
theorem mf_sumL {F : Nat} (hF : 200 ≤ F) {m op : Nat} (hm : m ≤ 8) (yT yB yR : Nat → Int64) (hy : ∀ j, j < m → tm_okT (yT j) (yB j) (yR j)) (q : Int32) :
    ∀ (n fu k : Nat) (s : tm_S) (T B R : Nat → Int64), k + n = m → n < fu → tm_okSS s → tm_at s T B R →
      tm_ends (mf_Sum_becomeSum_L60 (nI m) F (if op = 1 then (-1 : Int32) else 1) yT yB yR q fu (nI k) T B R (nI s.1)) (tm_run (tm_fS op yT yB yR) n k s) := by
  intro n
  induction n with
  | zero =>
    intro fu k s T B R hk hf ho ha
    obtain ⟨f, rfl⟩ : ∃ f, fu = f + 1 := ⟨fu - 1, by omega⟩
    rw [mf_Sum_becomeSum_L60, if_pos (nI_le (by omega) (by omega))]
    exact ⟨T, B, R, rfl, ha⟩
  | succ n ih =>
    intro fu k s T B R hk hf ho ha
    obtain ⟨f, rfl⟩ : ∃ f, fu = f + 1 := ⟨fu - 1, by omega⟩
    rw [mf_Sum_becomeSum_L60, if_neg (nI_ge (by omega) (by omega))]
    simp only [sd_ixI (show k < 8 by omega) (show k < 2147483648 by omega), nI_clamp (show k < 2 ^ 31 by omega), sd_g_s, tm_sgc]
    have hyk := tm_sg_ok (op := op) (hy k (by omega))
    have h1 := mf_add hF ho.1 q T B R (tm_sg op (yT k)) (yB k) (yR k) (fun j hj => by rw [ha.1 j hj, ha.2.1 j hj]; exact (ho.2.1 j hj).1) hyk.1
    have h2 := tm_says_eq h1 (tm_add_eq ha.1 ha.2.1 ha.2.2 _ _ _)
    rw [tm_run]
    show tm_ends _ (match tm_add s.1 s.2.1 s.2.2.1 s.2.2.2 (tm_sg op (yT k)) (yB k) (yR k) with | none => none | some s' => tm_run (tm_fS op yT yB yR) n (k + 1) s')
    cases hs : tm_add s.1 s.2.1 s.2.2.1 s.2.2.2 (tm_sg op (yT k)) (yB k) (yR k) with
    | none =>
      rw [hs] at h2
      obtain ⟨n', T', B', R', e⟩ := h2
      rw [e, sd_b5_s, if_pos rfl]
      exact ⟨_, _, _, _, rfl⟩
    | some s' =>
      obtain ⟨c', T0, B0, R0⟩ := s'
      have ok' := tm_add_ok ho hyk hs
      rw [hs] at h2
      obtain ⟨T', B', R', e, a1, a2, a3⟩ := h2
      rw [e, sd_b5_s, if_neg (by decide), sd_let_s, nI_1]
      exact ih f (k + 1) (c', T0, B0, R0) T' B' R' (by omega) (by omega) ok' ⟨a1, a2, a3⟩
theorem tm_run_ok {f : Nat → tm_S → Option tm_S} {m : Nat} (hf : ∀ j s s', j < m → tm_okSS s → f j s = some s' → tm_okSS s') : ∀ (n k : Nat) (s s' : tm_S), k + n ≤ m → tm_okSS s → tm_run f n k s = some s' → tm_okSS s' := by
  intro n
  induction n with
  | zero => intro k s s' _ ho e; rw [tm_run] at e; cases e; exact ho
  | succ n ih =>
    intro k s s' hk ho e
    rw [tm_run] at e
    cases hs : f k s with
    | none => rw [hs] at e; cases e
    | some s1 => rw [hs] at e; exact ih (k + 1) s1 s' (by omega) (hf k s s1 (by omega) ho hs) e
/-- the first number's terms, copied -/
theorem mf_copyL {F : Nat} {m : Nat} (hm : m ≤ 8) (xT xB xR : Nat → Int64) (p q : Int32) : ∀ (n fu k : Nat) (T B R : Nat → Int64), k + n = m → n < fu → tm_eq k T xT → tm_eq k B xB → tm_eq k R xR →
    ∃ T' B' R', mf_Sum_becomeSum_L7 (nI m) F xT xB xR p q fu (nI k) T B R = some (T', B', R') ∧ tm_eq m T' xT ∧ tm_eq m B' xB ∧ tm_eq m R' xR := by
  intro n
  induction n with
  | zero =>
    intro fu k T B R hk hf h1 h2 h3
    obtain ⟨f, rfl⟩ : ∃ f, fu = f + 1 := ⟨fu - 1, by omega⟩
    rw [mf_Sum_becomeSum_L7, if_pos (nI_le (by omega) (by omega))]
    obtain rfl : k = m := by omega
    exact ⟨T, B, R, rfl, h1, h2, h3⟩
  | succ n ih =>
    intro fu k T B R hk hf h1 h2 h3
    obtain ⟨f, rfl⟩ : ∃ f, fu = f + 1 := ⟨fu - 1, by omega⟩
    rw [mf_Sum_becomeSum_L7, if_neg (nI_ge (by omega) (by omega))]
    simp only [sd_ixI (show k < 8 by omega) (show k < 2147483648 by omega), nI_clamp (show k < 2 ^ 31 by omega), sd_g_s]
    rw [mf_put (by omega), sd_b3_s, sd_let_s, nI_1]
    have up : ∀ {f g : Nat → Int64}, tm_eq k f g → tm_eq (k + 1) (vp_updL f k (g k)) g := fun {f g} h j hj => by
      unfold vp_updL
      by_cases e : j = k
      · rw [if_pos e, e]
      · rw [if_neg e]; exact h j (by omega)
    exact ih f (k + 1) _ _ _ (by omega) (by omega) (up h1) (up h2) (up h3)
/-- becomeSum -/
theorem mf_becomeSum {F : Nat} (hF : 200 ≤ F) {c m op : Nat} (dk dn xk yk : Int32) (dT dB dR xT xB xR yT yB yR : Nat → Int64) (hx : tm_okS c xT xB xR) (hy : tm_okS m yT yB yR) :
    match tm_run (tm_fS op yT yB yR) m 0 (c, xT, xB, xR) with
    | none => ∃ n T B R, mf_Sum_becomeSum F (if op = 1 then (-1 : Int32) else 1) dk dn dT dB dR xk (nI c) xT xB xR yk (nI m) yT yB yR = some (0, 0, n, T, B, R)
    | some s => ∃ T B R, mf_Sum_becomeSum F (if op = 1 then (-1 : Int32) else 1) dk dn dT dB dR xk (nI c) xT xB xR yk (nI m) yT yB yR = some (1, 0, nI s.1, T, B, R) ∧ tm_at s T B R := by
  obtain ⟨T', B', R', e1, a1, a2, a3⟩ := mf_copyL (F := F) hx.1 xT xB xR 0 0 c F 0 dT dB dR (by omega) (by have := hx.1; omega) (fun j h => absurd h (by omega)) (fun j h => absurd h (by omega)) (fun j h => absurd h (by omega))
  have h2 := mf_sumL hF (op := op) hy.1 yT yB yR hy.2.1 0 m F 0 (c, xT, xB, xR) T' B' R' (by omega) (by have := hy.1; omega) hx ⟨a1, a2, a3⟩
  have e1' : mf_Sum_becomeSum_L7 (nI c) F xT xB xR 0 0 F 0 dT dB dR = some (T', B', R') := e1
  unfold mf_Sum_becomeSum mf_Sum_clear
  rw [sd_b2_s, e1', sd_b3_s]
  cases hs : tm_run (tm_fS op yT yB yR) m 0 (c, xT, xB, xR) with
  | none =>
    rw [hs] at h2
    obtain ⟨T, B, R, n, e2⟩ := h2
    have e2' : mf_Sum_becomeSum_L60 (nI m) F (if op = 1 then (-1 : Int32) else 1) yT yB yR 0 F 0 T' B' R' (nI c) = some (0, T, B, R, n) := e2
    rw [e2', sd_b5_s, if_pos rfl]
    exact ⟨_, _, _, _, rfl⟩
  | some s =>
    rw [hs] at h2
    obtain ⟨T, B, R, e2, h3⟩ := h2
    have e2' : mf_Sum_becomeSum_L60 (nI m) F (if op = 1 then (-1 : Int32) else 1) yT yB yR 0 F 0 T' B' R' (nI c) = some (1, T, B, R, nI s.1) := e2
    rw [e2', sd_b5_s, if_neg (by decide)]
    exact ⟨_, _, _, rfl, h3⟩
