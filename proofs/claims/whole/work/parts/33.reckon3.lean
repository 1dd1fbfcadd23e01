/-- what reckon makes of two numbers; none: FULL -/
def tm_reckon (op c : Nat) (xT xB xR : Nat → Int64) (m : Nat) (yT yB yR : Nat → Int64) : Option tm_S := if op = 2 then tm_run (tm_fO xT xB xR yT yB yR m) c 0 tm_nil else tm_run (tm_fS op yT yB yR) m 0 (c, xT, xB, xR)
theorem tm_fO_ok {xT xB xR yT yB yR : Nat → Int64} {c m : Nat} (hx : ∀ j, j < c → tm_okT (xT j) (xB j) (xR j)) (hy : ∀ j, j < m → tm_okT (yT j) (yB j) (yR j)) : ∀ (j : Nat) (s s' : tm_S), j < c → tm_okSS s → tm_fO xT xB xR yT yB yR m j s = some s' → tm_okSS s' := fun j s s' hj ho e => tm_run_ok (tm_fP_ok (hx j hj) hy) m 0 s s' (by omega) ho e
theorem tm_reckon_ok {op c m : Nat} {xT xB xR yT yB yR : Nat → Int64} {s : tm_S} (hx : tm_okS c xT xB xR) (hy : tm_okS m yT yB yR) (e : tm_reckon op c xT xB xR m yT yB yR = some s) : tm_okSS s := by
  unfold tm_reckon at e
  split at e
  · exact tm_run_ok (tm_fO_ok hx.2.1 hy.2.1) c 0 tm_nil s (by omega) tm_nil_ok e
  · exact tm_run_ok (tm_fS_ok hy.2.1) m 0 (c, xT, xB, xR) s (by omega) hx e
theorem nI_2 {op : Nat} (h : op ≤ 2) : nI op = (2 : Int32) ↔ op = 2 := by
  rw [show (2 : Int32) = nI 2 from rfl]; exact nI_eq (by omega) (by omega)
theorem mf_keepDraft (F : Nat) {K : Nat} (hK : K < 8) (cRg : Nat → Option Nat) (dk dn : Int32) (ds os : Nat) : mf_Desk_keepDraft F (nI K) cRg dk dn ds os = some (dn, os, va_up cRg K (some ds)) := by
  unfold mf_Desk_keepDraft mf_Sum_count
  simp only [sd_ixI hK (show K < 2147483648 by omega), nI_clamp (show K < 2 ^ 31 by omega), sd_g_s, sd_let_s, sd_b1_s]
/-- what the class's reckon answers -/
def rk_cls (K ds os : Nat) (cRg : Nat → Option Nat) (m : Option (Int32 × Nat × (Nat → Option Nat) × Int32 × Int32 × (Nat → Int64) × (Nat → Int64) × (Nat → Int64))) (so : Option tm_S) : Prop := match so with
  | none => ∃ n T B R, m = some (-3, ds, cRg, 0, n, T, B, R)
  | some s => ∃ T B R, m = some (nI s.1, os, va_up cRg K (some ds), 0, nI s.1, T, B, R) ∧ tm_at s T B R
theorem dk_reckon {F : Nat} (hF : 18446744073709551616 ≤ F) {op K I J c m : Nat} (hop : op ≤ 2) (hK : K < 8) (hI : I < 8) (hJ : J < 8) (cRg : Nat → Option Nat) (dk dn xk yk : Int32) (dT dB dR xT xB xR yT yB yR : Nat → Int64) (ds os : Nat) (hx : tm_okS c xT xB xR) (hy : tm_okS m yT yB yR) :
    rk_cls K ds os cRg (mf_Desk_reckon F (nI op) (nI K) (nI I) (nI J) cRg dk dn dT dB dR xk (nI c) xT xB xR yk (nI m) yT yB yR ds os) (tm_reckon op c xT xB xR m yT yB yR) := by
  have b1 : ¬ nI op < 0 := nI_pos (by omega)
  have b2 : ¬ (2 : Int32) < nI op := fun z => by have := (ni_ltL (C := 2) (c := 2) rfl (by omega)).mp z; omega
  unfold mf_Desk_reckon
  rw [if_neg b1, if_neg b2, (rg_in F hK).1, sd_b1_s, if_neg (by decide), (rg_in F hI).1, sd_b1_s, if_neg (by decide), (rg_in F hJ).1, sd_b1_s, if_neg (by decide)]
  simp only [sd_ixI hI (show I < 2147483648 by omega), sd_ixI hJ (show J < 2147483648 by omega), sd_g_s]
  unfold tm_reckon
  by_cases h2 : op = 2
  · rw [if_pos ((nI_2 hop).mpr h2), if_pos h2]
    have h := mf_becomeProducts (show 200 ≤ F by omega) dk dn xk yk dT dB dR xT xB xR yT yB yR hx hy
    cases hs : tm_run (tm_fO xT xB xR yT yB yR m) c 0 tm_nil with
    | none =>
      rw [hs] at h
      obtain ⟨n, T, B, R, e⟩ := h
      rw [e]
      exact ⟨n, T, B, R, rfl⟩
    | some s =>
      rw [hs] at h
      obtain ⟨T, B, R, e, a⟩ := h
      refine ⟨T, B, R, ?_, a⟩
      rw [e]
      show sd_b3 (if (1 : Int32) = 0 then some (-3, ds, cRg) else sd_b3 (mf_Desk_keepDraft F (nI K) cRg 0 (nI s.1) ds os) fun r_5 uzd_1 urg_1 => some (r_5, uzd_1, urg_1)) _ = _
      rw [if_neg (by decide), mf_keepDraft F hK, sd_b3_s, sd_b3_s]
  · rw [if_neg (fun z => h2 ((nI_2 hop).mp z)), if_neg h2]
    have hy1 : (if nI op = (1 : Int32) then some (-1 : Int32) else some 1) = some (if op = 1 then (-1 : Int32) else 1) := by
      rcases (show op = 0 ∨ op = 1 by omega) with z | z
      · subst z; rfl
      · subst z; rfl
    rw [hy1, sd_b1_s]
    have h := mf_becomeSum (op := op) (show 200 ≤ F by omega) dk dn xk yk dT dB dR xT xB xR yT yB yR hx hy
    cases hs : tm_run (tm_fS op yT yB yR) m 0 (c, xT, xB, xR) with
    | none =>
      rw [hs] at h
      obtain ⟨n, T, B, R, e⟩ := h
      rw [e]
      exact ⟨n, T, B, R, rfl⟩
    | some s =>
      rw [hs] at h
      obtain ⟨T, B, R, e, a⟩ := h
      refine ⟨T, B, R, ?_, a⟩
      rw [e]
      show sd_b3 (if (1 : Int32) = 0 then some (-3, ds, cRg) else sd_b3 (mf_Desk_keepDraft F (nI K) cRg 0 (nI s.1) ds os) fun r_5 uzd_1 urg_1 => some (r_5, uzd_1, urg_1)) _ = _
      rw [if_neg (by decide), mf_keepDraft F hK, sd_b3_s, sd_b3_s]
theorem tm_row.of {K c : Nat} {f g h : Nat → Int64} (h1 : tm_row K c f g) (h2 : tm_eq c g h) : tm_row K c f h := fun j q => (h1 j q).trans (h2 j q)
/-- what the reference's reckon and divide answer -/
def rk_ref (K : Nat) (cnt : Nat → Int32) (cn cd cr : Nat → Int64) (m : Option (Int32 × Int32 × (Nat → Int64) × (Nat → Int64) × (Nat → Int64) × (Nat → Int32) × (Nat → Int64) × (Nat → Int64) × (Nat → Int64))) (so : Option tm_S) : Prop := match so with
  | none => ∃ n N D R, m = some (-3, n, cn, cd, cr, cnt, N, D, R)
  | some s => ∃ cn' cd' cr' N D R, m = some (nI s.1, nI s.1, cn', cd', cr', upd cnt K (nI s.1), N, D, R) ∧ tm_row K s.1 cn' s.2.1 ∧ tm_row K s.1 cd' s.2.2.1 ∧ tm_row K s.1 cr' s.2.2.2 ∧ (∀ j, j < 8 * K ∨ 8 * K + 8 ≤ j → cn' j = cn j ∧ cd' j = cd j ∧ cr' j = cr j)
/-- the reference behind its loops -/
theorem mm_reckon_end {F : Nat} (hF : 200 ≤ F) {K : Nat} (hK : K < 8) (o1 o2 o3 : Int32) (cnt : Nat → Int32) (cn cd cr : Nat → Int64) {L : Option (Nat × Int32 × (Nat → Int64) × (Nat → Int64) × (Nat → Int64))} {so : Option tm_S} (hok : ∀ s, so = some s → tm_okSS s) (h : tm_ends2 L so) :
    rk_ref K cnt cn cd cr (sd_b5 L fun tg rumo_1 ruanewN_1 ruanewD_1 ruanewR_1 => (if tg = 0 then (some ((-3 : Int32), rumo_1, cn, cd, cr, cnt, ruanewN_1, ruanewD_1, ruanewR_1)) else (sd_b5 (mf_Model_keep F (nI K) rumo_1 o1 o2 o3 cn cd cr cnt ruanewN_1 ruanewD_1 ruanewR_1) fun r_6 uan uad uar uacount => (some (r_6, rumo_1, uan, uad, uar, uacount, ruanewN_1, ruanewD_1, ruanewR_1))))) so := by
  match so, h, hok with
  | none, h, _ =>
    obtain ⟨T, B, R, n, e⟩ := h
    rw [e, sd_b5_s, if_pos rfl]
    exact ⟨_, _, _, _, rfl⟩
  | some s, h, hok =>
    obtain ⟨T, B, R, e, a1, a2, a3⟩ := h
    have ok := hok s rfl
    obtain ⟨cn', cd', cr', ek, k1, k2, k3, k4⟩ := mm_keep hF hK ok.1 o1 o2 o3 cnt cn cd cr T B R
    rw [e, sd_b5_s, if_neg (by decide), ek, sd_b5_s]
    exact ⟨cn', cd', cr', T, B, R, rfl, k1.of a1, k2.of a2, k3.of a3, k4⟩
theorem mm_reckon {F : Nat} (hF : 18446744073709551616 ≤ F) {op K I J c m : Nat} (hop : op ≤ 2) (hK : K < 8) (hI : I < 8) (hJ : J < 8) (md o1 o2 o3 : Int32) (cnt : Nat → Int32) (cn cd cr N0 D0 R0 xT xB xR yT yB yR : Nat → Int64) (hx : tm_okS c xT xB xR) (hy : tm_okS m yT yB yR) (c1 : cnt I = nI c) (c2 : cnt J = nI m) (d1 : tm_row I c cn xT) (d2 : tm_row I c cd xB) (d3 : tm_row I c cr xR) (e1 : tm_row J m cn yT) (e2 : tm_row J m cd yB) (e3 : tm_row J m cr yR) :
    rk_ref K cnt cn cd cr (mf_Model_reckon F (nI op) (nI K) (nI I) (nI J) md o1 o2 o3 cn cd cr cnt N0 D0 R0) (tm_reckon op c xT xB xR m yT yB yR) := by
  have b1 : ¬ nI op < 0 := nI_pos (by omega)
  have b2 : nI op ≤ (2 : Int32) := (ni_leR (C := 2) (c := 2) rfl (by omega)).mpr (by omega)
  have hok := fun s e => tm_reckon_ok (op := op) (s := s) hx hy e
  unfold mf_Model_reckon
  rw [(rg_in F hK).2, sd_b1_s, if_neg (by decide), (rg_in F hI).2, sd_b1_s, if_neg (by decide), (rg_in F hJ).2, sd_b1_s, if_neg (by decide), if_neg b1, if_pos b2]
  unfold tm_reckon at hok ⊢
  by_cases h2 : op = 2
  · subst h2
    rw [if_pos rfl] at hok ⊢
    have e0 : mf_Model_reckon_L41 (nI I) cnt (nI 2) F cn cd cr o1 o2 o3 F 0 0 N0 D0 R0 = some (0, N0, D0, R0) := by
      obtain ⟨f, rfl⟩ : ∃ f, F = f + 1 := ⟨F - 1, by omega⟩
      rw [mf_Model_reckon_L41, sd_g_t (sd_ixI hI (by omega)), nI_clamp (by omega)]
      split
      · rfl
      · rw [if_pos (by decide)]
    rw [e0, sd_b4_s]
    have h := mm_outP hF hJ hI cnt c2 c1 o1 o2 o3 cn cd cr xT xB xR yT yB yR hx.1 hy.1 hx.2.1 d1 d2 d3 hy.2.1 e1 e2 e3 c F 0 tm_nil N0 D0 R0 (by omega) (by have := hx.1; omega) tm_nil_ok (tm_nil_at _ _ _)
    exact mm_reckon_end (show 200 ≤ F by omega) hK o1 o2 o3 cnt cn cd cr hok h
  · rw [if_neg h2] at hok ⊢
    obtain ⟨T', B', R', e0, a1, a2, a3⟩ := mm_copyL hF hI cnt c1 op (by omega) o1 o2 o3 cn cd cr xT xB xR hx d1 d2 d3 c F 0 N0 D0 R0 (by omega) (by have := hx.1; omega) (fun j h => absurd h (by omega)) (fun j h => absurd h (by omega)) (fun j h => absurd h (by omega))
    have e0' : mf_Model_reckon_L41 (nI I) cnt (nI op) F cn cd cr o1 o2 o3 F 0 0 N0 D0 R0 = some (nI c, T', B', R') := e0
    rw [e0', sd_b4_s]
    have h := mm_outS hF hJ cnt c2 op (by omega) (nI I) o1 o2 o3 cn cd cr yT yB yR hy.1 hy.2.1 e1 e2 e3 (c, xT, xB, xR) T' B' R' hx ⟨a1, a2, a3⟩
    exact mm_reckon_end (show 200 ≤ F by omega) hK o1 o2 o3 cnt cn cd cr hok h
