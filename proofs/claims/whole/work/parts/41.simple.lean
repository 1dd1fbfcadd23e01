/-! term, terms, same, octet -/
def sm_eq (c : Nat) (xT xB xR yT yB yR : Nat → Int64) : Prop := tm_eq c xT yT ∧ tm_eq c xB yB ∧ tm_eq c xR yR
theorem sm_loop {c I J : Nat} (hc : c ≤ 8) (hI : I < 8) (hJ : J < 8) (cnt : Nat → Int32) (cn cd cr xT xB xR yT yB yR : Nat → Int64) (c1 : cnt I = nI c) (d1 : tm_row I c cn xT) (d2 : tm_row I c cd xB) (d3 : tm_row I c cr xR) (e1 : tm_row J c cn yT) (e2 : tm_row J c cd yB) (e3 : tm_row J c cr yR) :
    ∀ (n fu k : Nat), k + n = c → n < fu → ∃ tg : Nat, mf_Sum_isSameAs_L15 (nI c) xT yT xB yB xR yR fu (nI k) = some tg ∧ mf_Model_same_L33 (nI I) cnt (nI J) cn cd cr fu (nI k) = some tg ∧ (tg = 0 ∨ tg = 1) ∧ (tg = 1 ↔ ∀ j, k ≤ j → j < c → xT j = yT j ∧ xB j = yB j ∧ xR j = yR j) := by
  intro n
  induction n with
  | zero =>
    intro fu k hk hf
    obtain ⟨f, rfl⟩ : ∃ f, fu = f + 1 := ⟨fu - 1, by omega⟩
    refine ⟨1, ?_, ?_, Or.inr rfl, ⟨fun _ j a b => by omega, fun _ => rfl⟩⟩
    · rw [mf_Sum_isSameAs_L15, if_pos (nI_le (by omega) (by omega))]
    · rw [mf_Model_same_L33, sd_g_t (sd_ixI hI (by omega)), nI_clamp (by omega), c1, if_pos (nI_le (by omega) (by omega))]
  | succ n ih =>
    intro fu k hk hf
    obtain ⟨f, rfl⟩ : ∃ f, fu = f + 1 := ⟨fu - 1, by omega⟩
    rw [mf_Sum_isSameAs_L15, if_neg (nI_ge (by omega) (by omega)), mf_Model_same_L33, sd_g_t (sd_ixI hI (by omega)), nI_clamp (show I < 2 ^ 31 by omega), c1, if_neg (nI_ge (by omega) (by omega))]
    simp only [nI_8, nI_add, sd_ixI (show k < 8 by omega) (show k < 2147483648 by omega), nI_clamp (show k < 2 ^ 31 by omega), sd_ixI (show 8 * I + k < 64 by omega) (show 8 * I + k < 2147483648 by omega), sd_ixI (show 8 * J + k < 64 by omega) (show 8 * J + k < 2147483648 by omega), nI_clamp (show 8 * I + k < 2 ^ 31 by omega), nI_clamp (show 8 * J + k < 2 ^ 31 by omega), sd_g_s]
    rw [d1 k (by omega), d2 k (by omega), d3 k (by omega), e1 k (by omega), e2 k (by omega), e3 k (by omega)]
    by_cases q1 : xT k = yT k
    · rw [if_pos q1, if_pos q1]
      by_cases q2 : xB k = yB k
      · rw [if_pos q2, if_pos q2]
        by_cases q3 : xR k = yR k
        · rw [if_pos q3, if_pos q3, sd_let_s, sd_let_s, nI_1]
          obtain ⟨tg, a1, a2, a3, a4⟩ := ih f (k + 1) (by omega) (by omega)
          refine ⟨tg, a1, a2, a3, a4.trans ⟨fun h j b1 b2 => ?_, fun h j b1 b2 => h j (by omega) b2⟩⟩
          by_cases z : j = k
          · subst z; exact ⟨q1, q2, q3⟩
          · exact h j (by omega) b2
        · rw [if_neg q3, if_neg q3]
          exact ⟨0, rfl, rfl, Or.inl rfl, ⟨fun z => absurd z (by decide), fun h => absurd (h k (by omega) (by omega)).2.2 q3⟩⟩
      · rw [if_neg q2, if_neg q2]
        exact ⟨0, rfl, rfl, Or.inl rfl, ⟨fun z => absurd z (by decide), fun h => absurd (h k (by omega) (by omega)).2.1 q2⟩⟩
    · rw [if_neg q1, if_neg q1]
      exact ⟨0, rfl, rfl, Or.inl rfl, ⟨fun z => absurd z (by decide), fun h => absurd (h k (by omega) (by omega)).1 q1⟩⟩
/-- isSameAs and the reference's same, at two registers -/
theorem same_both {F : Nat} (hF : 18446744073709551616 ≤ F) {c m I J : Nat} (hI : I < 8) (hJ : J < 8) (xk yk o0 o1 o2 o3 : Int32) (cnt : Nat → Int32) (cn cd cr xT xB xR yT yB yR : Nat → Int64) (hc : c ≤ 8) (hm : m ≤ 8) (c1 : cnt I = nI c) (c2 : cnt J = nI m) (d1 : tm_row I c cn xT) (d2 : tm_row I c cd xB) (d3 : tm_row I c cr xR) (e1 : tm_row J m cn yT) (e2 : tm_row J m cd yB) (e3 : tm_row J m cr yR) :
    ∃ v : Int32, mf_Sum_isSameAs F xk (nI c) xT xB xR yk (nI m) yT yB yR = some v ∧ mf_Model_same F (nI I) (nI J) o0 o1 o2 o3 cn cd cr cnt = some v ∧ (v = 0 ∨ v = 1) ∧ (v = 1 ↔ c = m ∧ sm_eq c xT xB xR yT yB yR) := by
  have z1 : ¬ (1 : Int32) = 0 := by decide
  have q : nI c = nI m ↔ c = m := nI_eq (by omega) (by omega)
  unfold mf_Sum_isSameAs mf_Model_same
  simp only [(rg_in F hI).2, (rg_in F hJ).2, sd_b1_s, if_neg z1, sd_ixI hI (show I < 2147483648 by omega), sd_ixI hJ (show J < 2147483648 by omega), sd_g_s, nI_clamp (show I < 2 ^ 31 by omega), nI_clamp (show J < 2 ^ 31 by omega), c1, c2]
  by_cases h : c = m
  · subst h
    rw [if_pos rfl, if_pos rfl]
    obtain ⟨tg, a1, a2, a3, a4⟩ := sm_loop hc hI hJ cnt cn cd cr xT xB xR yT yB yR c1 d1 d2 d3 e1 e2 e3 c F 0 (by omega) (by omega)
    have a1' : mf_Sum_isSameAs_L15 (nI c) xT yT xB yB xR yR F 0 = some tg := a1
    have a2' : mf_Model_same_L33 (nI I) cnt (nI J) cn cd cr F 0 = some tg := a2
    simp only [a1', a2', sd_b1_s]
    have sme : (∀ j, 0 ≤ j → j < c → xT j = yT j ∧ xB j = yB j ∧ xR j = yR j) ↔ sm_eq c xT xB xR yT yB yR :=
      ⟨fun z => ⟨fun j b => (z j (by omega) b).1, fun j b => (z j (by omega) b).2.1, fun j b => (z j (by omega) b).2.2⟩, fun z j _ b => ⟨z.1 j b, z.2.1 j b, z.2.2 j b⟩⟩
    rcases a3 with t | t
    · rw [t, if_pos rfl]
      refine ⟨0, rfl, rfl, Or.inl rfl, ⟨fun z => absurd z (by decide), fun z => ?_⟩⟩
      have := a4.mpr (sme.mpr z.2)
      omega
    · rw [t, if_neg (by decide)]
      exact ⟨1, rfl, rfl, Or.inr rfl, ⟨fun _ => ⟨trivial, sme.mp (a4.mp t)⟩, fun _ => rfl⟩⟩
  · rw [if_neg (fun z => h (q.mp z)), if_neg (fun z => h (q.mp z))]
    exact ⟨0, rfl, rfl, Or.inl rfl, ⟨fun z => absurd z (by decide), fun z => absurd z.1 h⟩⟩
theorem dk_same {F : Nat} {I J : Nat} (hI : I < 8) (hJ : J < 8) (cRg : Nat → Option Nat) (xk xn yk yn v : Int32) (xT xB xR yT yB yR : Nat → Int64) (h : mf_Sum_isSameAs F xk xn xT xB xR yk yn yT yB yR = some v) (hv : v = 0 ∨ v = 1) : mf_Desk_same F (nI I) (nI J) cRg xk xn xT xB xR yk yn yT yB yR = some v := by
  unfold mf_Desk_same
  have z1 : ¬ (1 : Int32) = 0 := by decide
  simp only [(rg_in F hI).1, (rg_in F hJ).1, sd_b1_s, if_neg z1, sd_ixI hI (show I < 2147483648 by omega), sd_ixI hJ (show J < 2147483648 by omega), sd_g_s, h]
  rcases hv with q | q
  · subst q; rfl
  · subst q; rfl
/-- term -/
theorem term_both {F : Nat} {c I : Nat} (hI : I < 8) (hc : c ≤ 8) (k what : Int32) (cRg : Nat → Option Nat) (xk o0 o1 o2 o3 : Int32) (cnt : Nat → Int32) (cn cd cr xT xB xR : Nat → Int64) (c1 : cnt I = nI c) (d1 : tm_row I c cn xT) (d2 : tm_row I c cd xB) (d3 : tm_row I c cr xR) :
    ∃ v : Int32, mf_Desk_term F (nI I) k what cRg xk (nI c) xT xB xR = some v ∧ mf_Model_term F (nI I) k what o0 o1 o2 o3 cn cd cr cnt = some v := by
  have z1 : ¬ (1 : Int32) = 0 := by decide
  unfold mf_Desk_term mf_Model_term mf_Sum_count
  simp only [(rg_in F hI).1, (rg_in F hI).2, sd_b1_s, if_neg z1, sd_ixI hI (show I < 2147483648 by omega), sd_g_s, nI_clamp (show I < 2 ^ 31 by omega), c1]
  by_cases k0 : k < 0
  · rw [if_pos k0, if_pos k0]; exact ⟨_, rfl, rfl⟩
  · rw [if_neg k0, if_neg k0]
    by_cases kc : k < nI c
    · rw [if_pos kc, if_pos kc]
      obtain ⟨K, hK, rfl⟩ := nI_of k0
      have hKc : K < c := (nI_ltI hK (by omega)).mp kc
      simp only [sd_let_s, nI_8, nI_add, sd_ixI (show K < 8 by omega) (show K < 2147483648 by omega), sd_ixI (show 8 * I + K < 64 by omega) (show 8 * I + K < 2147483648 by omega), nI_clamp (show K < 2 ^ 31 by omega), nI_clamp (show 8 * I + K < 2 ^ 31 by omega), sd_g_s]
      rw [d1 K hKc, d2 K hKc, d3 K hKc]
      by_cases w0 : what = 0
      · simp only [if_pos w0]; exact ⟨_, rfl, rfl⟩
      · simp only [if_neg w0]
        by_cases w1 : what = 1
        · simp only [if_pos w1]; exact ⟨_, rfl, rfl⟩
        · simp only [if_neg w1]
          by_cases w2 : what = 2
          · simp only [if_pos w2]; exact ⟨_, rfl, rfl⟩
          · simp only [if_neg w2]; exact ⟨_, rfl, rfl⟩
    · rw [if_neg kc, if_neg kc]; exact ⟨_, rfl, rfl⟩
theorem terms_both {F : Nat} {c I : Nat} (hI : I < 8) (cRg : Nat → Option Nat) (xk o0 o1 o2 o3 : Int32) (cnt : Nat → Int32) (c1 : cnt I = nI c) : mf_Desk_terms F (nI I) cRg xk (nI c) = some (nI c) ∧ mf_Model_terms F (nI I) o0 o1 o2 o3 cnt = some (nI c) := by
  have z1 : ¬ (1 : Int32) = 0 := by decide
  unfold mf_Desk_terms mf_Model_terms mf_Sum_count
  simp only [(rg_in F hI).1, (rg_in F hI).2, sd_b1_s, if_neg z1, sd_ixI hI (show I < 2147483648 by omega), sd_g_s, nI_clamp (show I < 2 ^ 31 by omega), c1]
  exact ⟨trivial, trivial⟩
/-- OUT: the same bytes, each a sign of ASCII -/
def out_same (n : Nat) (p q : Nat → Int32) : Prop := n ≤ 128 ∧ ∀ j, j < n → p j = q j ∧ p j &&& 255 = p j
theorem octet_both {F n : Nat} (k : Int32) (cRg : Nat → Option Nat) (pdn o0 o1 o2 : Int32) (p q : Nat → Int32) (h : out_same n p q) : ∃ v : Int32, mf_Desk_octet F k cRg (nI n) pdn p = some v ∧ mf_Model_octet F k o0 (nI n) o1 o2 q = some v := by
  unfold mf_Desk_octet mf_Model_octet mf_Page_length mf_Page_at
  have n8 := h.1
  by_cases k1 : k = -1
  · rw [if_pos k1, if_pos k1]; exact ⟨_, rfl, rfl⟩
  · rw [if_neg k1, if_neg k1]
    by_cases k0 : k < 0
    · rw [if_pos k0, if_pos k0]; exact ⟨_, rfl, rfl⟩
    · rw [if_neg k0, if_neg k0, sd_b1_s]
      by_cases kc : k < nI n
      · rw [if_pos kc, if_pos kc]
        obtain ⟨K, hK, rfl⟩ := nI_of k0
        have hKc : K < n := (nI_ltI hK (by omega)).mp kc
        simp only [sd_ixI (show K < 128 by omega) (show K < 2147483648 by omega), nI_clamp (show K < 2 ^ 31 by omega), sd_g_s, sd_b1_s]
        obtain ⟨a, b⟩ := h.2 K hKc
        exact ⟨p K, rfl, by rw [← a, b]⟩
      · rw [if_neg kc, if_neg kc]; exact ⟨_, rfl, rfl⟩
