/-! the class's chain, a step -/
def cw (f : Nat → Int32) (v : Nat) : Prop := dr_in 65536 (di f) 0 66 ∧ dr 65536 (di f) 0 66 = (v : Int)
theorem cw_dig {f : Nat → Int32} {v : Nat} (h : cw f v) {i : Nat} (hi : i < 66) : f i = nI (v / 65536 ^ i % 65536) := by
  have := dr_nat (W := 65536) (by omega) h.1 h.2 i hi
  rw [Nat.zero_add] at this
  exact di_nI this
theorem cw_part {f : Nat → Int32} {v k m : Nat} (h : cw f v) (hkm : k + m ≤ 66) (hv : v < 65536 ^ (k + m)) : dr 65536 (di f) k m = ((v / 65536 ^ k : Nat) : Int) := by
  have z : ∀ i, k + m ≤ i → i < 66 → di f i = 0 := fun i p q => by
    unfold di
    rw [cw_dig h q, Nat.div_eq_of_lt (Nat.lt_of_lt_of_le hv (Nat.pow_le_pow_right (by omega) p))]
    rfl
  have e := h.2
  have hk : dr_in 65536 (di f) 0 k := fun i p q => h.1 i p (by omega)
  have l1 := dr_pos 65536 (by decide) k 0 hk
  have l2 := dr_lt 65536 (by decide) k 0 hk
  have l3 := dr_pos 65536 (by decide) m k (fun i p q => h.1 i (by omega) (by omega))
  obtain ⟨lo, hlo⟩ := Int.eq_ofNat_of_zero_le l1
  obtain ⟨hi, hhi⟩ := Int.eq_ofNat_of_zero_le l3
  rw [show 66 = k + (m + (66 - k - m)) by omega, dr_cat, Nat.zero_add, dr_cat, dr_zero 65536 (f := di f) (66 - k - m) _ (fun i p q => z i (by omega) (by omega)), Int.mul_zero, Int.add_zero, hlo, hhi, show (65536 : Int) ^ k = ((65536 ^ k : Nat) : Int) from (Int.natCast_pow 65536 k).symm] at e
  rw [hlo, show (65536 : Int) ^ k = ((65536 ^ k : Nat) : Int) from (Int.natCast_pow 65536 k).symm] at l2
  have ev : v = lo + 65536 ^ k * hi := by
    have : ((lo + 65536 ^ k * hi : Nat) : Int) = (v : Int) := by rw [← e]; simp
    exact (Int.ofNat.inj this).symm
  rw [hhi, ev, Nat.add_mul_div_left _ _ (Nat.pow_pos (by omega)), Nat.div_eq_of_lt (Int.ofNat_lt.mp l2), Nat.zero_add]
theorem ch_loop {F t D : Nat} (hF : 18446744073709551616 ≤ F) {w : Nat → Int32} (hw : dr_in 65536 (di w) 0 66) (wt : w t ≠ 0) (hD : dr 65536 (di w) 0 (t + 1) = (D : Int)) (hD0 : 0 < D) (hDl : D < 65536 ^ (t + 1)) : ∀ (m fu : Nat) (q u : Nat → Int32) (X Q : Nat), m + t ≤ 65 → m < fu → cw u X → X < D * 65536 ^ m → (∀ i, i < m → q i = 0) → cw q Q →
    ∃ q' u', mf_Chain_goOn_L32 F (nI t) w fu (dnI m) q u = some (q', u') ∧ cw q' (Q + X / D) ∧ cw u' (X % D) := by
  intro m
  induction m with
  | zero =>
    intro fu q u X Q h1 h2 h3 h4 h5 h6
    obtain ⟨fu, rfl⟩ : ∃ g, fu = g + 1 := ⟨fu - 1, by omega⟩
    rw [mf_Chain_goOn_L32, if_pos dnI_n0]
    rw [Nat.pow_zero, Nat.mul_one] at h4
    exact ⟨q, u, rfl, by rw [Nat.div_eq_of_lt h4, Nat.add_zero]; exact h6, by rw [Nat.mod_eq_of_lt h4]; exact h3⟩
  | succ k ih =>
    intro fu q u X Q h1 h2 h3 h4 h5 h6
    obtain ⟨fu, rfl⟩ : ∃ g, fu = g + 1 := ⟨fu - 1, by omega⟩
    have pk : 0 < 65536 ^ k := Nat.pow_pos (by omega)
    have X1 : X < 65536 ^ (k + (t + 2)) := by
      have : D * 65536 ^ (k + 1) ≤ 65536 ^ (t + 1) * 65536 ^ (k + 1) := Nat.mul_le_mul_right _ (Nat.le_of_lt hDl)
      rw [← Nat.pow_add, show t + 1 + (k + 1) = k + (t + 2) by omega] at this
      omega
    have vk := cw_part (k := k) (m := t + 2) h3 (by omega) X1
    have V1 : X / 65536 ^ k < D * 65536 := by
      rw [Nat.div_lt_iff_lt_mul pk, Nat.mul_assoc, Nat.mul_comm 65536, ← Nat.pow_succ]; exact h4
    obtain ⟨u', a1, a2, a3, a4⟩ := ch_take (F := F) (k := k) (t := t) hF (by omega) h3.1 hw wt vk hD V1
    generalize hV : X / 65536 ^ k = V at *
    have dX := Nat.div_add_mod X (65536 ^ k)
    rw [hV] at dX
    have mX := Nat.mod_lt X pk
    have dV := Nat.div_add_mod V D
    have mV := Nat.mod_lt V hD0
    have qV : V / D < 65536 := by rw [Nat.div_lt_iff_lt_mul hD0, Nat.mul_comm]; exact V1
    -- the row that is left
    have u'in : dr_in 65536 (di u') 0 66 := fun i p r => by
      rcases Nat.lt_or_ge i k with z | z
      · unfold di; rw [a4 i (Or.inl z)]; exact h3.1 i p (by omega)
      · rcases Nat.lt_or_ge i (k + (t + 2)) with y | y
        · exact a3 i z y
        · unfold di; rw [a4 i (Or.inr (by omega))]; exact h3.1 i p (by omega)
    have u'v : cw u' (X % 65536 ^ k + 65536 ^ k * (V % D)) := by
      refine ⟨u'in, ?_⟩
      have low : dr 65536 (di u') 0 k = ((X % 65536 ^ k : Nat) : Int) := by
        have e1 : dr 65536 (di u') 0 k = dr 65536 (di u) 0 k := dr_congr _ _ _ (fun i p r => by unfold di; rw [a4 i (Or.inl (by omega))])
        rw [e1]
        have := dr_ofNat (W := 65536) (by omega) (f := di u) (v := X) k (fun i hi => by
          have := dr_nat (W := 65536) (by omega) h3.1 h3.2 i (by omega)
          rw [Nat.zero_add] at this; exact this)
        exact this
      have high : dr 65536 (di u') (k + (t + 2)) (66 - k - (t + 2)) = 0 := dr_zero _ _ _ (fun i p r => by
        unfold di
        rw [a4 i (Or.inr (by omega)), cw_dig h3 (by omega), Nat.div_eq_of_lt (Nat.lt_of_lt_of_le X1 (Nat.pow_le_pow_right (by omega) p))]
        rfl)
      rw [show 66 = k + ((t + 2) + (66 - k - (t + 2))) by omega, dr_cat, Nat.zero_add, dr_cat, high, low, a2, Int.mul_zero, Int.add_zero, show (65536 : Int) ^ k = ((65536 ^ k : Nat) : Int) from (Int.natCast_pow 65536 k).symm, ← Int.natCast_mul, ← Int.natCast_add]
    rw [mf_Chain_goOn_L32, dnI_s, if_neg (dnI_np (by omega)), a1, sd_b2_s, sd_g_t (sd_ixI (by omega) (by omega)), sd_let_s, sd_let_s, dnI_d, nI_clamp (by omega)]
    -- the quotient's row
    have q'v : cw (upd q k (nI (V / D))) (Q + 65536 ^ k * (V / D)) := by
      have in' : dr_in 65536 (di (upd q k (nI (V / D)))) 0 66 := fun i p r => by
        rw [di_upd]
        by_cases z : i = k
        · rw [if_pos z, nI_toInt (by omega)]; exact ⟨Int.natCast_nonneg _, Int.ofNat_lt.mpr qV⟩
        · rw [if_neg z]; exact h6.1 i p r
      refine ⟨in', ?_⟩
      have e6 := h6.2
      have z0 : di q k = 0 := by unfold di; rw [h5 k (by omega)]; rfl
      rw [show 66 = k + (1 + (65 - k)) by omega, dr_cat, Nat.zero_add, dr_cat, dr_s, dr_0] at e6 ⊢
      rw [dr_congr 65536 (f := di (upd q k (nI (V / D)))) (g := di q) k 0 (fun i p r => by rw [di_upd, if_neg (by omega)]), dr_congr 65536 (f := di (upd q k (nI (V / D)))) (g := di q) (65 - k) (k + 1) (fun i p r => by rw [di_upd, if_neg (by omega)]), di_upd, if_pos rfl, nI_toInt (by omega)]
      rw [z0] at e6
      rw [Int.natCast_add, Int.natCast_mul, ← e6, show ((65536 ^ k : Nat) : Int) = (65536 : Int) ^ k from Int.natCast_pow 65536 k]
      generalize dr 65536 (di q) 0 k = y1
      generalize dr 65536 (di q) (k + 1) (65 - k) = y2
      generalize (65536 : Int) ^ k = y3
      generalize ((V / D : Nat) : Int) = y4
      grind
    have X' : X % 65536 ^ k + 65536 ^ k * (V % D) < D * 65536 ^ k := by
      have : 65536 ^ k * (V % D + 1) ≤ 65536 ^ k * D := Nat.mul_le_mul_left _ mV
      rw [Nat.mul_add, Nat.mul_one, Nat.mul_comm (65536 ^ k) D] at this
      omega
    obtain ⟨q2, u2, b1, b2, b3⟩ := ih fu (upd q k (nI (V / D))) u' _ _ (by omega) (by omega) u'v X' (fun i p => by rw [show upd q k (nI (V / D)) i = q i from if_neg (by omega)]; exact h5 i (by omega)) q'v
    have eX : X = (X % 65536 ^ k + 65536 ^ k * (V % D)) + D * (65536 ^ k * (V / D)) := by
      have : 65536 ^ k * V = 65536 ^ k * (V % D) + D * (65536 ^ k * (V / D)) := by
        generalize V / D = y1 at *
        generalize V % D = y2 at *
        generalize 65536 ^ k = y3
        rw [← dV]; grind
      omega
    refine ⟨q2, u2, b1, ?_, ?_⟩
    · have : X / D = (X % 65536 ^ k + 65536 ^ k * (V % D)) / D + 65536 ^ k * (V / D) := by
        conv => lhs; rw [eX]
        rw [Nat.add_mul_div_left _ _ hD0]
      rw [this]
      rw [show Q + ((X % 65536 ^ k + 65536 ^ k * (V % D)) / D + 65536 ^ k * (V / D)) = Q + 65536 ^ k * (V / D) + (X % 65536 ^ k + 65536 ^ k * (V % D)) / D by omega]
      exact b2
    · have : X % D = (X % 65536 ^ k + 65536 ^ k * (V % D)) % D := by
        conv => lhs; rw [eX]
        rw [Nat.add_mul_mod_self_left]
      rw [this]
      exact b3
/-- goOn -/
theorem ch_goOn {F U L : Nat} (hF : 18446744073709551616 ≤ F) {u w : Nat → Int32} (hu : cw u U) (hw : cw w L) (hU : U < 65536 ^ 65) (hL : L < U) (q : Nat → Int32) :
    (L = 0 → mf_Chain_goOn F u w q = some (0, u, w, q)) ∧ (0 < L → ∃ u' q', mf_Chain_goOn F u w q = some (1, w, u', q') ∧ cw u' (U % L) ∧ cw q' (U / L)) := by
  obtain ⟨j, a1, a2, a3, a4⟩ := wo_top hF (show 66 < 2147483648 by omega) w
  unfold mf_Chain_goOn
  rw [a2, sd_b1_s]
  constructor
  · intro l0
    have j0 : j = 0 := by
      rcases a4 with z | z
      · exact z
      · rcases Nat.eq_zero_or_pos j with y | y
        · exact y
        · exfalso
          apply z
          rw [cw_dig hw (by omega), l0, Nat.zero_div]; rfl
    subst j0
    rw [if_neg (by decide)]
  · intro l0
    rcases Nat.eq_zero_or_pos j with y | y
    · exfalso
      subst y
      have : dr 65536 (di w) 0 66 = 0 := dr_zero _ _ _ (fun i p q => by unfold di; rw [a3 i (by omega) (by omega)]; rfl)
      rw [hw.2] at this
      omega
    · obtain ⟨t, rfl⟩ : ∃ t, j = t + 1 := ⟨j - 1, by omega⟩
      have wt : w t ≠ 0 := by rcases a4 with z | z; omega; exact z
      have Lr : dr 65536 (di w) 0 (t + 1) = (L : Int) := by
        rw [← hw.2, show 66 = (t + 1) + (65 - t) by omega, dr_cat 65536 (di w) (t + 1) 0 (65 - t), dr_zero 65536 (f := di w) (65 - t) _ (fun i p q => by unfold di; rw [a3 i (by omega) (by omega)]; rfl)]
        simp
      have Ll : L < 65536 ^ (t + 1) := by
        have := dr_lt 65536 (by decide) (t + 1) 0 (fun i p q => hw.1 i p (by omega))
        rw [Lr, show (65536 : Int) ^ (t + 1) = ((65536 ^ (t + 1) : Nat) : Int) from (Int.natCast_pow 65536 _).symm] at this
        exact Int.ofNat_lt.mp this
      have Lg : 65536 ^ t ≤ L := by
        rcases Nat.lt_or_ge L (65536 ^ t) with z | z
        · exfalso
          apply wt
          rw [cw_dig hw (by omega), Nat.div_eq_of_lt z]; rfl
        · exact z
      obtain ⟨qz, b1, b2⟩ := wf_fill hF (show 66 < 2147483648 by omega) 0 q
      obtain ⟨i, c1, c2, c3, c4⟩ := wo_top hF (show 66 < 2147483648 by omega) u
      have Ul : U < 65536 ^ i := by
        have hin : dr_in 65536 (di u) 0 i := fun j p q => hu.1 j p (by omega)
        have e : dr 65536 (di u) 0 i = (U : Int) := by
          rw [← hu.2, show 66 = i + (66 - i) by omega, dr_cat 65536 (di u) i 0 (66 - i), dr_zero 65536 (f := di u) (66 - i) _ (fun j p q => by unfold di; rw [c3 j (by omega) (by omega)]; rfl)]
          simp
        have := dr_lt 65536 (by decide) i 0 hin
        rw [e, show (65536 : Int) ^ i = ((65536 ^ i : Nat) : Int) from (Int.natCast_pow 65536 _).symm] at this
        exact Int.ofNat_lt.mp this
      have ti : t + 1 ≤ i := by
        rcases Nat.lt_or_ge i (t + 1) with z | z
        · exfalso
          have : 65536 ^ i ≤ 65536 ^ t := Nat.pow_le_pow_right (by omega) (by omega)
          omega
        · exact z
      have i65 : i ≤ 65 := by
        rcases Nat.lt_or_ge 65 i with z | z
        · exfalso
          rcases c4 with y | y
          · omega
          · apply y
            rw [cw_dig hu (by omega), Nat.div_eq_of_lt (Nat.lt_of_lt_of_le hU (Nat.pow_le_pow_right (by omega) (by omega)))]
            rfl
        · exact z
      obtain ⟨i', rfl⟩ : ∃ i', i = i' + 1 := ⟨i - 1, by omega⟩
      have kk : nI i' - nI t = dnI (i' - t + 1) := by rw [nI_sub (by omega) (by omega)]; rfl
      have q0 : cw qz 0 := ⟨fun j p r => by unfold di; rw [b2 j (by omega)]; decide, dr_zero _ _ _ (fun j p r => by unfold di; rw [b2 j (by omega)]; rfl)⟩
      obtain ⟨q', u', d1, d2, d3⟩ := ch_loop (F := F) (t := t) (D := L) hF hw.1 wt Lr l0 Ll (i' - t + 1) F qz u U 0 (by omega) (by omega) hu (by
        have : 65536 ^ t * 65536 ^ (i' - t + 1) ≤ L * 65536 ^ (i' - t + 1) := Nat.mul_le_mul_right _ Lg
        rw [← Nat.pow_add, show t + (i' - t + 1) = i' + 1 by omega] at this
        omega) (fun j p => b2 j (by omega)) q0
      rw [dnI_s, if_pos (nI_pos' (by omega)), b1, sd_b1_s, c2, sd_b1_s, sd_let_s, dnI_s, kk, d1, sd_b2_s]
      rw [Nat.zero_add] at d2
      exact ⟨u', q', rfl, d3, d2⟩
/-- agreesWith -/
theorem ch_agLoop (f g : Nat → Int32) : ∀ (m fu k : Nat), k + m = 66 → m < fu → (mf_Chain_agreesWith_L2 f g fu (nI k) = some 1 ∧ ∀ i, k ≤ i → i < 66 → f i = g i) ∨ (mf_Chain_agreesWith_L2 f g fu (nI k) = some 0 ∧ ∃ i, i < 66 ∧ f i ≠ g i) := by
  intro m
  induction m with
  | zero =>
    intro fu k h1 h2
    obtain ⟨fu, rfl⟩ : ∃ g, fu = g + 1 := ⟨fu - 1, by omega⟩
    rw [mf_Chain_agreesWith_L2, show (66 : Int32) = nI 66 from rfl, nI_ifLe (by omega) (by omega), if_pos (by omega)]
    exact Or.inl ⟨rfl, fun i _ _ => by omega⟩
  | succ m ih =>
    intro fu k h1 h2
    obtain ⟨fu, rfl⟩ : ∃ g, fu = g + 1 := ⟨fu - 1, by omega⟩
    rw [mf_Chain_agreesWith_L2, show (66 : Int32) = nI 66 from rfl, nI_ifLe (by omega) (by omega), if_neg (by omega), sd_g_t (sd_ixI (by omega) (by omega)), sd_g_t (sd_ixI (by omega) (by omega)), nI_clamp (by omega), sd_let_s, nI_1]
    by_cases h : f k = g k
    · rw [if_pos h]
      rcases ih fu (k + 1) (by omega) (by omega) with ⟨a, b⟩ | ⟨a, b⟩
      · refine Or.inl ⟨a, fun i p q => ?_⟩
        rcases Nat.eq_or_lt_of_le p with z | z
        · rw [← z]; exact h
        · exact b i (by omega) q
      · exact Or.inr ⟨a, b⟩
    · rw [if_neg h]
      exact Or.inr ⟨rfl, k, by omega, h⟩
theorem ch_agrees {F v w : Nat} (hF : 18446744073709551616 ≤ F) {f g : Nat → Int32} (hf : cw f v) (hg : cw g w) : mf_Chain_agreesWith F f g = some (if v = w then 1 else 0) := by
  unfold mf_Chain_agreesWith
  rcases ch_agLoop f g 66 F 0 (by omega) (by omega) with ⟨a, b⟩ | ⟨a, i, b, c⟩
  · have a' : mf_Chain_agreesWith_L2 f g F 0 = some 1 := a
    have e : v = w := by
      have : dr 65536 (di f) 0 66 = dr 65536 (di g) 0 66 := dr_congr _ _ _ (fun i p q => by unfold di; rw [b i (by omega) (by omega)])
      rw [hf.2, hg.2] at this
      exact Int.ofNat.inj this
    rw [a', sd_b1_s, if_neg (by decide), if_pos e]
  · have a' : mf_Chain_agreesWith_L2 f g F 0 = some 0 := a
    have e : ¬ v = w := fun z => c (by rw [cw_dig hf b, cw_dig hg b, z])
    rw [a', sd_b1_s, if_pos rfl, if_neg e]
/-- told -/
theorem ch_toldLoop {v : Nat} {f : Nat → Int32} (hf : cw f v) (hv : v < 4611686018427387904) : ∀ (m fu : Nat), m ≤ 4 → m < fu → mf_Chain_told_L31 f fu (lN (v / 65536 ^ m)) (dnI m) = some (lN v) := by
  intro m
  induction m with
  | zero =>
    intro fu h1 h2
    obtain ⟨fu, rfl⟩ : ∃ g, fu = g + 1 := ⟨fu - 1, by omega⟩
    rw [mf_Chain_told_L31, if_pos dnI_n0, Nat.pow_zero, Nat.div_one]
  | succ m ih =>
    intro fu h1 h2
    obtain ⟨fu, rfl⟩ : ∃ g, fu = g + 1 := ⟨fu - 1, by omega⟩
    have ml : v / 65536 ^ m % 65536 < 65536 := Nat.mod_lt _ (by omega)
    have e : v / 65536 ^ (m + 1) = v / 65536 ^ m / 65536 := by rw [Nat.pow_succ, Nat.div_div_eq_div_mul]
    have s1 : ∀ a : Nat, lN a <<< ((16 : Int32).toInt64 &&& 63) = lN (a * 65536) := fun a => wb_shl a (k := 16) (by omega)
    rw [mf_Chain_told_L31, dnI_s, if_neg (dnI_np (by omega)), sd_g_t (sd_ixI (by omega) (by omega)), sd_let_s, sd_let_s, nI_clamp (by omega), cw_dig hf (by omega), nI_l (by omega), s1, lN_add, dnI_d, e, show v / 65536 ^ m / 65536 * 65536 + v / 65536 ^ m % 65536 = v / 65536 ^ m by omega]
    exact ih fu (by omega) (by omega)
theorem ch_told {F v : Nat} (hF : 18446744073709551616 ≤ F) {f : Nat → Int32} (hf : cw f v) : mf_Chain_told F f = some (lN (min v 4611686018427387903)) := by
  obtain ⟨j, a1, a2, a3, a4⟩ := wo_top hF (show 66 < 2147483648 by omega) f
  have p4 : (65536 : Nat) ^ 4 = 18446744073709551616 := by decide
  have p3 : (65536 : Nat) ^ 3 = 281474976710656 := by decide
  unfold mf_Chain_told
  rw [a2, sd_b1_s]
  have d3 : (dnI j).toInt = (j : Int) - 1 := by
    cases j with
    | zero => rfl
    | succ j => rw [dnI_s, nI_toInt (by omega)]; omega
  by_cases c : 4 < j
  · have big : 65536 ^ 4 ≤ v := by
      rcases Nat.lt_or_ge v (65536 ^ 4) with z | z
      · exfalso
        rcases a4 with y | y
        · omega
        · apply y
          rw [cw_dig hf (by omega), Nat.div_eq_of_lt (Nat.lt_of_lt_of_le z (Nat.pow_le_pow_right (by omega) (by omega)))]
          rfl
      · exact z
    rw [if_pos (ni_lt.mpr (by rw [d3]; show (3 : Int) < _; omega)), Nat.min_eq_right (by omega)]
    rfl
  · have vl : v < 65536 ^ 4 := by
      have hin : dr_in 65536 (di f) 0 4 := fun i p q => hf.1 i p (by omega)
      have e : dr 65536 (di f) 0 4 = (v : Int) := by
        rw [← hf.2, show 66 = 4 + 62 by omega, dr_cat 65536 (di f) 4 0 62, dr_zero 65536 (f := di f) 62 _ (fun i p q => by unfold di; rw [a3 i (by omega) (by omega)]; rfl)]
        simp
      have := dr_lt 65536 (by decide) 4 0 hin
      rw [e, show (65536 : Int) ^ 4 = ((65536 ^ 4 : Nat) : Int) from (Int.natCast_pow 65536 _).symm] at this
      exact Int.ofNat_lt.mp this
    rw [if_neg (fun z => by have := ni_lt.mp z; rw [d3, show (3 : Int32).toInt = 3 from rfl] at this; omega), show (3 : Int32).toNatClampNeg = 3 from rfl, cw_dig hf (by omega), p3, show (16383 : Int32) = nI 16383 from rfl, nI_ifLe (by omega) (by omega)]
    by_cases c2 : v / 281474976710656 % 65536 ≤ 16383
    · have small : v < 4611686018427387904 := by omega
      have lp := ch_toldLoop hf small 4 F (by omega) (by omega)
      rw [p4, Nat.div_eq_of_lt (by omega)] at lp
      have lp' : mf_Chain_told_L31 f F 0 3 = some (lN v) := lp
      rw [if_pos c2, lp', sd_b1_s, Nat.min_eq_left (by omega)]
    · rw [if_neg c2, Nat.min_eq_right (by omega)]
      rfl
/-- begin -/
theorem ch_begin {F : Nat} (hF : 18446744073709551616 ≤ F) {e : Nat → Int32} {v : Int} (he : en_is e v) (u w : Nat → Int32) : ∃ u' w', mf_Chain_begin F u w e = some (u', w') ∧ cw u' ptN ∧ cw w' (v % ptN).toNat := by
  obtain ⟨a, a1, a2⟩ := wf_fill hF (show 66 < 2147483648 by omega) 0 u
  obtain ⟨b, b1, b2⟩ := wf_fill hF (show 66 < 2147483648 by omega) 0 w
  obtain ⟨-, c2⟩ := en_cut he
  have hp : (0 : Int) < ptN := Int.ofNat_lt.mpr ptN_pos
  have m1 := Int.emod_nonneg v (show (ptN : Int) ≠ 0 by omega)
  unfold mf_Chain_begin
  rw [a1, sd_b1_s, sd_let_s, b1, sd_b1_s, sd_g_t (by decide), sd_let_s]
  refine ⟨_, _, rfl, ?_, ?_⟩
  · show cw (upd a 64 1) ptN
    have one : (1 : Int32).toInt = 1 := rfl
    refine ⟨fun i p q => ?_, ?_⟩
    · rw [di_upd]
      by_cases z : i = 64
      · rw [if_pos z, one]; decide
      · rw [if_neg z]; unfold di; rw [a2 i (by omega)]; decide
    · rw [show 66 = 64 + 2 from rfl, dr_cat, dr_zero 65536 (f := di (upd a 64 1)) 64 0 (fun i p q => by rw [di_upd, if_neg (by omega)]; unfold di; rw [a2 i (by omega)]; rfl)]
      have h2 : dr 65536 (di (upd a 64 1)) (0 + 64) 2 = 1 := by
        rw [dr_s, dr_s, dr_0, di_upd, if_pos rfl, di_upd, if_neg (by decide), one]
        unfold di; rw [a2 _ (by omega)]; rfl
      rw [h2, pt_pow]; omega
  · show cw (va_cpy e b 0 0 64) _
    have cp : ∀ i, i < 64 → va_cpy e b 0 0 64 i = e i := fun i p => by
      unfold va_cpy
      rw [if_pos ⟨by omega, by omega⟩]
      congr 1
      omega
    have cq : ∀ i, 64 ≤ i → i < 66 → va_cpy e b 0 0 64 i = 0 := fun i p q => by
      unfold va_cpy
      rw [if_neg (by omega)]
      exact b2 i q
    refine ⟨fun i p q => ?_, ?_⟩
    · rcases Nat.lt_or_ge i 64 with z | z
      · unfold di; rw [cp i z]; exact he.1 i p (by omega)
      · unfold di; rw [cq i z (by omega)]; decide
    · rw [show 66 = 64 + 2 from rfl, dr_cat, dr_zero 65536 (f := di (va_cpy e b 0 0 64)) 2 _ (fun i p q => by unfold di; rw [cq i (by omega) (by omega)]; rfl), dr_congr 65536 (g := di e) 64 0 (fun i p q => by unfold di; rw [cp i (by omega)]), ← c2]
      omega
