/-! the greatest square that divides -/
def sq_free (q : Nat) : Prop := ∀ d : Nat, d * d ∣ q → d = 1
def sq_prime (p : Nat) : Prop := 1 < p ∧ ∀ d : Nat, d ∣ p → d = 1 ∨ d = p
theorem sq_has {d : Nat} (h : 1 < d) : ∃ q, sq_prime q ∧ q ∣ d := by
  obtain ⟨q, ⟨h1, h2⟩, h3⟩ := pk_least (fun q => 1 < q ∧ q ∣ d) ⟨d, h, Nat.dvd_refl d⟩
  refine ⟨q, ⟨h1, fun e he => ?_⟩, h2⟩
  rcases Nat.lt_or_ge e q with hq | hq
  · left
    have := h3 e hq
    have e0 : e ≠ 0 := fun z => by subst z; have := Nat.eq_zero_of_zero_dvd he; omega
    rcases Nat.lt_or_ge 1 e with h4 | h4
    · exact absurd ⟨h4, Nat.dvd_trans he h2⟩ this
    · omega
  · right; exact Nat.le_antisymm (Nat.le_of_dvd (by omega) he) hq
theorem sq_prime_cop {p a : Nat} (hp : sq_prime p) (h : ¬ p ∣ a) : Nat.Coprime p a := by
  rcases hp.2 (Nat.gcd p a) (Nat.gcd_dvd_left p a) with e | e
  · exact e
  · exact absurd (e ▸ Nat.gcd_dvd_right p a) h
theorem sq_free_mul {a b : Nat} (hc : Nat.Coprime a b) (ha : sq_free a) (hb : sq_free b) (ha0 : 0 < a) (hb0 : 0 < b) : sq_free (a * b) := by
  intro d hd
  rcases Nat.lt_or_ge 1 d with h1 | h1
  · obtain ⟨q, hq, hqd⟩ := sq_has h1
    have h2 : q * q ∣ a * b := Nat.dvd_trans (Nat.mul_dvd_mul hqd hqd) hd
    by_cases h3 : q ∣ a
    · have h4 : ¬ q ∣ b := fun z => by
        have : q ∣ Nat.gcd a b := Nat.dvd_gcd h3 z
        rw [hc.gcd_eq_one] at this
        have := Nat.le_of_dvd (by omega) this
        have := hq.1
        omega
      have h5 := sq_prime_cop hq h4
      have h6 : q * q ∣ a := (Nat.Coprime.mul_left h5 h5).dvd_of_dvd_mul_right h2
      have := ha q h6
      have := hq.1
      omega
    · have h5 := sq_prime_cop hq h3
      have h6 : q * q ∣ b := (Nat.Coprime.mul_left h5 h5).dvd_of_dvd_mul_left h2
      have := hb q h6
      have := hq.1
      omega
  · rcases (show d = 0 ∨ d = 1 by omega) with h | h
    · subst h
      have := Nat.eq_zero_of_zero_dvd (show 0 ∣ a * b from hd)
      have := Nat.mul_pos ha0 hb0
      omega
    · exact h
theorem sq_prime_free {p : Nat} (hp : sq_prime p) : sq_free p := by
  intro d hd
  have h1 : d ∣ p := Nat.dvd_trans (Nat.dvd_mul_right d d) hd
  rcases hp.2 d h1 with e | e
  · exact e
  · subst e
    have := Nat.le_of_dvd (by have := hp.1; omega) hd
    have h2 := hp.1
    have h3 : d * 2 ≤ d * d := Nat.mul_le_mul_left d h2
    omega
/-- with a square-free rest, every such divisor divides the side -/
theorem sq_max {s q t : Nat} (hs : 0 < s) (hq : sq_free q) (h : t * t ∣ s * s * q) : t ∣ s := by
  have g0 : 0 < Nat.gcd t s := Nat.gcd_pos_of_pos_right _ hs
  obtain ⟨t', ht⟩ := Nat.gcd_dvd_left t s
  obtain ⟨s', hs'⟩ := Nat.gcd_dvd_right t s
  have hc : Nat.Coprime t' s' := by
    have h1 := Nat.coprime_div_gcd_div_gcd (m := t) (n := s) g0
    have e1 : t / Nat.gcd t s = t' := by
      rw [Nat.div_eq_iff_eq_mul_right g0 (Nat.gcd_dvd_left t s)]; exact ht
    have e2 : s / Nat.gcd t s = s' := by
      rw [Nat.div_eq_iff_eq_mul_right g0 (Nat.gcd_dvd_right t s)]; exact hs'
    rw [e1, e2] at h1
    exact h1
  generalize hg : Nat.gcd t s = g at *
  have h2 : (g * g) * (t' * t') ∣ (g * g) * (s' * s' * q) := by
    have a1 : t * t = (g * g) * (t' * t') := by rw [ht]; ac_rfl
    have a2 : s * s * q = (g * g) * (s' * s' * q) := by rw [hs']; ac_rfl
    rw [← a1, ← a2]; exact h
  have h3 : t' * t' ∣ s' * s' * q := Nat.dvd_of_mul_dvd_mul_left (Nat.mul_pos g0 g0) h2
  have c2 : Nat.Coprime (t' * t') (s' * s') := Nat.Coprime.mul_left (Nat.Coprime.mul_right hc hc) (Nat.Coprime.mul_right hc hc)
  have h4 : t' * t' ∣ q := c2.dvd_of_dvd_mul_left h3
  have h5 := hq t' h4
  rw [ht, h5, Nat.mul_one, hs']
  exact Nat.dvd_mul_right g s'
/-- between the steps of the class's way -/
def sq_inv (m side left K p : Nat) : Prop := m = side * side * left * K ∧ 0 < side ∧ 0 < left ∧ 0 < K ∧ sq_free K ∧ Nat.Coprime K left ∧ ∀ d, 2 ≤ d → d < p → ¬ d ∣ left
theorem sq_p_prime {left p : Nat} (hp : 2 ≤ p) (hn : ∀ d, 2 ≤ d → d < p → ¬ d ∣ left) (h : p ∣ left) : sq_prime p := by
  refine ⟨by omega, fun d hd => ?_⟩
  have d0 : d ≠ 0 := fun z => by subst z; have := Nat.eq_zero_of_zero_dvd hd; omega
  have dl := Nat.le_of_dvd (by omega) hd
  rcases Nat.lt_or_ge d 2 with q | q
  · left; omega
  · rcases Nat.lt_or_ge d p with q2 | q2
    · exact absurd (Nat.dvd_trans hd h) (hn d q q2)
    · right; omega
theorem sq_pair {m side left K p : Nat} (h : sq_inv m side (left * p * p) K p) (hp : 2 ≤ p) : sq_inv m (side * p) left K p := by
  obtain ⟨h1, h2, h3, h4, h5, h6, h7⟩ := h
  have hl : 0 < left := by
    rcases Nat.eq_zero_or_pos left with z | z
    · subst z; simp at h3
    · exact z
  have hd : left ∣ left * p * p := ⟨p * p, by ac_rfl⟩
  exact ⟨by rw [h1]; ac_rfl, Nat.mul_pos h2 (by omega), hl, h4, h5, h6.coprime_dvd_right hd, fun d a b c => h7 d a b (Nat.dvd_trans c hd)⟩
theorem sq_single {m side left K p : Nat} (h : sq_inv m side (left * p) K p) (hp : 2 ≤ p) (hn : ¬ p ∣ left) : sq_inv m side left (K * p) p := by
  obtain ⟨h1, h2, h3, h4, h5, h6, h7⟩ := h
  have hl : 0 < left := by
    rcases Nat.eq_zero_or_pos left with z | z
    · subst z; simp at h3
    · exact z
  have hd : left ∣ left * p := ⟨p, rfl⟩
  have hd2 : p ∣ left * p := ⟨left, by ac_rfl⟩
  have hpr := sq_p_prime hp h7 hd2
  have c1 : Nat.Coprime K p := h6.coprime_dvd_right hd2
  exact ⟨by rw [h1]; ac_rfl, h2, hl, Nat.mul_pos h4 (by omega), sq_free_mul c1 h5 (sq_prime_free hpr) h4 (by omega), Nat.Coprime.mul_left (h6.coprime_dvd_right hd) (sq_prime_cop hpr hn), fun d a b c => h7 d a b (Nat.dvd_trans c hd)⟩
theorem sq_next {m side left K p : Nat} (h : sq_inv m side left K p) (hn : ¬ p ∣ left) : sq_inv m side left K (p + 1) := by
  obtain ⟨h1, h2, h3, h4, h5, h6, h7⟩ := h
  refine ⟨h1, h2, h3, h4, h5, h6, fun d a b c => ?_⟩
  rcases Nat.lt_or_ge d p with q | q
  · exact h7 d a q c
  · obtain rfl : d = p := by omega
    exact hn c
/-- the end: what is left is a square, or square-free -/
theorem sq_last {m side left K p r : Nat} (h : sq_inv m side left K p) (hp : 2 ≤ p) (h3 : left < p * p * p) (hr1 : r * r ≤ left) (hr2 : left < (r + 1) * (r + 1)) :
    ∃ s q, (if 0 < r ∧ r * r = left then side * r else side) = s ∧ m = s * s * q ∧ sq_free q ∧ 0 < s := by
  obtain ⟨e1, e2, e3, e4, e5, e6, e7⟩ := h
  by_cases hs : 0 < r ∧ r * r = left
  · rw [if_pos hs]
    refine ⟨side * r, K, rfl, ?_, e5, Nat.mul_pos e2 hs.1⟩
    rw [e1, ← hs.2]; ac_rfl
  · rw [if_neg hs]
    have hf : sq_free left := by
      intro d hd
      have d0 : d ≠ 0 := fun z => by subst z; have := Nat.eq_zero_of_zero_dvd (show 0 ∣ left from hd); omega
      rcases Nat.lt_or_ge d 2 with q | q
      · omega
      · exfalso
        have hdl : d ∣ left := Nat.dvd_trans (Nat.dvd_mul_right d d) hd
        have hdp : p ≤ d := by
          rcases Nat.lt_or_ge d p with z | z
          · exact absurd hdl (e7 d q z)
          · exact z
        obtain ⟨e, he⟩ := hd
        have hel : e ∣ left := ⟨d * d, by rw [he]; ac_rfl⟩
        have he0 : e ≠ 0 := fun z => by subst z; simp at he; omega
        have hep : e < p := by
          rcases Nat.lt_or_ge e p with z | z
          · exact z
          · exfalso
            have a1 : p * p ≤ d * d := Nat.mul_le_mul hdp hdp
            have a2 : p * p * p ≤ d * d * e := Nat.mul_le_mul a1 z
            omega
        have he1 : e = 1 := by
          rcases Nat.lt_or_ge e 2 with z | z
          · omega
          · exact absurd hel (e7 e z hep)
        rw [he1, Nat.mul_one] at he
        have a1 : r ≤ d := by
          rcases Nat.lt_or_ge d r with z | z
          · have := Nat.mul_le_mul (show d + 1 ≤ r by omega) (show d + 1 ≤ r by omega)
            have q2 : d * d < (d + 1) * (d + 1) := Nat.mul_lt_mul'' (by omega) (by omega)
            omega
          · exact z
        have a2 : d ≤ r := by
          rcases Nat.lt_or_ge r d with z | z
          · have := Nat.mul_le_mul (show r + 1 ≤ d by omega) (show r + 1 ≤ d by omega)
            omega
          · exact z
        have a3 : r = d := by omega
        exact hs ⟨by omega, by rw [a3]; exact he.symm⟩
    refine ⟨side, left * K, rfl, by rw [e1]; ac_rfl, sq_free_mul e6.symm hf e5 e3 e4, e2⟩
