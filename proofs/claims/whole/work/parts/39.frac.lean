/-! fractions: what class and reference say of a register -/
def fr_is (c : Nat) (R : Nat → Int64) : Prop := c = 0 ∨ (c = 1 ∧ R 0 = 1)
def fr_n (c : Nat) (T : Nat → Int64) : Int64 := if c = 0 then 0 else T 0
def fr_d (c : Nat) (B : Nat → Int64) : Int64 := if c = 0 then 1 else B 0
theorem nI_is0 {c : Nat} (h : c ≤ 8) : nI c = (0 : Int32) ↔ c = 0 := by
  rw [show (0 : Int32) = nI 0 from rfl]; exact nI_eq (by omega) (by omega)
theorem nI_is1 {c : Nat} (h : c ≤ 8) : nI c = (1 : Int32) ↔ c = 1 := by
  rw [show (1 : Int32) = nI 1 from rfl]; exact nI_eq (by omega) (by omega)
theorem mf_isFraction (F : Nat) (k : Int32) {c : Nat} (hc : c ≤ 8) (R : Nat → Int64) : (fr_is c R → mf_Sum_isFraction F k (nI c) R = some 1) ∧ (¬ fr_is c R → mf_Sum_isFraction F k (nI c) R = some 0) := by
  unfold mf_Sum_isFraction fr_is
  rw [show (0 : Int32).toNatClampNeg = 0 from rfl]
  by_cases h0 : c = 0
  · rw [if_pos ((nI_is0 hc).mpr h0)]
    exact ⟨fun _ => rfl, fun q => absurd (Or.inl h0) q⟩
  · rw [if_neg (fun z => h0 ((nI_is0 hc).mp z))]
    by_cases h1 : c = 1
    · rw [if_pos ((nI_is1 hc).mpr h1)]
      by_cases h2 : R 0 = 1
      · rw [if_pos h2]; exact ⟨fun _ => rfl, fun q => absurd (Or.inr ⟨h1, h2⟩) q⟩
      · rw [if_neg h2]; exact ⟨fun q => by rcases q with q | q; exact absurd q h0; exact absurd q.2 h2, fun _ => rfl⟩
    · rw [if_neg (fun z => h1 ((nI_is1 hc).mp z))]
      exact ⟨fun q => by rcases q with q | q; exact absurd q h0; exact absurd q.1 h1, fun _ => rfl⟩
theorem mf_top (F : Nat) (k : Int32) {c : Nat} (hc : c ≤ 8) (T : Nat → Int64) : mf_Sum_top F k (nI c) T = some (fr_n c T) := by
  unfold mf_Sum_top fr_n
  rw [show (0 : Int32).toNatClampNeg = 0 from rfl]
  by_cases h0 : c = 0
  · rw [if_pos ((nI_is0 hc).mpr h0), if_pos h0]; rfl
  · rw [if_neg (fun z => h0 ((nI_is0 hc).mp z)), if_neg h0]; rfl
theorem mf_bottom (F : Nat) (k : Int32) {c : Nat} (hc : c ≤ 8) (B : Nat → Int64) : mf_Sum_bottom F k (nI c) B = some (fr_d c B) := by
  unfold mf_Sum_bottom fr_d
  rw [show (0 : Int32).toNatClampNeg = 0 from rfl]
  by_cases h0 : c = 0
  · rw [if_pos ((nI_is0 hc).mpr h0), if_pos h0]; rfl
  · rw [if_neg (fun z => h0 ((nI_is0 hc).mp z)), if_neg h0]; rfl
theorem mm_fraction (F : Nat) {I c : Nat} (hI : I < 8) (hc : c ≤ 8) (o0 o1 o2 o3 : Int32) (cnt : Nat → Int32) (cr R : Nat → Int64) (h1 : cnt I = nI c) (h2 : tm_row I c cr R) : (fr_is c R → mf_Model_fraction F (nI I) o0 o1 o2 o3 cr cnt = some 1) ∧ (¬ fr_is c R → mf_Model_fraction F (nI I) o0 o1 o2 o3 cr cnt = some 0) := by
  unfold mf_Model_fraction fr_is
  simp only [sd_ixI hI (show I < 2147483648 by omega), nI_clamp (show I < 2 ^ 31 by omega), sd_g_s, h1, nI_8, sd_ixI (show 8 * I < 64 by omega) (show 8 * I < 2147483648 by omega), nI_clamp (show 8 * I < 2 ^ 31 by omega)]
  by_cases h0 : c = 0
  · rw [if_pos ((nI_is0 hc).mpr h0)]
    exact ⟨fun _ => rfl, fun q => absurd (Or.inl h0) q⟩
  · rw [if_neg (fun z => h0 ((nI_is0 hc).mp z))]
    by_cases h3 : c = 1
    · rw [if_pos ((nI_is1 hc).mpr h3)]
      have e : cr (8 * I) = R 0 := h2 0 (by omega)
      rw [e]
      by_cases h4 : R 0 = 1
      · rw [if_pos h4]; exact ⟨fun _ => rfl, fun q => absurd (Or.inr ⟨h3, h4⟩) q⟩
      · rw [if_neg h4]; exact ⟨fun q => by rcases q with q | q; exact absurd q h0; exact absurd q.2 h4, fun _ => rfl⟩
    · rw [if_neg (fun z => h3 ((nI_is1 hc).mp z))]
      exact ⟨fun q => by rcases q with q | q; exact absurd q h0; exact absurd q.1 h3, fun _ => rfl⟩
theorem fr_nd {c : Nat} {T B R : Nat → Int64} (h : tm_okS c T B R) : (fr_n c T).toInt.natAbs ≤ 1000000000 ∧ 1 ≤ (fr_d c B).toInt ∧ (fr_d c B).toInt ≤ 1000000000 ∧ Nat.gcd (fr_n c T).toInt.natAbs (fr_d c B).toInt.natAbs = 1 ∧ ((fr_n c T).toInt = 0 ↔ c = 0) := by
  unfold fr_n fr_d
  by_cases h0 : c = 0
  · rw [if_pos h0, if_pos h0]; exact ⟨by decide, by decide, by decide, by decide, ⟨fun _ => h0, fun _ => rfl⟩⟩
  · rw [if_neg h0, if_neg h0]
    obtain ⟨⟨p1, p2, p3⟩, p4, p5, -⟩ := h.2.1 0 (by omega)
    exact ⟨p1, p2, p3, p5, ⟨fun z => absurd z p4, fun z => absurd z h0⟩⟩
/-- the reference's two reads of a fraction -/
theorem mm_n {I c : Nat} (hI : I < 8) (hc : c ≤ 8) (cnt : Nat → Int32) (cn T : Nat → Int64) (h1 : cnt I = nI c) (h2 : tm_row I c cn T) : (if cnt (nI I).toNatClampNeg = 0 then some (0 : Int64) else sd_g (sd_ix ((8 : Int32) * nI I) 64) (some (cn ((8 : Int32) * nI I).toNatClampNeg))) = some (fr_n c T) := by
  unfold fr_n
  rw [nI_clamp (by omega), h1, nI_8, nI_clamp (by omega), sd_g_t (sd_ixI (by omega) (by omega))]
  by_cases h0 : c = 0
  · rw [if_pos ((nI_is0 hc).mpr h0), if_pos h0]
  · rw [if_neg (fun z => h0 ((nI_is0 hc).mp z)), if_neg h0]
    have e : cn (8 * I) = T 0 := h2 0 (by omega)
    rw [e]
theorem mm_d {I c : Nat} (hI : I < 8) (hc : c ≤ 8) (cnt : Nat → Int32) (cd B : Nat → Int64) (h1 : cnt I = nI c) (h2 : tm_row I c cd B) : (if cnt (nI I).toNatClampNeg = 0 then some (1 : Int64) else sd_g (sd_ix ((8 : Int32) * nI I) 64) (some (cd ((8 : Int32) * nI I).toNatClampNeg))) = some (fr_d c B) := by
  unfold fr_d
  rw [nI_clamp (by omega), h1, nI_8, nI_clamp (by omega), sd_g_t (sd_ixI (by omega) (by omega))]
  by_cases h0 : c = 0
  · rw [if_pos ((nI_is0 hc).mpr h0), if_pos h0]
  · rw [if_neg (fun z => h0 ((nI_is0 hc).mp z)), if_neg h0]
    have e : cd (8 * I) = B 0 := h2 0 (by omega)
    rw [e]
/-- the reference's search for the greatest square -/
theorem mm_rootL {m : Nat} (y y1 : Int64) (hy : y * y1 = lN m) (hm0 : 0 < m) (hm : m ≤ 100000000) : ∀ (fu s t : Nat), 0 < s → s * s ∣ m → (∀ u, u < t → u * u ∣ m → u ≤ s) → 2 ≤ t → t ≤ 10001 → s ≤ 10000 → 10002 - t < fu →
    ∃ s', mf_Model_root_L113 y y1 fu (lN s) (lN t) = some (lN s') ∧ s' * s' ∣ m ∧ (∀ u, u * u ∣ m → u ≤ s') ∧ 0 < s' ∧ s' ≤ 10000 := by
  intro fu
  induction fu with
  | zero => intro s t _ _ _ _ _ _ h; exact absurd h (by omega)
  | succ fu ih =>
    intro s t hs h1 h2 ht ht2 hs2 hf
    have b1 : t * t ≤ 10001 * 10001 := Nat.mul_le_mul ht2 ht2
    have b2 : 2 * 2 ≤ t * t := Nat.mul_le_mul ht ht
    rw [mf_Model_root_L113, hy, lN_mul, lN_ifLt (by omega) (by omega)]
    by_cases q : m < t * t
    · rw [if_pos q]
      refine ⟨s, rfl, h1, fun u hu => ?_, hs, hs2⟩
      rcases Nat.lt_or_ge u t with z | z
      · exact h2 u z hu
      · have := Nat.mul_le_mul z z
        have := Nat.le_of_dvd hm0 hu
        omega
    · have t4 : t ≤ 10000 := by
        rcases Nat.lt_or_ge 10000 t with z | z
        · exfalso
          have := Nat.mul_le_mul z z
          omega
        · exact z
      rw [if_neg q, sd_g_t (sd_zL (by omega) (by omega)), lN_remI (by omega) (by omega) (by omega), show (0 : Int64) = lN 0 from rfl, lN_ifEq (by have := Nat.mod_lt m (show 0 < t * t by omega); omega) (by omega)]
      by_cases d : m % (t * t) = 0
      · rw [if_pos d, sd_b1_s, sd_let_s, show (1 : Int64) = lN 1 from rfl, lN_add]
        refine ih t (t + 1) (by omega) (Nat.dvd_of_mod_eq_zero d) (fun u a b => by omega) (by omega) (by omega) t4 (by omega)
      · rw [if_neg d, sd_b1_s, sd_let_s, show (1 : Int64) = lN 1 from rfl, lN_add]
        refine ih s (t + 1) hs h1 (fun u a b => ?_) (by omega) (by omega) hs2 (by omega)
        rcases Nat.lt_or_ge u t with z | z
        · exact h2 u z b
        · obtain rfl : u = t := by omega
          exact absurd (Nat.mod_eq_zero_of_dvd b) d
/-- the reference's add of a first term, reduced -/
theorem mm_add1 {F : Nat} (hF : 18446744073709551616 ≤ F) (o1 o2 o3 : Int32) (T B R : Nat → Int64) (a b x : Int64) (h2 : tm_ok a b) (ha : a.toInt ≠ 0) : ∃ T' B' R', mf_Model_addTerm F a b x 0 o1 o2 o3 T B R = some (1, nI 1, T', B', R') ∧ T' 0 = a / tm_g a b ∧ B' 0 = b / tm_g a b ∧ R' 0 = x := by
  unfold mf_Model_addTerm
  have e0 : mf_Model_addTerm_L3 0 x R F 0 = some (nI 0) := mm_add_pos (show 0 ≤ 8 by omega) x R F 0 (by omega) (by omega)
  have za : ¬ a = (0 : Int64) := fun z => ha (by rw [z]; rfl)
  obtain ⟨q1, q2, q3⟩ := h2
  have g0 : 0 < Nat.gcd a.toInt.natAbs b.toInt.natAbs := Nat.gcd_pos_of_pos_left _ (by omega)
  have g1 : Nat.gcd a.toInt.natAbs b.toInt.natAbs ≤ a.toInt.natAbs := Nat.gcd_le_left _ (by omega)
  have g2 : Nat.gcd a.toInt.natAbs b.toInt.natAbs ≤ b.toInt.natAbs := Nat.gcd_le_right _ (by omega)
  have eg := tm_gt (x := a) (y := b) (by omega)
  have ev := mm_g hF a b (by omega)
  have x1 := tm_by (x := a) g0 (by omega) (by omega)
  have x2 := tm_by (x := b) g0 (by omega) (by omega)
  have x3 : 0 ≤ (b / jI (Nat.gcd a.toInt.natAbs b.toInt.natAbs)).toInt := by rw [x2.1]; exact Int.tdiv_nonneg (by omega) (by omega)
  have x4 : a.toInt.natAbs / Nat.gcd a.toInt.natAbs b.toInt.natAbs ≤ a.toInt.natAbs := Nat.div_le_self _ _
  have x5 : b.toInt.natAbs / Nat.gcd a.toInt.natAbs b.toInt.natAbs ≤ b.toInt.natAbs := Nat.div_le_self _ _
  have x6 : 1 ≤ b.toInt.natAbs / Nat.gcd a.toInt.natAbs b.toInt.natAbs := (Nat.one_le_div_iff g0).mpr g2
  have y1 : (a / tm_g a b).toInt.natAbs = a.toInt.natAbs / Nat.gcd a.toInt.natAbs b.toInt.natAbs := x1.2
  have y2 : (b / tm_g a b).toInt.natAbs = b.toInt.natAbs / Nat.gcd a.toInt.natAbs b.toInt.natAbs := x2.2
  have y3 : 0 ≤ (b / tm_g a b).toInt := x3
  have r1 : (if -1000000000 ≤ (a / tm_g a b).toInt ∧ (a / tm_g a b).toInt ≤ 1000000000 ∧ 1 ≤ (b / tm_g a b).toInt ∧ (b / tm_g a b).toInt ≤ 1000000000 then (1 : Int32) else 0) = 1 := if_pos (by omega)
  have gz : (tm_g a b).toInt ≠ 0 := by omega
  rw [e0, sd_b1_s, if_pos (show (0 : Int32) ≤ nI 0 by decide), sd_b1_s, if_pos rfl, sd_b1_s, if_pos rfl, sd_b1_s, if_neg za, ev, sd_b1_s]
  simp only [sd_zJt gz, sd_g_s, mm_fits, sd_b1_s]
  rw [r1, if_neg (by decide), if_pos trivial, if_neg (by decide)]
  unfold mf_Model_addTerm_J237
  have sh : mf_Model_addTerm_L248 (nI 0) F 0 T B R = some (tm_shR 0 0 T, tm_shR 0 0 B, tm_shR 0 0 R) := mm_shR T B R F 0 T B R (by omega) (by omega) (by omega)
  rw [if_pos rfl, sh, sd_b3_s, sd_let_s, mm_addJ319 (by omega) _ _ _ _ gz]
  exact ⟨_, _, _, rfl, rfl, rfl, rfl⟩
