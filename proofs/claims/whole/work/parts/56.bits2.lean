/-! how many bits a number has -/
def is_bl (v b : Nat) : Prop := v < 2 ^ b ∧ (b = 0 ∨ 2 ^ (b - 1) ≤ v)
theorem is_bl_one {v b c : Nat} (h1 : is_bl v b) (h2 : is_bl v c) : b = c := by
  have key : ∀ {b c : Nat}, is_bl v b → is_bl v c → ¬ b < c := by
    intro b c h1 h2 h
    rcases h2.2 with z | z
    · omega
    · have : 2 ^ b ≤ 2 ^ (c - 1) := Nat.pow_le_pow_right (by omega) (by omega)
      have := h1.1
      omega
  have := key h1 h2
  have := key h2 h1
  omega
def nz (x d n : Nat) : Prop := ∃ s, s ≤ 31 ∧ n = 31 - s ∧ d = x / 2 ^ s ∧ 1 ≤ d
theorem nI_addm {n e : Nat} {M : Int32} (hM : M.toInt = -(e : Int)) (he : e ≤ n) (hn : n < 2147483648) : nI n + M = nI (n - e) := by
  rw [ni_eq, nI_toInt (by omega), ni_add] <;> rw [nI_toInt (by omega), hM] <;> omega
theorem nz_stage {x d n e : Nat} (hx : x < 2147483648) (h : nz x d n) (C E M : Int32) (hC : C = nI (2 ^ e)) (hE : ((E.toUInt32 &&& Int32.toUInt32 31).toBitVec % 32).toNat = e) (hM : M.toInt = -(e : Int)) (he : e ≤ 16) (he0 : 0 < e) (hd : d < 2 ^ (2 * e)) (hd2 : d < 2147483648) :
    ∃ d' n', (if nI d < C then some (nI d, nI n) else sd_let (nI n + M) fun x1 => sd_let (((nI d).toUInt32 >>> (E.toUInt32 &&& Int32.toUInt32 31)).toInt32) fun x0 => some (x0, x1)) = some (nI d', nI n') ∧ nz x d' n' ∧ d' < 2 ^ e := by
  obtain ⟨s, s1, s2, s3, s4⟩ := h
  have p16 : 2 ^ e ≤ 2 ^ 16 := Nat.pow_le_pow_right (by omega) he
  rw [hC, nI_ifLt (by omega) (by omega)]
  by_cases q : d < 2 ^ e
  · rw [if_pos q]
    exact ⟨d, n, rfl, ⟨s, s1, s2, s3, s4⟩, q⟩
  · have hse : s + e ≤ 30 := by
      rcases Nat.lt_or_ge 30 (s + e) with z | z
      · exfalso
        have a1 : 2 ^ s * 2 ^ e ≤ 2 ^ s * d := Nat.mul_le_mul_left _ (by omega)
        have a2 : 2 ^ s * d ≤ x := by rw [s3]; exact Nat.mul_div_le x (2 ^ s)
        have a3 : 2 ^ 31 ≤ 2 ^ s * 2 ^ e := by rw [← Nat.pow_add]; exact Nat.pow_le_pow_right (by omega) (by omega)
        omega
      · exact z
    rw [if_neg q, sd_let_s, sd_let_s, nI_addm hM (by omega) (by omega), pk_ushrN (by omega) E e hE]
    refine ⟨d / 2 ^ e, n - e, rfl, ⟨s + e, by omega, by omega, ?_, ?_⟩, ?_⟩
    · rw [s3, Nat.div_div_eq_div_mul, ← Nat.pow_add]
    · exact (Nat.one_le_div_iff (Nat.pow_pos (by omega))).mpr (by omega)
    · rw [Nat.div_lt_iff_lt_mul (Nat.pow_pos (by omega)), ← Nat.pow_add, ← Nat.two_mul]; exact hd
theorem nz_int (F : Nat) {x : Nat} (h0 : 0 < x) (hx : x < 2147483648) : ∃ b, mf_Integer_nlz F (nI x) = some (nI (32 - b)) ∧ is_bl x b ∧ b ≤ 31 ∧ 0 < b := by
  unfold mf_Integer_nlz
  rw [if_pos (show (0 : Int32) < nI x from nI_lt (a := 0) h0 (by omega))]
  obtain ⟨d1, n1, e1, z1, l1⟩ := nz_stage (x := x) (d := x) (n := 31) (e := 16) hx ⟨0, by omega, rfl, by simp, by omega⟩ 65536 16 (-16) rfl (by decide) (by decide) (by omega) (by omega) (by omega) hx
  have e1' : (if nI x < (65536 : Int32) then some (nI x, (31 : Int32)) else sd_let ((31 : Int32) + (-16)) fun x1 => sd_let (((nI x).toUInt32 >>> ((16 : Int32).toUInt32 &&& Int32.toUInt32 31)).toInt32) fun x0 => some (x0, x1)) = some (nI d1, nI n1) := e1
  rw [e1', sd_b2_s]
  obtain ⟨d2, n2, e2, z2, l2⟩ := nz_stage (x := x) (d := d1) (n := n1) (e := 8) hx z1 256 8 (-8) rfl (by decide) (by decide) (by omega) (by omega) l1 (by omega)
  rw [e2, sd_b2_s]
  obtain ⟨d3, n3, e3, z3, l3⟩ := nz_stage (x := x) (d := d2) (n := n2) (e := 4) hx z2 16 4 (-4) rfl (by decide) (by decide) (by omega) (by omega) l2 (by omega)
  rw [e3, sd_b2_s]
  obtain ⟨d4, n4, e4, z4, l4⟩ := nz_stage (x := x) (d := d3) (n := n3) (e := 2) hx z3 4 2 (-2) rfl (by decide) (by decide) (by omega) (by omega) l3 (by omega)
  rw [e4, sd_b2_s]
  have u1 : ((nI d4).toUInt32 >>> ((1 : Int32).toUInt32 &&& Int32.toUInt32 31)).toInt32 = nI (d4 / 2) := pk_ushrN (by omega) 1 1 (by decide)
  obtain ⟨s, s1, s2, s3, s4⟩ := z4
  have hp := Nat.pow_pos (n := s) (show 0 < 2 by omega)
  have dm := Nat.div_add_mod x (2 ^ s)
  have ml := Nat.mod_lt x hp
  rw [← s3] at dm
  rw [u1]
  rcases (show d4 = 1 ∨ d4 / 2 = 1 by omega) with z | z
  · refine ⟨s + 1, ?_, ⟨?_, Or.inr ?_⟩, ?_, by omega⟩
    · rw [z, nI_sub (by omega) (by omega), s2]; congr 2; omega
    · rw [Nat.pow_succ]; rw [z] at dm; omega
    · rw [show s + 1 - 1 = s by omega]; rw [z] at dm; omega
    · rcases Nat.lt_or_ge 30 s with y | y
      · exfalso
        have : 2 ^ 31 ≤ 2 ^ s := Nat.pow_le_pow_right (by omega) y
        rw [z] at dm; omega
      · omega
  · have two : 2 ^ s * 2 ≤ 2 ^ s * d4 := Nat.mul_le_mul_left _ (by omega)
    have three : 2 ^ s * d4 ≤ 2 ^ s * 3 := Nat.mul_le_mul_left _ (by omega)
    have s29 : s ≤ 29 := by
      rcases Nat.lt_or_ge 29 s with y | y
      · exfalso
        have : 2 ^ 30 ≤ 2 ^ s := Nat.pow_le_pow_right (by omega) y
        omega
      · exact y
    refine ⟨s + 2, ?_, ⟨?_, Or.inr ?_⟩, by omega, by omega⟩
    · rw [z, nI_sub (by omega) (by omega), s2]; congr 2; omega
    · rw [Nat.pow_succ, Nat.pow_succ]; omega
    · rw [show s + 2 - 1 = s + 1 by omega, Nat.pow_succ]; omega
theorem nz_long (F : Nat) {x : Nat} (h0 : 0 < x) (hx : x < 4294967296) : ∃ b, mf_Long_nlz F (lN x) = some (nI (64 - b)) ∧ is_bl x b ∧ b ≤ 32 ∧ 0 < b := by
  unfold mf_Long_nlz
  have s1 : ((lN x).toUInt64 >>> ((32 : Int32).toInt64.toUInt64 &&& Int64.toUInt64 63)).toInt64 = lN (x / 2 ^ 32) := wb_shr (k := 32) (by omega) (by omega)
  rw [sd_let_s, s1, Nat.div_eq_of_lt (show x < 2 ^ 32 by omega), lN_i, if_pos (show nI 0 = (0 : Int32) from rfl), lN_i]
  rcases Nat.lt_or_ge x 2147483648 with z | z
  · obtain ⟨b, e1, e2, e3, e4⟩ := nz_int F h0 z
    rw [e1, sd_b1_s, show (32 : Int32) = nI 32 from rfl, nI_add, sd_b1_s]
    exact ⟨b, by congr 2; omega, e2, by omega, e4⟩
  · have ti : (nI x).toInt = (x : Int) - 4294967296 := by
      rw [nb_bv32]
      have : (nI x).toBitVec.toNat = x := Nat.mod_eq_of_lt (by omega)
      rw [this]
      have h1 : ((x : Int) - 4294967296).bmod (2 ^ 32) = (x : Int) - 4294967296 := ni_bm (by omega) (by omega)
      rw [← h1]
      have h2 := Int.sub_bmod_right (x : Int) (2 ^ 32)
      exact h2.symm
    have n1 : ¬ (0 : Int32) < nI x := fun y => by
      have := ni_lt.mp y
      have z0 : (0 : Int32).toInt = 0 := rfl
      omega
    have n2 : ¬ nI x = (0 : Int32) := fun y => by
      rw [y] at ti
      have z0 : (0 : Int32).toInt = 0 := rfl
      omega
    unfold mf_Integer_nlz
    rw [if_neg n1, if_neg n2, sd_b1_s, sd_b1_s, sd_b1_s]
    exact ⟨32, rfl, ⟨by omega, Or.inr (by omega)⟩, by omega, by omega⟩
/-- bits -/
theorem rl_bits {F : Nat} (hF : 18446744073709551616 ≤ F) {f : Nat → Int64} {v : Nat} (hf : ww f v) : ∃ b, mf_Model_bits F f = some (nI b) ∧ is_bl v b ∧ b ≤ 2432 := by
  obtain ⟨j, a1, a2, a3, a4⟩ := rz_size hF hf
  unfold mf_Model_bits
  rw [a2, sd_b1_s, show (0 : Int32) = nI 0 from rfl, nI_ifEq (by omega) (by omega)]
  by_cases z : j = 0
  · rw [if_pos z, sd_b1_s]
    refine ⟨0, rfl, ⟨?_, Or.inl rfl⟩, by omega⟩
    rw [z] at a3; exact a3
  · rcases a4 with y | y
    · exact absurd y z
    · obtain ⟨i, rfl⟩ : ∃ i, j = i + 1 := ⟨j - 1, by omega⟩
      rw [show i + 1 - 1 = i by omega] at y
      rw [if_neg z, nI_pred, sd_g_t (sd_ixI (by omega) (by omega)), nI_clamp (by omega), ww_dig hf (by omega)]
      have hW : 0 < 4294967296 ^ i := Nat.pow_pos (by omega)
      have d1 : v / 4294967296 ^ i < 4294967296 := by
        rw [Nat.div_lt_iff_lt_mul hW, Nat.mul_comm, ← Nat.pow_succ]; exact a3
      have d2 : 0 < v / 4294967296 ^ i := Nat.div_pos y hW
      rw [Nat.mod_eq_of_lt d1]
      obtain ⟨b, e1, e2, e3, e4⟩ := nz_long F d2 d1
      rw [e1, sd_b1_s, sd_b1_s]
      have ar : (32 : Int32) * nI (i + 1) - (nI (64 - b) - (32 : Int32)) = nI (32 * i + b) := by
        have m1 : (32 : Int32) * nI (i + 1) = nI (32 * (i + 1)) := (Int32.ofNat_mul 32 (i + 1)).symm
        rw [m1, show (32 : Int32) = nI 32 from rfl, nI_sub (by omega) (by omega), nI_sub (by omega) (by omega)]
        congr 1; omega
      have ep : 4294967296 ^ i = 2 ^ (32 * i) := by rw [Nat.pow_mul]
      rw [ep] at e2 hW
      have dm := Nat.div_add_mod v (2 ^ (32 * i))
      have ml := Nat.mod_lt v hW
      refine ⟨32 * i + b, by rw [ar], ⟨?_, Or.inr ?_⟩, by omega⟩
      · have h1 := e2.1
        have h2 : 2 ^ (32 * i) * (v / 2 ^ (32 * i) + 1) ≤ 2 ^ (32 * i) * 2 ^ b := Nat.mul_le_mul_left _ h1
        rw [Nat.mul_add, Nat.mul_one] at h2
        rw [Nat.pow_add]
        omega
      · rcases e2.2 with w | w
        · omega
        · have h2 : 2 ^ (32 * i) * 2 ^ (b - 1) ≤ 2 ^ (32 * i) * (v / 2 ^ (32 * i)) := Nat.mul_le_mul_left _ w
          rw [show 32 * i + b - 1 = 32 * i + (b - 1) by omega, Nat.pow_add]
          omega
