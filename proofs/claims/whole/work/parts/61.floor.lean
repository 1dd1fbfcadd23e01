/-! floor and between, both sides -/
theorem nj_xorS (x y : Int64) : 0 ≤ (x ^^^ y).toInt ↔ (0 ≤ x.toInt ↔ 0 ≤ y.toInt) := by
  have h1 : x.toBitVec.msb = decide (x.toInt < 0) := BitVec.msb_eq_toInt
  have h2 : y.toBitVec.msb = decide (y.toInt < 0) := BitVec.msb_eq_toInt
  have h3 : (x ^^^ y).toBitVec.msb = decide ((x ^^^ y).toInt < 0) := BitVec.msb_eq_toInt
  rw [Int64.toBitVec_xor, BitVec.msb_xor, h1, h2] at h3
  by_cases a : x.toInt < 0
  · by_cases b : y.toInt < 0
    · rw [decide_eq_true a, decide_eq_true b] at h3
      have := of_decide_eq_false h3.symm
      omega
    · rw [decide_eq_true a, decide_eq_false b] at h3
      have := of_decide_eq_true h3.symm
      omega
  · by_cases b : y.toInt < 0
    · rw [decide_eq_false a, decide_eq_true b] at h3
      have := of_decide_eq_true h3.symm
      omega
    · rw [decide_eq_false a, decide_eq_false b] at h3
      have := of_decide_eq_false h3.symm
      omega
theorem ifLeJ {a b : Int64} {p : Prop} [Decidable p] {α : Type} {x y : α} (h : a.toInt ≤ b.toInt ↔ p) : (if a ≤ b then x else y) = if p then x else y := by
  by_cases q : p
  · rw [if_pos (nj_le.mpr (h.mpr q)), if_pos q]
  · rw [if_neg (fun z => q (h.mp (nj_le.mp z))), if_neg q]
theorem ifLtJ {a b : Int64} {p : Prop} [Decidable p] {α : Type} {x y : α} (h : a.toInt < b.toInt ↔ p) : (if a < b then x else y) = if p then x else y := by
  by_cases q : p
  · rw [if_pos (nj_lt.mpr (h.mpr q)), if_pos q]
  · rw [if_neg (fun z => q (h.mp (nj_lt.mp z))), if_neg q]
theorem ifEqJ {a b : Int64} {p : Prop} [Decidable p] {α : Type} {x y : α} (h : a.toInt = b.toInt ↔ p) : (if a = b then x else y) = if p then x else y := by
  by_cases q : p
  · rw [if_pos (nj_eq.mpr (h.mpr q)), if_pos q]
  · rw [if_neg (fun z => q (h.mp (nj_eq.mp z))), if_neg q]
/-- quotient and rest, cut off towards 0 -/
theorem td_facts {x y : Int} (hy : 0 < y) : x = y * x.tdiv y + x.tmod y ∧ (0 ≤ x → 0 ≤ x.tmod y ∧ x.tmod y < y) ∧ (x < 0 → x.tmod y ≤ 0 ∧ -y < x.tmod y) := by
  refine ⟨(Int.mul_tdiv_add_tmod x y).symm, fun h => ⟨Int.tmod_nonneg y h, Int.tmod_lt_of_pos x hy⟩, fun h => ?_⟩
  have e : (-x).tmod y = -(x.tmod y) := Int.neg_tmod x y
  have a1 := Int.tmod_nonneg y (show 0 ≤ -x by omega)
  have a2 := Int.tmod_lt_of_pos (-x) hy
  omega
theorem fd_floorDiv (F : Nat) {x y : Int64} (hy : 0 < y.toInt) (hx : -9223372036854775808 < x.toInt) : ∃ z, mf_Math_floorDiv F x y = some z ∧ z.toInt = x.toInt / y.toInt := by
  have z0 : (0 : Int64).toInt = 0 := rfl
  have hb := nj_bd x
  have q : (x / y).toInt = x.toInt.tdiv y.toInt := nj_div (by omega)
  obtain ⟨t1, t2, t3⟩ := td_facts (x := x.toInt) (y := y.toInt) hy
  have qy : (x / y * y).toInt = x.toInt.tdiv y.toInt * y.toInt := by
    have c : x.toInt.tdiv y.toInt * y.toInt = y.toInt * x.toInt.tdiv y.toInt := Int.mul_comm _ _
    rcases Int.lt_or_le x.toInt 0 with w | w
    · have := t3 w
      have n1 : 0 ≤ (-x.toInt).tdiv y.toInt := Int.tdiv_nonneg (by omega) (by omega)
      rw [Int.neg_tdiv] at n1
      have n2 : 0 ≤ y.toInt * -(x.toInt.tdiv y.toInt) := Int.mul_nonneg (by omega) n1
      rw [Int.mul_neg] at n2
      rw [nj_mul] <;> rw [q] <;> omega
    · have := t2 w
      have n2 : 0 ≤ y.toInt * x.toInt.tdiv y.toInt := Int.mul_nonneg (by omega) (Int.tdiv_nonneg w (by omega))
      rw [nj_mul] <;> rw [q] <;> omega
  unfold mf_Math_floorDiv
  rw [sd_g_t (sd_zJt (by omega)), sd_let_s, ifLeJ (p := 0 ≤ x.toInt) (by rw [z0, nj_xorS]; omega)]
  by_cases c : 0 ≤ x.toInt
  · rw [if_pos c]
    have := t2 c
    refine ⟨_, rfl, ?_⟩
    rw [q]
    exact (((Int.ediv_emod_unique hy).mpr ⟨by rw [Int.add_comm]; exact t1.symm, this.1, this.2⟩).1).symm
  · rw [if_neg c, ifEqJ (p := x.toInt.tmod y.toInt = 0) (by rw [qy, Int.mul_comm]; omega)]
    have := t3 (by omega)
    by_cases d : x.toInt.tmod y.toInt = 0
    · rw [if_pos d]
      refine ⟨_, rfl, ?_⟩
      rw [q]
      exact (((Int.ediv_emod_unique hy).mpr ⟨by rw [Int.add_comm]; exact t1.symm, by omega, by omega⟩).1).symm
    · rw [if_neg d]
      refine ⟨_, rfl, ?_⟩
      have hq : x.toInt.tdiv y.toInt ≤ 0 := by
        rcases Int.lt_or_le 0 (x.toInt.tdiv y.toInt) with w | w
        · exfalso
          have : 0 < y.toInt * x.toInt.tdiv y.toInt := Int.mul_pos hy w
          have : y.toInt * 1 ≤ y.toInt * x.toInt.tdiv y.toInt := Int.mul_le_mul_of_nonneg_left (by omega) (by omega)
          omega
        · exact w
      have hq2 : x.toInt ≤ x.toInt.tdiv y.toInt := by
        rcases Int.lt_or_le (x.toInt.tdiv y.toInt) x.toInt with w | w
        · exfalso
          have : y.toInt * x.toInt.tdiv y.toInt ≤ 1 * x.toInt.tdiv y.toInt := Int.mul_le_mul_of_nonpos_right (by omega) hq
          omega
        · exact w
      have s : (x / y - (1 : Int64)).toInt = x.toInt.tdiv y.toInt - 1 := by
        rw [nj_sub] <;> rw [q, show (1 : Int64).toInt = 1 from rfl] <;> omega
      rw [s]
      exact (((Int.ediv_emod_unique hy (r := x.toInt.tmod y.toInt + y.toInt)).mpr ⟨by rw [Int.mul_sub, Int.mul_one]; omega, by omega, by omega⟩).1).symm
theorem fd_floorMod (F : Nat) {x y : Int64} (hy : 0 < y.toInt) : ∃ z, mf_Math_floorMod F x y = some z ∧ z.toInt = x.toInt % y.toInt := by
  have z0 : (0 : Int64).toInt = 0 := rfl
  have hb := nj_bd y
  obtain ⟨t1, t2, t3⟩ := td_facts (x := x.toInt) (y := y.toInt) hy
  have r := nj_rem x y
  unfold mf_Math_floorMod
  rw [sd_g_t (sd_zJt (by omega)), sd_let_s, ifLeJ (p := 0 ≤ x.toInt) (by rw [z0, nj_xorS]; omega)]
  by_cases c : 0 ≤ x.toInt
  · rw [if_pos c]
    have := t2 c
    refine ⟨_, rfl, ?_⟩
    rw [r]
    exact (((Int.ediv_emod_unique hy).mpr ⟨by rw [Int.add_comm]; exact t1.symm, this.1, this.2⟩).2).symm
  · rw [if_neg c, ifEqJ (p := x.toInt.tmod y.toInt = 0) (by rw [r, z0])]
    have := t3 (by omega)
    by_cases d : x.toInt.tmod y.toInt = 0
    · rw [if_pos d]
      refine ⟨_, rfl, ?_⟩
      rw [r]
      exact (((Int.ediv_emod_unique hy).mpr ⟨by rw [Int.add_comm]; exact t1.symm, by omega, by omega⟩).2).symm
    · rw [if_neg d]
      refine ⟨_, rfl, ?_⟩
      have s : (x - x / y * y + y).toInt = x.toInt.tmod y.toInt + y.toInt := by
        rw [nj_add] <;> rw [r] <;> omega
      rw [s]
      exact (((Int.ediv_emod_unique hy (q := x.toInt.tdiv y.toInt - 1)).mpr ⟨by rw [Int.mul_sub, Int.mul_one]; omega, by omega, by omega⟩).2).symm
/-- the reference's two words as a long -/
theorem sl_small (F : Nat) (o0 o1 o2 o3 : Int32) {f : Nat → Int64} {v : Nat} (h : ww f v) (hv : v < 18446744073709551616) : mf_Model_small F o0 o1 o2 o3 f = some (lN v) := by
  unfold mf_Model_small
  rw [show (1 : Int32).toNatClampNeg = 1 from rfl, show (0 : Int32).toNatClampNeg = 0 from rfl, ww_wd h (by omega), ww_wd h (by omega)]
  have w1 : wd v 1 = v / 4294967296 := by
    unfold wd
    rw [show 32 * 1 = 32 from rfl]
    exact Nat.mod_eq_of_lt (by omega)
  have w0 : wd v 0 = v % 4294967296 := by unfold wd; simp
  have s1 : lN (wd v 1) <<< ((32 : Int32).toInt64 &&& 63) = lN (wd v 1 * 2 ^ 32) := wb_shl _ (k := 32) (by omega)
  rw [s1, w1, w0, wb_or (by omega) (by omega)]
  have e : v / 4294967296 * 2 ^ 32 ||| v % 4294967296 = v := by
    have := Nat.shiftLeft_add_eq_or_of_lt (show v % 4294967296 < 2 ^ 32 by omega) (v / 4294967296)
    rw [Nat.shiftLeft_eq] at this
    rw [← this]
    omega
  rw [e]
theorem pw_1024 : (2 : Nat) ^ 1024 = ptN := by decide +kernel
theorem ptN_76 : ptN * 8 + 8 < 4294967296 ^ 76 := by decide +kernel
/-- floorOf: the whole number not above, and what is left -/
theorem fo_floorOf {F : Nat} (hF : 18446744073709551616 ≤ F) {s : Int32} {f : Nat → Int64} {v : Int} (h : re_is s f v) (hb : en_b v) (o0 o1 o2 o3 : Int32) (on tw lf : Nat → Int64) :
    ∃ x on' tw' lf', mf_Model_floorOf F s o0 o1 o2 o3 on tw f lf = some (x, on', tw', lf') ∧ x.toInt = v / ptN ∧ ww lf' (v % ptN).toNat := by
  obtain ⟨rfl, hf⟩ := h
  have hp := ptN_pos
  have hq : v.natAbs / ptN < 281474976710656 := by
    rw [Nat.div_lt_iff_lt_mul hp, ← ptN_3]
    unfold en_b at hb
    generalize 65536 ^ 67 = y at *
    omega
  obtain ⟨a1, t1, w1⟩ := rc_copy hF hf on
  obtain ⟨a2, t2, w2⟩ := ru_unshift hF (n := 1024) w1 (by omega)
  rw [pw_1024] at w2
  have t3 := sl_small F o0 o1 o2 o3 w2 (by omega)
  have hle : v.natAbs / ptN * ptN ≤ v.natAbs := Nat.div_mul_le_self _ _
  obtain ⟨a3, t4, w4⟩ := rh_shift hF (n := 1024) w2 (by omega) (by rw [pw_1024]; exact Nat.lt_of_le_of_lt hle (ww_lt hf))
  rw [pw_1024] at w4
  obtain ⟨a4, t5, w5⟩ := rc_copy hF hf lf
  obtain ⟨a5, t6, w6⟩ := rb_sub hF w5 w4 hle
  have t2' : mf_Model_unshift F 1024 a1 = some a2 := t2
  have t4' : mf_Model_shift F 1024 a2 = some a3 := t4
  have dm := Nat.div_add_mod v.natAbs ptN
  have ml := Nat.mod_lt v.natAbs hp
  have sub : v.natAbs - v.natAbs / ptN * ptN = v.natAbs % ptN := by rw [Nat.mul_comm]; omega
  rw [sub] at w6
  have hpI : (0 : Int) < ptN := Int.ofNat_lt.mpr hp
  clear sub
  generalize v.natAbs / ptN = Q at *
  generalize v.natAbs % ptN = M at *
  unfold mf_Model_floorOf
  rw [t1, sd_b1_s, t2', sd_b1_s, t3, sd_b1_s, t4', sd_b1_s, t5, sd_b1_s, t6, sd_b1_s]
  have sneg : (sgnI v < 0) ↔ v < 0 := by
    rw [ni_lt, sgnI_t, show (0 : Int32).toInt = 0 from rfl]
    by_cases a : v = 0
    · rw [if_pos a]; omega
    · rw [if_neg a]
      by_cases b : 0 ≤ v
      · rw [if_pos b]; omega
      · rw [if_neg b]; omega
  by_cases c : v < 0
  · rw [if_pos (sneg.mpr c)]
    obtain ⟨j, b1, b2, b3, b4⟩ := rz_size hF w6
    rw [b2, sd_b1_s, show (0 : Int32) = nI 0 from rfl, nI_ifEq (by omega) (by omega)]
    have nf : (-lN (Q)).toInt = -((Q : Nat) : Int) := by
      rw [nj_neg] <;> rw [lN_bits _ (by omega)]; omega
    by_cases j0 : j = 0
    · rw [if_pos j0]
      rw [j0, Nat.pow_zero] at b3
      have m0 : M = 0 := by omega
      have u := (Int.ediv_emod_unique hpI (a := v) (r := 0) (q := -((Q : Nat) : Int))).mpr ⟨by
        rw [m0, Nat.add_zero] at dm
        have : ((ptN * (Q) : Nat) : Int) = (v.natAbs : Int) := by rw [dm]
        rw [Int.natCast_mul] at this
        rw [Int.mul_neg, this]; omega, by omega, hpI⟩
      refine ⟨_, a3, tw, a5, rfl, ?_, ?_⟩
      · rw [nf, u.1]
      · rw [u.2, show (0 : Int).toNat = 0 from rfl]; rw [m0] at w6; exact w6
    · have m0 : 0 < M := by
        rcases b4 with z | z
        · exact absurd z j0
        · exact Nat.lt_of_lt_of_le (Nat.pow_pos (by omega)) z
      obtain ⟨g1, k1, l1⟩ := rs_set hF (v := 1) (by omega) tw
      obtain ⟨g2, k2, l2⟩ := rh_shift hF (n := 1024) l1 (by omega) (by rw [pw_1024]; have := ptN_76; omega)
      rw [pw_1024, Nat.one_mul] at l2
      obtain ⟨g3, k3, l3⟩ := rb_sub hF l2 w6 (by omega)
      obtain ⟨g4, k4, l4⟩ := rc_copy hF l3 a5
      have k1' : mf_Model_set F 1 tw = some g1 := k1
      have k2' : mf_Model_shift F 1024 g1 = some g2 := k2
      rw [if_neg j0, k1', sd_b1_s, k2', sd_b1_s, k3, sd_b1_s, k4, sd_b1_s]
      have u := (Int.ediv_emod_unique hpI (a := v) (r := ((ptN - M : Nat) : Int)) (q := -((Q : Nat) : Int) - 1)).mpr ⟨by
        have : ((ptN * (Q) + M : Nat) : Int) = (v.natAbs : Int) := by rw [dm]
        rw [Int.natCast_add, Int.natCast_mul] at this
        rw [Int.mul_sub, Int.mul_one, Int.mul_neg]; omega, by omega, by omega⟩
      refine ⟨_, a3, g3, g4, rfl, ?_, ?_⟩
      · rw [u.1]; rw [nj_sub] <;> rw [nf, show (1 : Int64).toInt = 1 from rfl] <;> omega
      · rw [u.2, Int.toNat_natCast]; exact l4
  · rw [if_neg (fun z => c (sneg.mp z))]
    have u := (Int.ediv_emod_unique hpI (a := v) (r := ((M : Nat) : Int)) (q := ((Q : Nat) : Int))).mpr ⟨by
      have : ((ptN * (Q) + M : Nat) : Int) = (v.natAbs : Int) := by rw [dm]
      rw [Int.natCast_add, Int.natCast_mul] at this
      omega, by omega, by omega⟩
    refine ⟨_, a3, tw, a5, rfl, ?_, ?_⟩
    · rw [u.1, lN_bits _ (by omega)]
    · rw [u.2, Int.toNat_natCast]; exact w6
