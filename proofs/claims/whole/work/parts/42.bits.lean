/-! bits of longs and ints, as whole numbers -/
theorem nb_modI (x : Int) (n : Nat) (k : Nat) (hk : k ≤ n) : (x.bmod (2 ^ n)) % (2 ^ k : Nat) = x % (2 ^ k : Nat) := by
  have h1 : x.bmod (2 ^ n) % ((2 ^ n : Nat) : Int) = x % ((2 ^ n : Nat) : Int) := Int.bmod_emod
  have h2 : ((2 ^ k : Nat) : Int) ∣ ((2 ^ n : Nat) : Int) := Int.ofNat_dvd.mpr (Nat.pow_dvd_pow 2 hk)
  rw [← Int.emod_emod_of_dvd (x.bmod (2 ^ n)) h2, h1, Int.emod_emod_of_dvd x h2]
theorem nb_bv (x : Int64) : x.toInt = (x.toBitVec.toNat : Int).bmod (2 ^ 64) := by
  show x.toBitVec.toInt = _
  rw [BitVec.toInt_eq_toNat_bmod]
theorem nb_bv32 (x : Int32) : x.toInt = (x.toBitVec.toNat : Int).bmod (2 ^ 32) := by
  show x.toBitVec.toInt = _
  rw [BitVec.toInt_eq_toNat_bmod]
theorem nb_and (x m : Int64) (k : Nat) (hk : k ≤ 62) (hm : m.toBitVec.toNat = 2 ^ k - 1) : (x &&& m).toInt = x.toInt % (2 ^ k : Nat) := by
  have h1 : (x &&& m).toBitVec.toNat = x.toBitVec.toNat % 2 ^ k := by
    rw [Int64.toBitVec_and, BitVec.toNat_and, hm, Nat.and_two_pow_sub_one_eq_mod]
  have h2 : x.toBitVec.toNat % 2 ^ k < 2 ^ k := Nat.mod_lt _ (Nat.pow_pos (by decide))
  have h3 : 2 ^ k ≤ 2 ^ 62 := Nat.pow_le_pow_right (by decide) hk
  rw [nb_bv (x &&& m), h1, nb_bv x, nb_modI _ 64 k (by omega), nj_bm (by omega) (by omega)]
  exact Int.natCast_emod _ _
theorem nb_and32 (x m : Int32) (k : Nat) (hk : k ≤ 30) (hm : m.toBitVec.toNat = 2 ^ k - 1) : (x &&& m).toInt = x.toInt % (2 ^ k : Nat) := by
  have h1 : (x &&& m).toBitVec.toNat = x.toBitVec.toNat % 2 ^ k := by
    rw [Int32.toBitVec_and, BitVec.toNat_and, hm, Nat.and_two_pow_sub_one_eq_mod]
  have h2 : x.toBitVec.toNat % 2 ^ k < 2 ^ k := Nat.mod_lt _ (Nat.pow_pos (by decide))
  have h3 : 2 ^ k ≤ 2 ^ 30 := Nat.pow_le_pow_right (by decide) hk
  rw [nb_bv32 (x &&& m), h1, nb_bv32 x, nb_modI _ 32 k (by omega), ni_bm (by omega) (by omega)]
  exact Int.natCast_emod _ _
theorem nb_shr (x s : Int64) (k : Nat) (hs : (s.toBitVec.smod 64).toNat = k) : (x >>> s).toInt = x.toInt / (2 ^ k : Nat) := by
  show (x >>> s).toBitVec.toInt = x.toBitVec.toInt / _
  rw [Int64.toBitVec_shiftRight, BitVec.sshiftRight_eq', BitVec.toInt_sshiftRight, hs, Int.shiftRight_eq_div_pow]
theorem nb_shr32 (x s : Int32) (k : Nat) (hs : (s.toBitVec.smod 32).toNat = k) : (x >>> s).toInt = x.toInt / (2 ^ k : Nat) := by
  rw [pk_shr x s k hs, Int.shiftRight_eq_div_pow]
theorem nb_shl (x s : Int64) (k : Nat) (hs : (s.toBitVec.smod 64).toNat = k) (h1 : -9223372036854775808 ≤ x.toInt * (2 ^ k : Nat)) (h2 : x.toInt * (2 ^ k : Nat) < 9223372036854775808) : (x <<< s).toInt = x.toInt * (2 ^ k : Nat) := by
  show (x <<< s).toBitVec.toInt = _
  rw [Int64.toBitVec_shiftLeft, BitVec.shiftLeft_eq', hs, BitVec.toInt_shiftLeft, Nat.shiftLeft_eq]
  have e : ((x.toBitVec.toNat * 2 ^ k : Nat) : Int).bmod (2 ^ 64) = (x.toInt * (2 ^ k : Nat)).bmod (2 ^ 64) := by
    rw [Int.natCast_mul, nb_bv x, Int.bmod_mul_bmod]
  rw [e, nj_bm h1 h2]
theorem nb_ext (x : Int32) : x.toInt64.toInt = x.toInt := Int32.toInt_toInt64 x
theorem nb_cut {x : Int64} (h1 : -2147483648 ≤ x.toInt) (h2 : x.toInt < 2147483648) : x.toInt32.toInt = x.toInt := by
  rw [Int64.toInt_toInt32, ni_bm h1 h2]
theorem nb_16s : ((((16 : Int32).toInt64 &&& 63) : Int64).toBitVec.smod 64).toNat = 16 := by decide +kernel
theorem nb_32s : ((((32 : Int32).toInt64 &&& 63) : Int64).toBitVec.smod 64).toNat = 32 := by decide +kernel
theorem nb_30s : ((((30 : Int32).toInt64 &&& 63) : Int64).toBitVec.smod 64).toNat = 30 := by decide +kernel
theorem nb_1s : ((((1 : Int32).toInt64 &&& 63) : Int64).toBitVec.smod 64).toNat = 1 := by decide +kernel
theorem nb_16i : ((((16 : Int32) &&& 31) : Int32).toBitVec.smod 32).toNat = 16 := by decide +kernel
theorem nb_m16 (x : Int64) : (x &&& (65535 : Int64)).toInt = x.toInt % 65536 := nb_and x 65535 16 (by omega) (by decide +kernel)
theorem nb_m32 (x : Int64) : (x &&& (4294967295 : Int64)).toInt = x.toInt % 4294967296 := nb_and x 4294967295 32 (by omega) (by decide +kernel)
theorem nb_m3 (x : Int64) : (x &&& (3 : Int64)).toInt = x.toInt % 4 := nb_and x 3 2 (by omega) (by decide +kernel)
theorem nb_m1 (x : Int64) : (x &&& (1 : Int64)).toInt = x.toInt % 2 := nb_and x 1 1 (by omega) (by decide +kernel)
theorem nb_i16 (x : Int32) : (x &&& (65535 : Int32)).toInt = x.toInt % 65536 := nb_and32 x 65535 16 (by omega) (by decide +kernel)
theorem nb_i1 (x : Int32) : (x &&& (1 : Int32)).toInt = x.toInt % 2 := nb_and32 x 1 1 (by omega) (by decide +kernel)
theorem nb_r16 (x : Int64) : (x >>> ((16 : Int32).toInt64 &&& 63)).toInt = x.toInt / 65536 := nb_shr x _ 16 nb_16s
theorem nb_r32 (x : Int64) : (x >>> ((32 : Int32).toInt64 &&& 63)).toInt = x.toInt / 4294967296 := nb_shr x _ 32 nb_32s
theorem nb_r30 (x : Int64) : (x >>> ((30 : Int32).toInt64 &&& 63)).toInt = x.toInt / 1073741824 := nb_shr x _ 30 nb_30s
theorem nb_ri16 (x : Int32) : (x >>> ((16 : Int32) &&& 31)).toInt = x.toInt / 65536 := nb_shr32 x _ 16 nb_16i
theorem nb_l16 {x : Int64} (h1 : -140737488355328 ≤ x.toInt) (h2 : x.toInt < 140737488355328) : (x <<< ((16 : Int32).toInt64 &&& 63)).toInt = x.toInt * 65536 := nb_shl x _ 16 nb_16s (by omega) (by omega)
theorem nb_l32 {x : Int64} (h1 : -2147483648 ≤ x.toInt) (h2 : x.toInt < 2147483648) : (x <<< ((32 : Int32).toInt64 &&& 63)).toInt = x.toInt * 4294967296 := nb_shl x _ 32 nb_32s (by omega) (by omega)
theorem nb_l1 {x : Int64} (h1 : -4611686018427387904 ≤ x.toInt) (h2 : x.toInt < 4611686018427387904) : (x <<< ((1 : Int32).toInt64 &&& 63)).toInt = x.toInt * 2 := nb_shl x _ 1 nb_1s (by omega) (by omega)
/-- the bits of a long that isn't below 0, shifted down with no sign -/
theorem nb_uN {x : Int64} (h : 0 ≤ x.toInt) : ∃ n : Nat, x = lN n ∧ (n : Int) = x.toInt ∧ n < 9223372036854775808 := by
  have hb := nj_bd x
  obtain ⟨k, h1, h2⟩ := pk_lOf (x := x) (fun z => by have := nj_lt.mp z; have e : (0 : Int64).toInt = 0 := rfl; omega)
  have h3 := pk_lT h1
  rw [← h2] at h3
  exact ⟨k, h2, h3.symm, by omega⟩
theorem nb_ring (a b c : Int) : (a + b) * (a + b) = a * a + 2 * (a * b) + b * b := by grind
theorem wb_tb (n : Nat) : (lN n).toBitVec = BitVec.ofNat 64 n := rfl
theorem wb_inj {a b : Int64} (h : a.toBitVec = b.toBitVec) : a = b := Int64.toBitVec_inj.mp h
theorem wb_tn {n : Nat} (h : n < 2 ^ 64) : (lN n).toBitVec.toNat = n := by rw [wb_tb, BitVec.toNat_ofNat, Nat.mod_eq_of_lt h]
theorem wb_of (x : Int64) : ∃ n, n < 2 ^ 64 ∧ x = lN n := ⟨x.toBitVec.toNat, x.toBitVec.isLt, wb_inj (by rw [wb_tb]; simp)⟩
theorem wb_of32 (x : Int32) : ∃ n, n < 2 ^ 32 ∧ x = nI n := ⟨x.toBitVec.toNat, x.toBitVec.isLt, Int32.toBitVec_inj.mp (by show _ = BitVec.ofNat 32 _; simp)⟩
theorem wb_c : ∀ k, k < 64 → ((nI k).toInt64 &&& 63) = lN k := by decide +kernel
theorem wb_cu : ∀ k, k < 64 → ((nI k).toInt64.toUInt64 &&& Int64.toUInt64 63) = UInt64.ofNat k := by decide +kernel
theorem wb_sm : ∀ k, k < 64 → (BitVec.ofNat 64 k).smod 64 = BitVec.ofNat 64 k := by decide +kernel
theorem wb_pw {a b : Nat} (h : a ≤ b) : 2 ^ b = 2 ^ a * 2 ^ (b - a) := by rw [← Nat.pow_add]; congr 1; omega
theorem wb_lt2 {a b : Nat} (h : a < b) : 2 ^ a < 2 ^ b := Nat.pow_lt_pow_right (by decide) h
theorem wb_mod (n : Nat) : lN n = lN (n % 2 ^ 64) := wb_inj (by rw [wb_tb, wb_tb]; apply BitVec.eq_of_toNat_eq; rw [BitVec.toNat_ofNat, BitVec.toNat_ofNat, Nat.mod_mod])
theorem wb_shr {n k : Nat} (hn : n < 2 ^ 64) (hk : k < 64) : ((lN n).toUInt64 >>> ((nI k).toInt64.toUInt64 &&& Int64.toUInt64 63)).toInt64 = lN (n / 2 ^ k) := by
  rw [wb_cu k hk]
  apply wb_inj
  apply BitVec.eq_of_toNat_eq
  show ((lN n).toUInt64 >>> UInt64.ofNat k).toNat = (BitVec.ofNat 64 _).toNat
  have h1 : (UInt64.ofNat k).toNat = k := by
    show (BitVec.ofNat 64 k).toNat = k
    rw [BitVec.toNat_ofNat, Nat.mod_eq_of_lt (by omega)]
  have h2 : (lN n).toUInt64.toNat = n := wb_tn hn
  rw [UInt64.toNat_shiftRight, h1, h2, Nat.mod_eq_of_lt hk, Nat.shiftRight_eq_div_pow, BitVec.toNat_ofNat, Nat.mod_eq_of_lt (Nat.lt_of_le_of_lt (Nat.div_le_self _ _) hn)]
theorem wb_shl (n : Nat) {k : Nat} (hk : k < 64) : lN n <<< ((nI k).toInt64 &&& 63) = lN (n * 2 ^ k) := by
  rw [wb_c k hk]
  apply wb_inj
  rw [Int64.toBitVec_shiftLeft, wb_tb, wb_tb, wb_tb, wb_sm k hk]
  apply BitVec.eq_of_toNat_eq
  rw [BitVec.shiftLeft_eq', BitVec.toNat_shiftLeft, BitVec.toNat_ofNat, BitVec.toNat_ofNat, BitVec.toNat_ofNat, Nat.mod_eq_of_lt (show k < 2 ^ 64 by omega), Nat.shiftLeft_eq, Nat.mul_mod, Nat.mod_mod, ← Nat.mul_mod]
theorem wb_and {a b : Nat} (ha : a < 2 ^ 64) (hb : b < 2 ^ 64) : lN a &&& lN b = lN (a &&& b) := by
  apply wb_inj
  rw [Int64.toBitVec_and, wb_tb, wb_tb, wb_tb]
  apply BitVec.eq_of_toNat_eq
  rw [BitVec.toNat_and, BitVec.toNat_ofNat, BitVec.toNat_ofNat, BitVec.toNat_ofNat, Nat.mod_eq_of_lt ha, Nat.mod_eq_of_lt hb, Nat.mod_eq_of_lt (Nat.and_lt_two_pow _ hb)]
theorem wb_or {a b : Nat} (ha : a < 2 ^ 64) (hb : b < 2 ^ 64) : lN a ||| lN b = lN (a ||| b) := by
  apply wb_inj
  rw [Int64.toBitVec_or, wb_tb, wb_tb, wb_tb]
  apply BitVec.eq_of_toNat_eq
  rw [BitVec.toNat_or, BitVec.toNat_ofNat, BitVec.toNat_ofNat, BitVec.toNat_ofNat, Nat.mod_eq_of_lt ha, Nat.mod_eq_of_lt hb, Nat.mod_eq_of_lt (Nat.or_lt_two_pow ha hb)]
theorem wb_mask {n k : Nat} (hn : n < 2 ^ 64) (hk : k < 64) : lN n &&& lN (2 ^ k - 1) = lN (n % 2 ^ k) := by
  rw [wb_and hn (by have := wb_lt2 hk; omega), Nat.and_two_pow_sub_one_eq_mod]
theorem wb_a1 {n : Nat} (hn : n < 2 ^ 64) : lN n &&& 1 = lN (n % 2) := wb_mask (k := 1) hn (by decide)
