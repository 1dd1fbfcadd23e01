/-! rows of digits to a base, from place k on, m of them -/
def dr (b : Int) (f : Nat → Int) : Nat → Nat → Int
  | _, 0 => 0
  | k, m + 1 => f k + b * dr b f (k + 1) m
theorem dr_0 (b : Int) (f : Nat → Int) (k : Nat) : dr b f k 0 = 0 := rfl
theorem dr_s (b : Int) (f : Nat → Int) (k m : Nat) : dr b f k (m + 1) = f k + b * dr b f (k + 1) m := rfl
theorem dr_top (b : Int) (f : Nat → Int) : ∀ (m k : Nat), dr b f k (m + 1) = dr b f k m + f (k + m) * b ^ m := by
  intro m
  induction m with
  | zero => intro k; rw [dr_s, dr_0, dr_0]; simp
  | succ m ih =>
    intro k
    rw [dr_s, ih (k + 1), dr_s b f k m, show k + 1 + m = k + (m + 1) by omega, Int.pow_succ, Int.mul_add]
    generalize dr b f (k + 1) m = x
    generalize f (k + (m + 1)) = y
    generalize b ^ m = z
    grind
theorem dr_cat (b : Int) (f : Nat → Int) : ∀ (m k n : Nat), dr b f k (m + n) = dr b f k m + b ^ m * dr b f (k + m) n := by
  intro m
  induction m with
  | zero => intro k n; rw [dr_0, Nat.zero_add, Nat.add_zero]; simp
  | succ m ih =>
    intro k n
    rw [show m + 1 + n = m + n + 1 by omega, dr_s, ih (k + 1) n, dr_s, show k + 1 + m = k + (m + 1) by omega, Int.pow_succ]
    generalize dr b f (k + 1) m = x
    generalize dr b f (k + (m + 1)) n = y
    generalize b ^ m = z
    grind
theorem dr_congr (b : Int) {f g : Nat → Int} : ∀ (m k : Nat), (∀ i, k ≤ i → i < k + m → f i = g i) → dr b f k m = dr b g k m := by
  intro m
  induction m with
  | zero => intro k _; rfl
  | succ m ih =>
    intro k h
    rw [dr_s, dr_s, h k (by omega) (by omega), ih (k + 1) (fun i h1 h2 => h i (by omega) (by omega))]
theorem dr_zero (b : Int) {f : Nat → Int} (m k : Nat) (h : ∀ i, k ≤ i → i < k + m → f i = 0) : dr b f k m = 0 := by
  induction m generalizing k with
  | zero => rfl
  | succ m ih =>
    rw [dr_s, h k (by omega) (by omega), ih (k + 1) (fun i h1 h2 => h i (by omega) (by omega))]
    simp
def dr_in (b : Int) (f : Nat → Int) (k m : Nat) : Prop := ∀ i, k ≤ i → i < k + m → 0 ≤ f i ∧ f i < b
theorem dr_pos (b : Int) (hb : 0 < b) {f : Nat → Int} : ∀ (m k : Nat), dr_in b f k m → 0 ≤ dr b f k m := by
  intro m
  induction m with
  | zero => intro k _; exact Int.le_refl _
  | succ m ih =>
    intro k h
    rw [dr_s]
    have h1 := ih (k + 1) (fun i h1 h2 => h i (by omega) (by omega))
    have h2 := (h k (by omega) (by omega)).1
    have := Int.mul_nonneg (Int.le_of_lt hb) h1
    omega
theorem dr_lt (b : Int) (hb : 0 < b) {f : Nat → Int} : ∀ (m k : Nat), dr_in b f k m → dr b f k m < b ^ m := by
  intro m
  induction m with
  | zero => intro k _; rw [dr_0]; simp
  | succ m ih =>
    intro k h
    rw [dr_s, Int.pow_succ]
    have h1 := ih (k + 1) (fun i h1 h2 => h i (by omega) (by omega))
    have h2 := (h k (by omega) (by omega)).2
    have h3 : b * (dr b f (k + 1) m + 1) ≤ b * b ^ m := Int.mul_le_mul_of_nonneg_left (by omega) (Int.le_of_lt hb)
    rw [Int.mul_add, Int.mul_one] at h3
    rw [Int.mul_comm (b ^ m) b]
    omega
theorem dr_inj (b : Int) (hb : 0 < b) {f g : Nat → Int} : ∀ (m k : Nat), dr_in b f k m → dr_in b g k m → dr b f k m = dr b g k m → ∀ i, k ≤ i → i < k + m → f i = g i := by
  intro m
  induction m with
  | zero => intro k _ _ _ i h1 h2; omega
  | succ m ih =>
    intro k h1 h2 h3
    rw [dr_s, dr_s] at h3
    have a1 := h1 k (by omega) (by omega)
    have a2 := h2 k (by omega) (by omega)
    have e1 : f k = g k := by
      have q1 : (f k + b * dr b f (k + 1) m) % b = f k := by rw [Int.add_mul_emod_self_left]; exact Int.emod_eq_of_lt a1.1 a1.2
      have q2 : (g k + b * dr b g (k + 1) m) % b = g k := by rw [Int.add_mul_emod_self_left]; exact Int.emod_eq_of_lt a2.1 a2.2
      rw [← q1, h3, q2]
    rw [e1] at h3
    have e2 : dr b f (k + 1) m = dr b g (k + 1) m := Int.eq_of_mul_eq_mul_left (by omega) (Int.add_left_cancel h3)
    intro i p1 p2
    rcases Nat.eq_or_lt_of_le p1 with z | z
    · rw [← z]; exact e1
    · exact ih (k + 1) (fun j q1 q2 => h1 j (by omega) (by omega)) (fun j q1 q2 => h2 j (by omega) (by omega)) e2 i (by omega) (by omega)
/-- digits of ints, digits of longs -/
def di (f : Nat → Int32) : Nat → Int := fun k => (f k).toInt
def dj (f : Nat → Int64) : Nat → Int := fun k => (f k).toInt
theorem di_upd (f : Nat → Int32) (k : Nat) (v : Int32) (i : Nat) : di (upd f k v) i = if i = k then v.toInt else di f i := by
  unfold di upd
  by_cases h : i = k
  · rw [if_pos h, if_pos h]
  · rw [if_neg h, if_neg h]
theorem dj_upd (f : Nat → Int64) (k : Nat) (v : Int64) (i : Nat) : dj (vp_updL f k v) i = if i = k then v.toInt else dj f i := by
  unfold dj vp_updL
  by_cases h : i = k
  · rw [if_pos h, if_pos h]
  · rw [if_neg h, if_neg h]
/-- a comparison from the top decides -/
theorem dr_cmp (b : Int) (hb : 0 < b) {f g : Nat → Int} (k m : Nat) (h1 : dr_in b f k m) (h2 : dr_in b g k m) (y : Int) (h : f (k + m) < g (k + m)) : dr b f k (m + 1) < dr b g k (m + 1) := by
  rw [dr_top, dr_top]
  have a1 := dr_lt b hb m k h1
  have a2 := dr_pos b hb m k h2
  have h3 : (f (k + m) + 1) * b ^ m ≤ g (k + m) * b ^ m := Int.mul_le_mul_of_nonneg_right (by omega) (Int.le_of_lt (Int.pow_pos hb))
  rw [Int.add_mul, Int.one_mul] at h3
  omega
