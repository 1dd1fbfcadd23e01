/-! the words and rows that all walks of this claim use -/
abbrev G4 : Type := ClassId × ClassId × ClassId × ClassId
abbrev tyL (g : G4) : List (ClassId × FieldType) := [(g.1, .int), (g.2.1, .long), (g.2.2.1, .byte), (g.2.2.2, .object R_Sum)]
abbrev aI (g : G4) (n : Nat) (f : Nat → Int32) : va_E := .inl (g.1, n, .inl f)
abbrev aJ (g : G4) (n : Nat) (f : Nat → Int64) : va_E := .inl (g.2.1, n, .inr (.inl f))
abbrev aB (g : G4) (n : Nat) (f : Nat → Int32) : va_E := .inl (g.2.2.1, n, .inl f)
abbrev aQ (g : G4) (n : Nat) (f : Nat → Option Nat) : va_E := .inl (g.2.2.2, n, .inr (.inr (.inr (.inr f))))
def sd_let {α β : Type} (x : α) (k : α → Option β) : Option β := k x
theorem sd_mlet {α β : Type} {x : α} {k : α → Option β} {r : β} (h : sd_let x k = some r) : ∃ y, y = x ∧ k y = some r := ⟨x, rfl, h⟩
def sd_g {β : Type} (b : Bool) (x : Option β) : Option β := match b with | true => x | false => none
theorem sd_mg {β : Type} {b : Bool} {x : Option β} {r : β} (h : sd_g b x = some r) : b = true ∧ x = some r := by
  cases b with
  | false => cases h
  | true => exact ⟨rfl, h⟩
theorem sd_mt {P : Prop} [Decidable P] {β : Type} {x y : Option β} {r : β} (h : P) (hm : (if P then x else y) = some r) : x = some r := by rw [if_pos h] at hm; exact hm
theorem sd_mf {P : Prop} [Decidable P] {β : Type} {x y : Option β} {r : β} (h : ¬ P) (hm : (if P then x else y) = some r) : y = some r := by rw [if_neg h] at hm; exact hm
def sd_ix (i : Int32) (n : Nat) : Bool := decide (0 ≤ i.toInt ∧ i.toInt < n)
theorem sd_vp {i : Int32} {n : Nat} (h : sd_ix i n = true) : vp_in i n := vp_in_iff.mpr (of_decide_eq_true h)
def sd_zI (y : Int32) : Bool := decide (¬ y = 0)
theorem sd_nzI {y : Int32} (h : sd_zI y = true) : ¬ y = 0 := of_decide_eq_true h
def sd_zJ (y : Int64) : Bool := decide (¬ y = 0)
theorem sd_nzJ {y : Int64} (h : sd_zJ y = true) : ¬ y = 0 := of_decide_eq_true h
def sd_b01 (r : Int32) : Bool := decide (r = 0 ∨ r = 1)
theorem sd_zb {r : Int32} (h : sd_b01 r = true) : narrow .boolean (.int r) = .int r := by
  rcases (of_decide_eq_true h : r = 0 ∨ r = 1) with rfl | rfl <;> rfl
def sd_cp (sp dp n : Int32) (n0 n1 : Nat) : Bool := decide (¬ sp < 0 ∧ ¬ dp < 0 ∧ ¬ n < 0 ∧ sp.toNatClampNeg + n.toNatClampNeg ≤ n0 ∧ dp.toNatClampNeg + n.toNatClampNeg ≤ n1)
theorem sd_out0_2 {x : Int32} (h0 : ¬ x = 0) (h1 : ¬ x = 1) (h2 : ¬ x = 2) : x.toInt < 0 ∨ 2 < x.toInt := by
  rcases Int.lt_or_le x.toInt 0 with h | h
  · exact Or.inl h
  · refine Or.inr ?_
    have a0 : ¬ x.toInt = 0 := fun q => h0 (Int32.toInt_inj.mp q)
    have a1 : ¬ x.toInt = 1 := fun q => h1 (Int32.toInt_inj.mp q)
    have a2 : ¬ x.toInt = 2 := fun q => h2 (Int32.toInt_inj.mp q)
    omega
def sd_b1 {t1 tr : Type} (o : Option (t1)) (k : t1 → Option tr) : Option tr := match o with | some a1 => k a1 | none => none
theorem sd_mb1 {t1 tr : Type} {o : Option (t1)} {k : t1 → Option tr} {r : tr} (h : sd_b1 o k = some r) : ∃ a1, o = some a1 ∧ k a1 = some r := by
  cases o with
  | none => cases h
  | some z => exact ⟨z, rfl, h⟩
def sd_b2 {t1 t2 tr : Type} (o : Option (t1 × t2)) (k : t1 → t2 → Option tr) : Option tr := match o with | some (a1, a2) => k a1 a2 | none => none
theorem sd_mb2 {t1 t2 tr : Type} {o : Option (t1 × t2)} {k : t1 → t2 → Option tr} {r : tr} (h : sd_b2 o k = some r) : ∃ a1 a2, o = some (a1, a2) ∧ k a1 a2 = some r := by
  cases o with
  | none => cases h
  | some z => exact ⟨z.1, z.2, rfl, h⟩
def sd_b3 {t1 t2 t3 tr : Type} (o : Option (t1 × t2 × t3)) (k : t1 → t2 → t3 → Option tr) : Option tr := match o with | some (a1, a2, a3) => k a1 a2 a3 | none => none
theorem sd_mb3 {t1 t2 t3 tr : Type} {o : Option (t1 × t2 × t3)} {k : t1 → t2 → t3 → Option tr} {r : tr} (h : sd_b3 o k = some r) : ∃ a1 a2 a3, o = some (a1, a2, a3) ∧ k a1 a2 a3 = some r := by
  cases o with
  | none => cases h
  | some z => exact ⟨z.1, z.2.1, z.2.2, rfl, h⟩
def sd_b4 {t1 t2 t3 t4 tr : Type} (o : Option (t1 × t2 × t3 × t4)) (k : t1 → t2 → t3 → t4 → Option tr) : Option tr := match o with | some (a1, a2, a3, a4) => k a1 a2 a3 a4 | none => none
theorem sd_mb4 {t1 t2 t3 t4 tr : Type} {o : Option (t1 × t2 × t3 × t4)} {k : t1 → t2 → t3 → t4 → Option tr} {r : tr} (h : sd_b4 o k = some r) : ∃ a1 a2 a3 a4, o = some (a1, a2, a3, a4) ∧ k a1 a2 a3 a4 = some r := by
  cases o with
  | none => cases h
  | some z => exact ⟨z.1, z.2.1, z.2.2.1, z.2.2.2, rfl, h⟩
def sd_b5 {t1 t2 t3 t4 t5 tr : Type} (o : Option (t1 × t2 × t3 × t4 × t5)) (k : t1 → t2 → t3 → t4 → t5 → Option tr) : Option tr := match o with | some (a1, a2, a3, a4, a5) => k a1 a2 a3 a4 a5 | none => none
theorem sd_mb5 {t1 t2 t3 t4 t5 tr : Type} {o : Option (t1 × t2 × t3 × t4 × t5)} {k : t1 → t2 → t3 → t4 → t5 → Option tr} {r : tr} (h : sd_b5 o k = some r) : ∃ a1 a2 a3 a4 a5, o = some (a1, a2, a3, a4, a5) ∧ k a1 a2 a3 a4 a5 = some r := by
  cases o with
  | none => cases h
  | some z => exact ⟨z.1, z.2.1, z.2.2.1, z.2.2.2.1, z.2.2.2.2, rfl, h⟩
def sd_b6 {t1 t2 t3 t4 t5 t6 tr : Type} (o : Option (t1 × t2 × t3 × t4 × t5 × t6)) (k : t1 → t2 → t3 → t4 → t5 → t6 → Option tr) : Option tr := match o with | some (a1, a2, a3, a4, a5, a6) => k a1 a2 a3 a4 a5 a6 | none => none
theorem sd_mb6 {t1 t2 t3 t4 t5 t6 tr : Type} {o : Option (t1 × t2 × t3 × t4 × t5 × t6)} {k : t1 → t2 → t3 → t4 → t5 → t6 → Option tr} {r : tr} (h : sd_b6 o k = some r) : ∃ a1 a2 a3 a4 a5 a6, o = some (a1, a2, a3, a4, a5, a6) ∧ k a1 a2 a3 a4 a5 a6 = some r := by
  cases o with
  | none => cases h
  | some z => exact ⟨z.1, z.2.1, z.2.2.1, z.2.2.2.1, z.2.2.2.2.1, z.2.2.2.2.2, rfl, h⟩
def sd_b7 {t1 t2 t3 t4 t5 t6 t7 tr : Type} (o : Option (t1 × t2 × t3 × t4 × t5 × t6 × t7)) (k : t1 → t2 → t3 → t4 → t5 → t6 → t7 → Option tr) : Option tr := match o with | some (a1, a2, a3, a4, a5, a6, a7) => k a1 a2 a3 a4 a5 a6 a7 | none => none
theorem sd_mb7 {t1 t2 t3 t4 t5 t6 t7 tr : Type} {o : Option (t1 × t2 × t3 × t4 × t5 × t6 × t7)} {k : t1 → t2 → t3 → t4 → t5 → t6 → t7 → Option tr} {r : tr} (h : sd_b7 o k = some r) : ∃ a1 a2 a3 a4 a5 a6 a7, o = some (a1, a2, a3, a4, a5, a6, a7) ∧ k a1 a2 a3 a4 a5 a6 a7 = some r := by
  cases o with
  | none => cases h
  | some z => exact ⟨z.1, z.2.1, z.2.2.1, z.2.2.2.1, z.2.2.2.2.1, z.2.2.2.2.2.1, z.2.2.2.2.2.2, rfl, h⟩
def sd_b8 {t1 t2 t3 t4 t5 t6 t7 t8 tr : Type} (o : Option (t1 × t2 × t3 × t4 × t5 × t6 × t7 × t8)) (k : t1 → t2 → t3 → t4 → t5 → t6 → t7 → t8 → Option tr) : Option tr := match o with | some (a1, a2, a3, a4, a5, a6, a7, a8) => k a1 a2 a3 a4 a5 a6 a7 a8 | none => none
theorem sd_mb8 {t1 t2 t3 t4 t5 t6 t7 t8 tr : Type} {o : Option (t1 × t2 × t3 × t4 × t5 × t6 × t7 × t8)} {k : t1 → t2 → t3 → t4 → t5 → t6 → t7 → t8 → Option tr} {r : tr} (h : sd_b8 o k = some r) : ∃ a1 a2 a3 a4 a5 a6 a7 a8, o = some (a1, a2, a3, a4, a5, a6, a7, a8) ∧ k a1 a2 a3 a4 a5 a6 a7 a8 = some r := by
  cases o with
  | none => cases h
  | some z => exact ⟨z.1, z.2.1, z.2.2.1, z.2.2.2.1, z.2.2.2.2.1, z.2.2.2.2.2.1, z.2.2.2.2.2.2.1, z.2.2.2.2.2.2.2, rfl, h⟩
def sd_b9 {t1 t2 t3 t4 t5 t6 t7 t8 t9 tr : Type} (o : Option (t1 × t2 × t3 × t4 × t5 × t6 × t7 × t8 × t9)) (k : t1 → t2 → t3 → t4 → t5 → t6 → t7 → t8 → t9 → Option tr) : Option tr := match o with | some (a1, a2, a3, a4, a5, a6, a7, a8, a9) => k a1 a2 a3 a4 a5 a6 a7 a8 a9 | none => none
theorem sd_mb9 {t1 t2 t3 t4 t5 t6 t7 t8 t9 tr : Type} {o : Option (t1 × t2 × t3 × t4 × t5 × t6 × t7 × t8 × t9)} {k : t1 → t2 → t3 → t4 → t5 → t6 → t7 → t8 → t9 → Option tr} {r : tr} (h : sd_b9 o k = some r) : ∃ a1 a2 a3 a4 a5 a6 a7 a8 a9, o = some (a1, a2, a3, a4, a5, a6, a7, a8, a9) ∧ k a1 a2 a3 a4 a5 a6 a7 a8 a9 = some r := by
  cases o with
  | none => cases h
  | some z => exact ⟨z.1, z.2.1, z.2.2.1, z.2.2.2.1, z.2.2.2.2.1, z.2.2.2.2.2.1, z.2.2.2.2.2.2.1, z.2.2.2.2.2.2.2.1, z.2.2.2.2.2.2.2.2, rfl, h⟩
def sd_b10 {t1 t2 t3 t4 t5 t6 t7 t8 t9 t10 tr : Type} (o : Option (t1 × t2 × t3 × t4 × t5 × t6 × t7 × t8 × t9 × t10)) (k : t1 → t2 → t3 → t4 → t5 → t6 → t7 → t8 → t9 → t10 → Option tr) : Option tr := match o with | some (a1, a2, a3, a4, a5, a6, a7, a8, a9, a10) => k a1 a2 a3 a4 a5 a6 a7 a8 a9 a10 | none => none
theorem sd_mb10 {t1 t2 t3 t4 t5 t6 t7 t8 t9 t10 tr : Type} {o : Option (t1 × t2 × t3 × t4 × t5 × t6 × t7 × t8 × t9 × t10)} {k : t1 → t2 → t3 → t4 → t5 → t6 → t7 → t8 → t9 → t10 → Option tr} {r : tr} (h : sd_b10 o k = some r) : ∃ a1 a2 a3 a4 a5 a6 a7 a8 a9 a10, o = some (a1, a2, a3, a4, a5, a6, a7, a8, a9, a10) ∧ k a1 a2 a3 a4 a5 a6 a7 a8 a9 a10 = some r := by
  cases o with
  | none => cases h
  | some z => exact ⟨z.1, z.2.1, z.2.2.1, z.2.2.2.1, z.2.2.2.2.1, z.2.2.2.2.2.1, z.2.2.2.2.2.2.1, z.2.2.2.2.2.2.2.1, z.2.2.2.2.2.2.2.2.1, z.2.2.2.2.2.2.2.2.2, rfl, h⟩
def sd_b11 {t1 t2 t3 t4 t5 t6 t7 t8 t9 t10 t11 tr : Type} (o : Option (t1 × t2 × t3 × t4 × t5 × t6 × t7 × t8 × t9 × t10 × t11)) (k : t1 → t2 → t3 → t4 → t5 → t6 → t7 → t8 → t9 → t10 → t11 → Option tr) : Option tr := match o with | some (a1, a2, a3, a4, a5, a6, a7, a8, a9, a10, a11) => k a1 a2 a3 a4 a5 a6 a7 a8 a9 a10 a11 | none => none
theorem sd_mb11 {t1 t2 t3 t4 t5 t6 t7 t8 t9 t10 t11 tr : Type} {o : Option (t1 × t2 × t3 × t4 × t5 × t6 × t7 × t8 × t9 × t10 × t11)} {k : t1 → t2 → t3 → t4 → t5 → t6 → t7 → t8 → t9 → t10 → t11 → Option tr} {r : tr} (h : sd_b11 o k = some r) : ∃ a1 a2 a3 a4 a5 a6 a7 a8 a9 a10 a11, o = some (a1, a2, a3, a4, a5, a6, a7, a8, a9, a10, a11) ∧ k a1 a2 a3 a4 a5 a6 a7 a8 a9 a10 a11 = some r := by
  cases o with
  | none => cases h
  | some z => exact ⟨z.1, z.2.1, z.2.2.1, z.2.2.2.1, z.2.2.2.2.1, z.2.2.2.2.2.1, z.2.2.2.2.2.2.1, z.2.2.2.2.2.2.2.1, z.2.2.2.2.2.2.2.2.1, z.2.2.2.2.2.2.2.2.2.1, z.2.2.2.2.2.2.2.2.2.2, rfl, h⟩
def sd_b12 {t1 t2 t3 t4 t5 t6 t7 t8 t9 t10 t11 t12 tr : Type} (o : Option (t1 × t2 × t3 × t4 × t5 × t6 × t7 × t8 × t9 × t10 × t11 × t12)) (k : t1 → t2 → t3 → t4 → t5 → t6 → t7 → t8 → t9 → t10 → t11 → t12 → Option tr) : Option tr := match o with | some (a1, a2, a3, a4, a5, a6, a7, a8, a9, a10, a11, a12) => k a1 a2 a3 a4 a5 a6 a7 a8 a9 a10 a11 a12 | none => none
theorem sd_mb12 {t1 t2 t3 t4 t5 t6 t7 t8 t9 t10 t11 t12 tr : Type} {o : Option (t1 × t2 × t3 × t4 × t5 × t6 × t7 × t8 × t9 × t10 × t11 × t12)} {k : t1 → t2 → t3 → t4 → t5 → t6 → t7 → t8 → t9 → t10 → t11 → t12 → Option tr} {r : tr} (h : sd_b12 o k = some r) : ∃ a1 a2 a3 a4 a5 a6 a7 a8 a9 a10 a11 a12, o = some (a1, a2, a3, a4, a5, a6, a7, a8, a9, a10, a11, a12) ∧ k a1 a2 a3 a4 a5 a6 a7 a8 a9 a10 a11 a12 = some r := by
  cases o with
  | none => cases h
  | some z => exact ⟨z.1, z.2.1, z.2.2.1, z.2.2.2.1, z.2.2.2.2.1, z.2.2.2.2.2.1, z.2.2.2.2.2.2.1, z.2.2.2.2.2.2.2.1, z.2.2.2.2.2.2.2.2.1, z.2.2.2.2.2.2.2.2.2.1, z.2.2.2.2.2.2.2.2.2.2.1, z.2.2.2.2.2.2.2.2.2.2.2, rfl, h⟩
def sd_b13 {t1 t2 t3 t4 t5 t6 t7 t8 t9 t10 t11 t12 t13 tr : Type} (o : Option (t1 × t2 × t3 × t4 × t5 × t6 × t7 × t8 × t9 × t10 × t11 × t12 × t13)) (k : t1 → t2 → t3 → t4 → t5 → t6 → t7 → t8 → t9 → t10 → t11 → t12 → t13 → Option tr) : Option tr := match o with | some (a1, a2, a3, a4, a5, a6, a7, a8, a9, a10, a11, a12, a13) => k a1 a2 a3 a4 a5 a6 a7 a8 a9 a10 a11 a12 a13 | none => none
theorem sd_mb13 {t1 t2 t3 t4 t5 t6 t7 t8 t9 t10 t11 t12 t13 tr : Type} {o : Option (t1 × t2 × t3 × t4 × t5 × t6 × t7 × t8 × t9 × t10 × t11 × t12 × t13)} {k : t1 → t2 → t3 → t4 → t5 → t6 → t7 → t8 → t9 → t10 → t11 → t12 → t13 → Option tr} {r : tr} (h : sd_b13 o k = some r) : ∃ a1 a2 a3 a4 a5 a6 a7 a8 a9 a10 a11 a12 a13, o = some (a1, a2, a3, a4, a5, a6, a7, a8, a9, a10, a11, a12, a13) ∧ k a1 a2 a3 a4 a5 a6 a7 a8 a9 a10 a11 a12 a13 = some r := by
  cases o with
  | none => cases h
  | some z => exact ⟨z.1, z.2.1, z.2.2.1, z.2.2.2.1, z.2.2.2.2.1, z.2.2.2.2.2.1, z.2.2.2.2.2.2.1, z.2.2.2.2.2.2.2.1, z.2.2.2.2.2.2.2.2.1, z.2.2.2.2.2.2.2.2.2.1, z.2.2.2.2.2.2.2.2.2.2.1, z.2.2.2.2.2.2.2.2.2.2.2.1, z.2.2.2.2.2.2.2.2.2.2.2.2, rfl, h⟩
def sd_b14 {t1 t2 t3 t4 t5 t6 t7 t8 t9 t10 t11 t12 t13 t14 tr : Type} (o : Option (t1 × t2 × t3 × t4 × t5 × t6 × t7 × t8 × t9 × t10 × t11 × t12 × t13 × t14)) (k : t1 → t2 → t3 → t4 → t5 → t6 → t7 → t8 → t9 → t10 → t11 → t12 → t13 → t14 → Option tr) : Option tr := match o with | some (a1, a2, a3, a4, a5, a6, a7, a8, a9, a10, a11, a12, a13, a14) => k a1 a2 a3 a4 a5 a6 a7 a8 a9 a10 a11 a12 a13 a14 | none => none
theorem sd_mb14 {t1 t2 t3 t4 t5 t6 t7 t8 t9 t10 t11 t12 t13 t14 tr : Type} {o : Option (t1 × t2 × t3 × t4 × t5 × t6 × t7 × t8 × t9 × t10 × t11 × t12 × t13 × t14)} {k : t1 → t2 → t3 → t4 → t5 → t6 → t7 → t8 → t9 → t10 → t11 → t12 → t13 → t14 → Option tr} {r : tr} (h : sd_b14 o k = some r) : ∃ a1 a2 a3 a4 a5 a6 a7 a8 a9 a10 a11 a12 a13 a14, o = some (a1, a2, a3, a4, a5, a6, a7, a8, a9, a10, a11, a12, a13, a14) ∧ k a1 a2 a3 a4 a5 a6 a7 a8 a9 a10 a11 a12 a13 a14 = some r := by
  cases o with
  | none => cases h
  | some z => exact ⟨z.1, z.2.1, z.2.2.1, z.2.2.2.1, z.2.2.2.2.1, z.2.2.2.2.2.1, z.2.2.2.2.2.2.1, z.2.2.2.2.2.2.2.1, z.2.2.2.2.2.2.2.2.1, z.2.2.2.2.2.2.2.2.2.1, z.2.2.2.2.2.2.2.2.2.2.1, z.2.2.2.2.2.2.2.2.2.2.2.1, z.2.2.2.2.2.2.2.2.2.2.2.2.1, z.2.2.2.2.2.2.2.2.2.2.2.2.2, rfl, h⟩
def sd_b15 {t1 t2 t3 t4 t5 t6 t7 t8 t9 t10 t11 t12 t13 t14 t15 tr : Type} (o : Option (t1 × t2 × t3 × t4 × t5 × t6 × t7 × t8 × t9 × t10 × t11 × t12 × t13 × t14 × t15)) (k : t1 → t2 → t3 → t4 → t5 → t6 → t7 → t8 → t9 → t10 → t11 → t12 → t13 → t14 → t15 → Option tr) : Option tr := match o with | some (a1, a2, a3, a4, a5, a6, a7, a8, a9, a10, a11, a12, a13, a14, a15) => k a1 a2 a3 a4 a5 a6 a7 a8 a9 a10 a11 a12 a13 a14 a15 | none => none
theorem sd_mb15 {t1 t2 t3 t4 t5 t6 t7 t8 t9 t10 t11 t12 t13 t14 t15 tr : Type} {o : Option (t1 × t2 × t3 × t4 × t5 × t6 × t7 × t8 × t9 × t10 × t11 × t12 × t13 × t14 × t15)} {k : t1 → t2 → t3 → t4 → t5 → t6 → t7 → t8 → t9 → t10 → t11 → t12 → t13 → t14 → t15 → Option tr} {r : tr} (h : sd_b15 o k = some r) : ∃ a1 a2 a3 a4 a5 a6 a7 a8 a9 a10 a11 a12 a13 a14 a15, o = some (a1, a2, a3, a4, a5, a6, a7, a8, a9, a10, a11, a12, a13, a14, a15) ∧ k a1 a2 a3 a4 a5 a6 a7 a8 a9 a10 a11 a12 a13 a14 a15 = some r := by
  cases o with
  | none => cases h
  | some z => exact ⟨z.1, z.2.1, z.2.2.1, z.2.2.2.1, z.2.2.2.2.1, z.2.2.2.2.2.1, z.2.2.2.2.2.2.1, z.2.2.2.2.2.2.2.1, z.2.2.2.2.2.2.2.2.1, z.2.2.2.2.2.2.2.2.2.1, z.2.2.2.2.2.2.2.2.2.2.1, z.2.2.2.2.2.2.2.2.2.2.2.1, z.2.2.2.2.2.2.2.2.2.2.2.2.1, z.2.2.2.2.2.2.2.2.2.2.2.2.2.1, z.2.2.2.2.2.2.2.2.2.2.2.2.2.2, rfl, h⟩
def sd_b16 {t1 t2 t3 t4 t5 t6 t7 t8 t9 t10 t11 t12 t13 t14 t15 t16 tr : Type} (o : Option (t1 × t2 × t3 × t4 × t5 × t6 × t7 × t8 × t9 × t10 × t11 × t12 × t13 × t14 × t15 × t16)) (k : t1 → t2 → t3 → t4 → t5 → t6 → t7 → t8 → t9 → t10 → t11 → t12 → t13 → t14 → t15 → t16 → Option tr) : Option tr := match o with | some (a1, a2, a3, a4, a5, a6, a7, a8, a9, a10, a11, a12, a13, a14, a15, a16) => k a1 a2 a3 a4 a5 a6 a7 a8 a9 a10 a11 a12 a13 a14 a15 a16 | none => none
theorem sd_mb16 {t1 t2 t3 t4 t5 t6 t7 t8 t9 t10 t11 t12 t13 t14 t15 t16 tr : Type} {o : Option (t1 × t2 × t3 × t4 × t5 × t6 × t7 × t8 × t9 × t10 × t11 × t12 × t13 × t14 × t15 × t16)} {k : t1 → t2 → t3 → t4 → t5 → t6 → t7 → t8 → t9 → t10 → t11 → t12 → t13 → t14 → t15 → t16 → Option tr} {r : tr} (h : sd_b16 o k = some r) : ∃ a1 a2 a3 a4 a5 a6 a7 a8 a9 a10 a11 a12 a13 a14 a15 a16, o = some (a1, a2, a3, a4, a5, a6, a7, a8, a9, a10, a11, a12, a13, a14, a15, a16) ∧ k a1 a2 a3 a4 a5 a6 a7 a8 a9 a10 a11 a12 a13 a14 a15 a16 = some r := by
  cases o with
  | none => cases h
  | some z => exact ⟨z.1, z.2.1, z.2.2.1, z.2.2.2.1, z.2.2.2.2.1, z.2.2.2.2.2.1, z.2.2.2.2.2.2.1, z.2.2.2.2.2.2.2.1, z.2.2.2.2.2.2.2.2.1, z.2.2.2.2.2.2.2.2.2.1, z.2.2.2.2.2.2.2.2.2.2.1, z.2.2.2.2.2.2.2.2.2.2.2.1, z.2.2.2.2.2.2.2.2.2.2.2.2.1, z.2.2.2.2.2.2.2.2.2.2.2.2.2.1, z.2.2.2.2.2.2.2.2.2.2.2.2.2.2.1, z.2.2.2.2.2.2.2.2.2.2.2.2.2.2.2, rfl, h⟩
def sd_b17 {t1 t2 t3 t4 t5 t6 t7 t8 t9 t10 t11 t12 t13 t14 t15 t16 t17 tr : Type} (o : Option (t1 × t2 × t3 × t4 × t5 × t6 × t7 × t8 × t9 × t10 × t11 × t12 × t13 × t14 × t15 × t16 × t17)) (k : t1 → t2 → t3 → t4 → t5 → t6 → t7 → t8 → t9 → t10 → t11 → t12 → t13 → t14 → t15 → t16 → t17 → Option tr) : Option tr := match o with | some (a1, a2, a3, a4, a5, a6, a7, a8, a9, a10, a11, a12, a13, a14, a15, a16, a17) => k a1 a2 a3 a4 a5 a6 a7 a8 a9 a10 a11 a12 a13 a14 a15 a16 a17 | none => none
theorem sd_mb17 {t1 t2 t3 t4 t5 t6 t7 t8 t9 t10 t11 t12 t13 t14 t15 t16 t17 tr : Type} {o : Option (t1 × t2 × t3 × t4 × t5 × t6 × t7 × t8 × t9 × t10 × t11 × t12 × t13 × t14 × t15 × t16 × t17)} {k : t1 → t2 → t3 → t4 → t5 → t6 → t7 → t8 → t9 → t10 → t11 → t12 → t13 → t14 → t15 → t16 → t17 → Option tr} {r : tr} (h : sd_b17 o k = some r) : ∃ a1 a2 a3 a4 a5 a6 a7 a8 a9 a10 a11 a12 a13 a14 a15 a16 a17, o = some (a1, a2, a3, a4, a5, a6, a7, a8, a9, a10, a11, a12, a13, a14, a15, a16, a17) ∧ k a1 a2 a3 a4 a5 a6 a7 a8 a9 a10 a11 a12 a13 a14 a15 a16 a17 = some r := by
  cases o with
  | none => cases h
  | some z => exact ⟨z.1, z.2.1, z.2.2.1, z.2.2.2.1, z.2.2.2.2.1, z.2.2.2.2.2.1, z.2.2.2.2.2.2.1, z.2.2.2.2.2.2.2.1, z.2.2.2.2.2.2.2.2.1, z.2.2.2.2.2.2.2.2.2.1, z.2.2.2.2.2.2.2.2.2.2.1, z.2.2.2.2.2.2.2.2.2.2.2.1, z.2.2.2.2.2.2.2.2.2.2.2.2.1, z.2.2.2.2.2.2.2.2.2.2.2.2.2.1, z.2.2.2.2.2.2.2.2.2.2.2.2.2.2.1, z.2.2.2.2.2.2.2.2.2.2.2.2.2.2.2.1, z.2.2.2.2.2.2.2.2.2.2.2.2.2.2.2.2, rfl, h⟩
def sd_b18 {t1 t2 t3 t4 t5 t6 t7 t8 t9 t10 t11 t12 t13 t14 t15 t16 t17 t18 tr : Type} (o : Option (t1 × t2 × t3 × t4 × t5 × t6 × t7 × t8 × t9 × t10 × t11 × t12 × t13 × t14 × t15 × t16 × t17 × t18)) (k : t1 → t2 → t3 → t4 → t5 → t6 → t7 → t8 → t9 → t10 → t11 → t12 → t13 → t14 → t15 → t16 → t17 → t18 → Option tr) : Option tr := match o with | some (a1, a2, a3, a4, a5, a6, a7, a8, a9, a10, a11, a12, a13, a14, a15, a16, a17, a18) => k a1 a2 a3 a4 a5 a6 a7 a8 a9 a10 a11 a12 a13 a14 a15 a16 a17 a18 | none => none
theorem sd_mb18 {t1 t2 t3 t4 t5 t6 t7 t8 t9 t10 t11 t12 t13 t14 t15 t16 t17 t18 tr : Type} {o : Option (t1 × t2 × t3 × t4 × t5 × t6 × t7 × t8 × t9 × t10 × t11 × t12 × t13 × t14 × t15 × t16 × t17 × t18)} {k : t1 → t2 → t3 → t4 → t5 → t6 → t7 → t8 → t9 → t10 → t11 → t12 → t13 → t14 → t15 → t16 → t17 → t18 → Option tr} {r : tr} (h : sd_b18 o k = some r) : ∃ a1 a2 a3 a4 a5 a6 a7 a8 a9 a10 a11 a12 a13 a14 a15 a16 a17 a18, o = some (a1, a2, a3, a4, a5, a6, a7, a8, a9, a10, a11, a12, a13, a14, a15, a16, a17, a18) ∧ k a1 a2 a3 a4 a5 a6 a7 a8 a9 a10 a11 a12 a13 a14 a15 a16 a17 a18 = some r := by
  cases o with
  | none => cases h
  | some z => exact ⟨z.1, z.2.1, z.2.2.1, z.2.2.2.1, z.2.2.2.2.1, z.2.2.2.2.2.1, z.2.2.2.2.2.2.1, z.2.2.2.2.2.2.2.1, z.2.2.2.2.2.2.2.2.1, z.2.2.2.2.2.2.2.2.2.1, z.2.2.2.2.2.2.2.2.2.2.1, z.2.2.2.2.2.2.2.2.2.2.2.1, z.2.2.2.2.2.2.2.2.2.2.2.2.1, z.2.2.2.2.2.2.2.2.2.2.2.2.2.1, z.2.2.2.2.2.2.2.2.2.2.2.2.2.2.1, z.2.2.2.2.2.2.2.2.2.2.2.2.2.2.2.1, z.2.2.2.2.2.2.2.2.2.2.2.2.2.2.2.2.1, z.2.2.2.2.2.2.2.2.2.2.2.2.2.2.2.2.2, rfl, h⟩
def sd_b19 {t1 t2 t3 t4 t5 t6 t7 t8 t9 t10 t11 t12 t13 t14 t15 t16 t17 t18 t19 tr : Type} (o : Option (t1 × t2 × t3 × t4 × t5 × t6 × t7 × t8 × t9 × t10 × t11 × t12 × t13 × t14 × t15 × t16 × t17 × t18 × t19)) (k : t1 → t2 → t3 → t4 → t5 → t6 → t7 → t8 → t9 → t10 → t11 → t12 → t13 → t14 → t15 → t16 → t17 → t18 → t19 → Option tr) : Option tr := match o with | some (a1, a2, a3, a4, a5, a6, a7, a8, a9, a10, a11, a12, a13, a14, a15, a16, a17, a18, a19) => k a1 a2 a3 a4 a5 a6 a7 a8 a9 a10 a11 a12 a13 a14 a15 a16 a17 a18 a19 | none => none
theorem sd_mb19 {t1 t2 t3 t4 t5 t6 t7 t8 t9 t10 t11 t12 t13 t14 t15 t16 t17 t18 t19 tr : Type} {o : Option (t1 × t2 × t3 × t4 × t5 × t6 × t7 × t8 × t9 × t10 × t11 × t12 × t13 × t14 × t15 × t16 × t17 × t18 × t19)} {k : t1 → t2 → t3 → t4 → t5 → t6 → t7 → t8 → t9 → t10 → t11 → t12 → t13 → t14 → t15 → t16 → t17 → t18 → t19 → Option tr} {r : tr} (h : sd_b19 o k = some r) : ∃ a1 a2 a3 a4 a5 a6 a7 a8 a9 a10 a11 a12 a13 a14 a15 a16 a17 a18 a19, o = some (a1, a2, a3, a4, a5, a6, a7, a8, a9, a10, a11, a12, a13, a14, a15, a16, a17, a18, a19) ∧ k a1 a2 a3 a4 a5 a6 a7 a8 a9 a10 a11 a12 a13 a14 a15 a16 a17 a18 a19 = some r := by
  cases o with
  | none => cases h
  | some z => exact ⟨z.1, z.2.1, z.2.2.1, z.2.2.2.1, z.2.2.2.2.1, z.2.2.2.2.2.1, z.2.2.2.2.2.2.1, z.2.2.2.2.2.2.2.1, z.2.2.2.2.2.2.2.2.1, z.2.2.2.2.2.2.2.2.2.1, z.2.2.2.2.2.2.2.2.2.2.1, z.2.2.2.2.2.2.2.2.2.2.2.1, z.2.2.2.2.2.2.2.2.2.2.2.2.1, z.2.2.2.2.2.2.2.2.2.2.2.2.2.1, z.2.2.2.2.2.2.2.2.2.2.2.2.2.2.1, z.2.2.2.2.2.2.2.2.2.2.2.2.2.2.2.1, z.2.2.2.2.2.2.2.2.2.2.2.2.2.2.2.2.1, z.2.2.2.2.2.2.2.2.2.2.2.2.2.2.2.2.2.1, z.2.2.2.2.2.2.2.2.2.2.2.2.2.2.2.2.2.2, rfl, h⟩
def sd_b20 {t1 t2 t3 t4 t5 t6 t7 t8 t9 t10 t11 t12 t13 t14 t15 t16 t17 t18 t19 t20 tr : Type} (o : Option (t1 × t2 × t3 × t4 × t5 × t6 × t7 × t8 × t9 × t10 × t11 × t12 × t13 × t14 × t15 × t16 × t17 × t18 × t19 × t20)) (k : t1 → t2 → t3 → t4 → t5 → t6 → t7 → t8 → t9 → t10 → t11 → t12 → t13 → t14 → t15 → t16 → t17 → t18 → t19 → t20 → Option tr) : Option tr := match o with | some (a1, a2, a3, a4, a5, a6, a7, a8, a9, a10, a11, a12, a13, a14, a15, a16, a17, a18, a19, a20) => k a1 a2 a3 a4 a5 a6 a7 a8 a9 a10 a11 a12 a13 a14 a15 a16 a17 a18 a19 a20 | none => none
theorem sd_mb20 {t1 t2 t3 t4 t5 t6 t7 t8 t9 t10 t11 t12 t13 t14 t15 t16 t17 t18 t19 t20 tr : Type} {o : Option (t1 × t2 × t3 × t4 × t5 × t6 × t7 × t8 × t9 × t10 × t11 × t12 × t13 × t14 × t15 × t16 × t17 × t18 × t19 × t20)} {k : t1 → t2 → t3 → t4 → t5 → t6 → t7 → t8 → t9 → t10 → t11 → t12 → t13 → t14 → t15 → t16 → t17 → t18 → t19 → t20 → Option tr} {r : tr} (h : sd_b20 o k = some r) : ∃ a1 a2 a3 a4 a5 a6 a7 a8 a9 a10 a11 a12 a13 a14 a15 a16 a17 a18 a19 a20, o = some (a1, a2, a3, a4, a5, a6, a7, a8, a9, a10, a11, a12, a13, a14, a15, a16, a17, a18, a19, a20) ∧ k a1 a2 a3 a4 a5 a6 a7 a8 a9 a10 a11 a12 a13 a14 a15 a16 a17 a18 a19 a20 = some r := by
  cases o with
  | none => cases h
  | some z => exact ⟨z.1, z.2.1, z.2.2.1, z.2.2.2.1, z.2.2.2.2.1, z.2.2.2.2.2.1, z.2.2.2.2.2.2.1, z.2.2.2.2.2.2.2.1, z.2.2.2.2.2.2.2.2.1, z.2.2.2.2.2.2.2.2.2.1, z.2.2.2.2.2.2.2.2.2.2.1, z.2.2.2.2.2.2.2.2.2.2.2.1, z.2.2.2.2.2.2.2.2.2.2.2.2.1, z.2.2.2.2.2.2.2.2.2.2.2.2.2.1, z.2.2.2.2.2.2.2.2.2.2.2.2.2.2.1, z.2.2.2.2.2.2.2.2.2.2.2.2.2.2.2.1, z.2.2.2.2.2.2.2.2.2.2.2.2.2.2.2.2.1, z.2.2.2.2.2.2.2.2.2.2.2.2.2.2.2.2.2.1, z.2.2.2.2.2.2.2.2.2.2.2.2.2.2.2.2.2.2.1, z.2.2.2.2.2.2.2.2.2.2.2.2.2.2.2.2.2.2.2, rfl, h⟩
def sd_b21 {t1 t2 t3 t4 t5 t6 t7 t8 t9 t10 t11 t12 t13 t14 t15 t16 t17 t18 t19 t20 t21 tr : Type} (o : Option (t1 × t2 × t3 × t4 × t5 × t6 × t7 × t8 × t9 × t10 × t11 × t12 × t13 × t14 × t15 × t16 × t17 × t18 × t19 × t20 × t21)) (k : t1 → t2 → t3 → t4 → t5 → t6 → t7 → t8 → t9 → t10 → t11 → t12 → t13 → t14 → t15 → t16 → t17 → t18 → t19 → t20 → t21 → Option tr) : Option tr := match o with | some (a1, a2, a3, a4, a5, a6, a7, a8, a9, a10, a11, a12, a13, a14, a15, a16, a17, a18, a19, a20, a21) => k a1 a2 a3 a4 a5 a6 a7 a8 a9 a10 a11 a12 a13 a14 a15 a16 a17 a18 a19 a20 a21 | none => none
theorem sd_mb21 {t1 t2 t3 t4 t5 t6 t7 t8 t9 t10 t11 t12 t13 t14 t15 t16 t17 t18 t19 t20 t21 tr : Type} {o : Option (t1 × t2 × t3 × t4 × t5 × t6 × t7 × t8 × t9 × t10 × t11 × t12 × t13 × t14 × t15 × t16 × t17 × t18 × t19 × t20 × t21)} {k : t1 → t2 → t3 → t4 → t5 → t6 → t7 → t8 → t9 → t10 → t11 → t12 → t13 → t14 → t15 → t16 → t17 → t18 → t19 → t20 → t21 → Option tr} {r : tr} (h : sd_b21 o k = some r) : ∃ a1 a2 a3 a4 a5 a6 a7 a8 a9 a10 a11 a12 a13 a14 a15 a16 a17 a18 a19 a20 a21, o = some (a1, a2, a3, a4, a5, a6, a7, a8, a9, a10, a11, a12, a13, a14, a15, a16, a17, a18, a19, a20, a21) ∧ k a1 a2 a3 a4 a5 a6 a7 a8 a9 a10 a11 a12 a13 a14 a15 a16 a17 a18 a19 a20 a21 = some r := by
  cases o with
  | none => cases h
  | some z => exact ⟨z.1, z.2.1, z.2.2.1, z.2.2.2.1, z.2.2.2.2.1, z.2.2.2.2.2.1, z.2.2.2.2.2.2.1, z.2.2.2.2.2.2.2.1, z.2.2.2.2.2.2.2.2.1, z.2.2.2.2.2.2.2.2.2.1, z.2.2.2.2.2.2.2.2.2.2.1, z.2.2.2.2.2.2.2.2.2.2.2.1, z.2.2.2.2.2.2.2.2.2.2.2.2.1, z.2.2.2.2.2.2.2.2.2.2.2.2.2.1, z.2.2.2.2.2.2.2.2.2.2.2.2.2.2.1, z.2.2.2.2.2.2.2.2.2.2.2.2.2.2.2.1, z.2.2.2.2.2.2.2.2.2.2.2.2.2.2.2.2.1, z.2.2.2.2.2.2.2.2.2.2.2.2.2.2.2.2.2.1, z.2.2.2.2.2.2.2.2.2.2.2.2.2.2.2.2.2.2.1, z.2.2.2.2.2.2.2.2.2.2.2.2.2.2.2.2.2.2.2.1, z.2.2.2.2.2.2.2.2.2.2.2.2.2.2.2.2.2.2.2.2, rfl, h⟩
def sd_b22 {t1 t2 t3 t4 t5 t6 t7 t8 t9 t10 t11 t12 t13 t14 t15 t16 t17 t18 t19 t20 t21 t22 tr : Type} (o : Option (t1 × t2 × t3 × t4 × t5 × t6 × t7 × t8 × t9 × t10 × t11 × t12 × t13 × t14 × t15 × t16 × t17 × t18 × t19 × t20 × t21 × t22)) (k : t1 → t2 → t3 → t4 → t5 → t6 → t7 → t8 → t9 → t10 → t11 → t12 → t13 → t14 → t15 → t16 → t17 → t18 → t19 → t20 → t21 → t22 → Option tr) : Option tr := match o with | some (a1, a2, a3, a4, a5, a6, a7, a8, a9, a10, a11, a12, a13, a14, a15, a16, a17, a18, a19, a20, a21, a22) => k a1 a2 a3 a4 a5 a6 a7 a8 a9 a10 a11 a12 a13 a14 a15 a16 a17 a18 a19 a20 a21 a22 | none => none
theorem sd_mb22 {t1 t2 t3 t4 t5 t6 t7 t8 t9 t10 t11 t12 t13 t14 t15 t16 t17 t18 t19 t20 t21 t22 tr : Type} {o : Option (t1 × t2 × t3 × t4 × t5 × t6 × t7 × t8 × t9 × t10 × t11 × t12 × t13 × t14 × t15 × t16 × t17 × t18 × t19 × t20 × t21 × t22)} {k : t1 → t2 → t3 → t4 → t5 → t6 → t7 → t8 → t9 → t10 → t11 → t12 → t13 → t14 → t15 → t16 → t17 → t18 → t19 → t20 → t21 → t22 → Option tr} {r : tr} (h : sd_b22 o k = some r) : ∃ a1 a2 a3 a4 a5 a6 a7 a8 a9 a10 a11 a12 a13 a14 a15 a16 a17 a18 a19 a20 a21 a22, o = some (a1, a2, a3, a4, a5, a6, a7, a8, a9, a10, a11, a12, a13, a14, a15, a16, a17, a18, a19, a20, a21, a22) ∧ k a1 a2 a3 a4 a5 a6 a7 a8 a9 a10 a11 a12 a13 a14 a15 a16 a17 a18 a19 a20 a21 a22 = some r := by
  cases o with
  | none => cases h
  | some z => exact ⟨z.1, z.2.1, z.2.2.1, z.2.2.2.1, z.2.2.2.2.1, z.2.2.2.2.2.1, z.2.2.2.2.2.2.1, z.2.2.2.2.2.2.2.1, z.2.2.2.2.2.2.2.2.1, z.2.2.2.2.2.2.2.2.2.1, z.2.2.2.2.2.2.2.2.2.2.1, z.2.2.2.2.2.2.2.2.2.2.2.1, z.2.2.2.2.2.2.2.2.2.2.2.2.1, z.2.2.2.2.2.2.2.2.2.2.2.2.2.1, z.2.2.2.2.2.2.2.2.2.2.2.2.2.2.1, z.2.2.2.2.2.2.2.2.2.2.2.2.2.2.2.1, z.2.2.2.2.2.2.2.2.2.2.2.2.2.2.2.2.1, z.2.2.2.2.2.2.2.2.2.2.2.2.2.2.2.2.2.1, z.2.2.2.2.2.2.2.2.2.2.2.2.2.2.2.2.2.2.1, z.2.2.2.2.2.2.2.2.2.2.2.2.2.2.2.2.2.2.2.1, z.2.2.2.2.2.2.2.2.2.2.2.2.2.2.2.2.2.2.2.2.1, z.2.2.2.2.2.2.2.2.2.2.2.2.2.2.2.2.2.2.2.2.2, rfl, h⟩
def sd_b23 {t1 t2 t3 t4 t5 t6 t7 t8 t9 t10 t11 t12 t13 t14 t15 t16 t17 t18 t19 t20 t21 t22 t23 tr : Type} (o : Option (t1 × t2 × t3 × t4 × t5 × t6 × t7 × t8 × t9 × t10 × t11 × t12 × t13 × t14 × t15 × t16 × t17 × t18 × t19 × t20 × t21 × t22 × t23)) (k : t1 → t2 → t3 → t4 → t5 → t6 → t7 → t8 → t9 → t10 → t11 → t12 → t13 → t14 → t15 → t16 → t17 → t18 → t19 → t20 → t21 → t22 → t23 → Option tr) : Option tr := match o with | some (a1, a2, a3, a4, a5, a6, a7, a8, a9, a10, a11, a12, a13, a14, a15, a16, a17, a18, a19, a20, a21, a22, a23) => k a1 a2 a3 a4 a5 a6 a7 a8 a9 a10 a11 a12 a13 a14 a15 a16 a17 a18 a19 a20 a21 a22 a23 | none => none
theorem sd_mb23 {t1 t2 t3 t4 t5 t6 t7 t8 t9 t10 t11 t12 t13 t14 t15 t16 t17 t18 t19 t20 t21 t22 t23 tr : Type} {o : Option (t1 × t2 × t3 × t4 × t5 × t6 × t7 × t8 × t9 × t10 × t11 × t12 × t13 × t14 × t15 × t16 × t17 × t18 × t19 × t20 × t21 × t22 × t23)} {k : t1 → t2 → t3 → t4 → t5 → t6 → t7 → t8 → t9 → t10 → t11 → t12 → t13 → t14 → t15 → t16 → t17 → t18 → t19 → t20 → t21 → t22 → t23 → Option tr} {r : tr} (h : sd_b23 o k = some r) : ∃ a1 a2 a3 a4 a5 a6 a7 a8 a9 a10 a11 a12 a13 a14 a15 a16 a17 a18 a19 a20 a21 a22 a23, o = some (a1, a2, a3, a4, a5, a6, a7, a8, a9, a10, a11, a12, a13, a14, a15, a16, a17, a18, a19, a20, a21, a22, a23) ∧ k a1 a2 a3 a4 a5 a6 a7 a8 a9 a10 a11 a12 a13 a14 a15 a16 a17 a18 a19 a20 a21 a22 a23 = some r := by
  cases o with
  | none => cases h
  | some z => exact ⟨z.1, z.2.1, z.2.2.1, z.2.2.2.1, z.2.2.2.2.1, z.2.2.2.2.2.1, z.2.2.2.2.2.2.1, z.2.2.2.2.2.2.2.1, z.2.2.2.2.2.2.2.2.1, z.2.2.2.2.2.2.2.2.2.1, z.2.2.2.2.2.2.2.2.2.2.1, z.2.2.2.2.2.2.2.2.2.2.2.1, z.2.2.2.2.2.2.2.2.2.2.2.2.1, z.2.2.2.2.2.2.2.2.2.2.2.2.2.1, z.2.2.2.2.2.2.2.2.2.2.2.2.2.2.1, z.2.2.2.2.2.2.2.2.2.2.2.2.2.2.2.1, z.2.2.2.2.2.2.2.2.2.2.2.2.2.2.2.2.1, z.2.2.2.2.2.2.2.2.2.2.2.2.2.2.2.2.2.1, z.2.2.2.2.2.2.2.2.2.2.2.2.2.2.2.2.2.2.1, z.2.2.2.2.2.2.2.2.2.2.2.2.2.2.2.2.2.2.2.1, z.2.2.2.2.2.2.2.2.2.2.2.2.2.2.2.2.2.2.2.2.1, z.2.2.2.2.2.2.2.2.2.2.2.2.2.2.2.2.2.2.2.2.2.1, z.2.2.2.2.2.2.2.2.2.2.2.2.2.2.2.2.2.2.2.2.2.2, rfl, h⟩
def sd_b24 {t1 t2 t3 t4 t5 t6 t7 t8 t9 t10 t11 t12 t13 t14 t15 t16 t17 t18 t19 t20 t21 t22 t23 t24 tr : Type} (o : Option (t1 × t2 × t3 × t4 × t5 × t6 × t7 × t8 × t9 × t10 × t11 × t12 × t13 × t14 × t15 × t16 × t17 × t18 × t19 × t20 × t21 × t22 × t23 × t24)) (k : t1 → t2 → t3 → t4 → t5 → t6 → t7 → t8 → t9 → t10 → t11 → t12 → t13 → t14 → t15 → t16 → t17 → t18 → t19 → t20 → t21 → t22 → t23 → t24 → Option tr) : Option tr := match o with | some (a1, a2, a3, a4, a5, a6, a7, a8, a9, a10, a11, a12, a13, a14, a15, a16, a17, a18, a19, a20, a21, a22, a23, a24) => k a1 a2 a3 a4 a5 a6 a7 a8 a9 a10 a11 a12 a13 a14 a15 a16 a17 a18 a19 a20 a21 a22 a23 a24 | none => none
theorem sd_mb24 {t1 t2 t3 t4 t5 t6 t7 t8 t9 t10 t11 t12 t13 t14 t15 t16 t17 t18 t19 t20 t21 t22 t23 t24 tr : Type} {o : Option (t1 × t2 × t3 × t4 × t5 × t6 × t7 × t8 × t9 × t10 × t11 × t12 × t13 × t14 × t15 × t16 × t17 × t18 × t19 × t20 × t21 × t22 × t23 × t24)} {k : t1 → t2 → t3 → t4 → t5 → t6 → t7 → t8 → t9 → t10 → t11 → t12 → t13 → t14 → t15 → t16 → t17 → t18 → t19 → t20 → t21 → t22 → t23 → t24 → Option tr} {r : tr} (h : sd_b24 o k = some r) : ∃ a1 a2 a3 a4 a5 a6 a7 a8 a9 a10 a11 a12 a13 a14 a15 a16 a17 a18 a19 a20 a21 a22 a23 a24, o = some (a1, a2, a3, a4, a5, a6, a7, a8, a9, a10, a11, a12, a13, a14, a15, a16, a17, a18, a19, a20, a21, a22, a23, a24) ∧ k a1 a2 a3 a4 a5 a6 a7 a8 a9 a10 a11 a12 a13 a14 a15 a16 a17 a18 a19 a20 a21 a22 a23 a24 = some r := by
  cases o with
  | none => cases h
  | some z => exact ⟨z.1, z.2.1, z.2.2.1, z.2.2.2.1, z.2.2.2.2.1, z.2.2.2.2.2.1, z.2.2.2.2.2.2.1, z.2.2.2.2.2.2.2.1, z.2.2.2.2.2.2.2.2.1, z.2.2.2.2.2.2.2.2.2.1, z.2.2.2.2.2.2.2.2.2.2.1, z.2.2.2.2.2.2.2.2.2.2.2.1, z.2.2.2.2.2.2.2.2.2.2.2.2.1, z.2.2.2.2.2.2.2.2.2.2.2.2.2.1, z.2.2.2.2.2.2.2.2.2.2.2.2.2.2.1, z.2.2.2.2.2.2.2.2.2.2.2.2.2.2.2.1, z.2.2.2.2.2.2.2.2.2.2.2.2.2.2.2.2.1, z.2.2.2.2.2.2.2.2.2.2.2.2.2.2.2.2.2.1, z.2.2.2.2.2.2.2.2.2.2.2.2.2.2.2.2.2.2.1, z.2.2.2.2.2.2.2.2.2.2.2.2.2.2.2.2.2.2.2.1, z.2.2.2.2.2.2.2.2.2.2.2.2.2.2.2.2.2.2.2.2.1, z.2.2.2.2.2.2.2.2.2.2.2.2.2.2.2.2.2.2.2.2.2.1, z.2.2.2.2.2.2.2.2.2.2.2.2.2.2.2.2.2.2.2.2.2.2.1, z.2.2.2.2.2.2.2.2.2.2.2.2.2.2.2.2.2.2.2.2.2.2.2, rfl, h⟩
def sd_PW (D : va_G) (g : G4) (av : List Value) (sz : Nat) (ws : va_W) : Array Value → State → Prop := va_Pc av (fun U => U.heap.size = sz ∧ va_P D classes ws U.heap ∧ va_K D classes (tyL g) U ∧ va_D (fun _ => True) ws)
theorem sd_blind {D : va_G} {g : G4} {av : List Value} {sz : Nat} {ws : va_W} : FrameBlind (sd_PW D g av sz ws) := fun a U gf mk q => by
  obtain ⟨q0, q1, qP, qK, qD⟩ := q
  exact ⟨q0, q1, qP, va_K.moved (u := U) (U := U.calling gf mk a) (Vm.Alike.refl U.vm) qK, qD⟩
def sd_B (D : va_G) (g : G4) (A : Nat → Prop) (ws : va_W) (t : State) : Prop := va_P D classes ws t.heap ∧ va_K D classes (tyL g) t ∧ va_D A ws
def sd_Qi1 {U : Type} (D : va_G) (g : G4) (res : Int32 × U) (w1 : U → va_W) (A : Nat → Prop) : Array Value → State → Outcome → State → Prop := va_Qi (fun (r : Int32) (u : U) => res = (r, u)) (fun u t => sd_B D g A (w1 u) t) A
def sd_Qi0 (D : va_G) (g : G4) (res : Int32) (w1 : va_W) (A : Nat → Prop) : Array Value → State → Outcome → State → Prop := va_Qi (fun (r : Int32) (_ : Unit) => res = r) (fun _ t => sd_B D g A w1 t) A
def sd_Ql1 {U : Type} (D : va_G) (g : G4) (res : Int64 × U) (w1 : U → va_W) (A : Nat → Prop) : Array Value → State → Outcome → State → Prop := va_Ql (fun (r : Int64) (u : U) => res = (r, u)) (fun u t => sd_B D g A (w1 u) t) A
def sd_Ql0 (D : va_G) (g : G4) (res : Int64) (w1 : va_W) (A : Nat → Prop) : Array Value → State → Outcome → State → Prop := va_Ql (fun (r : Int64) (_ : Unit) => res = r) (fun _ t => sd_B D g A w1 t) A
def sd_Qv1 {U : Type} (D : va_G) (g : G4) (res : U) (w1 : U → va_W) (A : Nat → Prop) : Array Value → State → Outcome → State → Prop := va_Qv (fun (u : U) => res = u) (fun u t => sd_B D g A (w1 u) t) A
def sd_Qv0 (D : va_G) (g : G4) (w1 : va_W) (A : Nat → Prop) : Array Value → State → Outcome → State → Prop := va_Qv (fun (_ : Unit) => True) (fun _ t => sd_B D g A w1 t) A
theorem sd_ofW {l : Launch} {y : MethodName} {ws ws' : List Cond} {rm : Room} {Pc : Array Value → State → Prop} {Qc : Array Value → State → Outcome → State → Prop} {mc ms : Nat} {free : Addr → Prop} {cc : ByteArray} {maxL : Nat} {ret : Option FieldType}
    (hy : plainFor y = true) (hw : ws = Cond.code y cc maxL ret :: ws')
    (body : ∀ p e s m args below meth c s₁, BodyLoose p l y (headSpec ws rm) cc maxL ret e s m args below meth c s₁ → c.maxLocals = maxL → Pc args s →
      W p l e (headSpec ws rm).room s m args below meth c s.heap [] 0 0 (MQ below Qc args s mc ms free) (entryFrame m args maxL)) : Met l y ws rm Pc Qc mc ms free := by
  refine MetFree.of_bodyRF (code := cc) (maxLocals := maxL) (ret := ret) hy ?_ ?_
  · intro args s m h hn
    obtain ⟨meth, c, h1, h2, h3, h4, h5, h6, -, -⟩ := Cond.code_spec hn (atoms_spec (ws := ws) h _ (by rw [hw]; exact List.mem_cons_self))
    exact ⟨meth, c, h1, h2, h3, h4, h5, h6⟩
  · intro p e s m args below meth c s₁ B hml hP _ hst
    have hh0 : s₁.heap = s.heap := by rw [B.state]; rfl
    obtain ⟨t, a1, o, b1, b2, b3⟩ := body p e s m args below meth c s₁ B hml hP s₁ hh0 (Stand.of_body B)
    exact ⟨t, o, hst.trans a1, b1, b2, ⟨b3.1, b3.2⟩⟩
theorem sd_met {l : Launch} {y : MethodName} {rm : Room} {cc : ByteArray} {maxL : Nat} {ret : Option FieldType} {own : String} {av : List Value} {sz mc ms : Nat} {wld : va_W} {D : va_G} {g : G4} {Qf : (Nat → Prop) → Array Value → State → Outcome → State → Prop} (hy : plainFor y = true) (ho : y.cls = own) (hlen : (lg_sl av).length ≤ maxL)
    (body : ∀ (p : Program) (e : Env) (s : State) (m : MethodId) (args : Array Value) (below : List Frame) (meth : Method) (c : Code), CallFix p m c cc maxL s args (Cond.code y cc maxL ret :: sd_tb) own → meth.sig.returnType = ret → meth.locks = false → va_K D classes (tyL g) s → ∀ (A : Nat → Prop), (∀ q : Nat, s.heap.size ≤ q → A q) → ∀ (Q : State → Prop), Q = MQ below (Qf A) args s mc ms A → ∀ (H : Heap) (locs : List Loc), va_P D classes wld H → va_D A wld → va_S A s.heap H locs → ∀ (ls : Array Slot), lv_has ls maxL (lv_args 0 av) → W p l e rm s m args below meth c H locs 0 0 Q (F0 m 0 ls [])) :
    Met l y (Cond.code y cc maxL ret :: sd_tb) rm (sd_PW D g av sz wld) (Qf (va_A wld sz)) mc ms (va_A wld sz) := by
  refine sd_ofW (cc := cc) (maxL := maxL) (ret := ret) hy rfl ?_
  intro p e s m args below meth c s₁ B hml hv
  obtain ⟨rfl, hsz, hP, hK, hD0⟩ := hv
  subst hsz
  have hts := atoms_spec (ws := Cond.code y cc maxL ret :: sd_tb) B.pre
  have hown : s.vm.findClass own = some m.cls := by rw [← ho]; exact findClass_of_methodNamed B.named
  have hl := lv_entry av (n := maxL) hlen
  rw [lg_entry_eq]
  exact body p e s m _ below meth c ⟨B.exec, B.bytes, hml, hown, hts⟩ B.returns B.notSynchronized hK _ (fun q h => Or.inr h) _ rfl s.heap [] hP hD0.self va_S.rf _ hl
section SDK
variable {p : Program} {l : Launch} {e : Env} {R : Room} {s : State} {m : MethodId} {args : Array Value} {below : List Frame} {meth : Method} {c : Code} {H : Heap} {locs : List Loc} {cells slots : Nat} {Q : State → Prop}
variable {cc : ByteArray} {pc : Nat} {ls : Array Slot} {rest : List Value} {D : va_G} {A : Nat → Prop} {a : Nat} {g : G4} {ws : va_W} {H0 : Heap} {nL : Nat} {own : String}
theorem sd_tt {w0 : Cond} (S : CallFix p m c cc nL s args (w0 :: sd_tb) own) : ∀ w ∈ sd_tb, w.before args s = true := fun w hw => S.2.2.2.2 w (List.mem_cons_of_mem _ hw)
theorem sd_topi {x y : Int32} (h : y = x) (k : W p l e R s m args below meth c H locs cells slots Q (F0 m pc ls (.int y :: rest))) : W p l e R s m args below meth c H locs cells slots Q (F0 m pc ls (.int x :: rest)) := h ▸ k
theorem sd_topj {x y : Int64} (h : y = x) (k : W p l e R s m args below meth c H locs cells slots Q (F0 m pc ls (.long y :: rest))) : W p l e R s m args below meth c H locs cells slots Q (F0 m pc ls (.long x :: rest)) := h ▸ k
theorem sd_topq {x : Option Nat} {y : Nat} (h : x = some y) (k : W p l e R s m args below meth c H locs cells slots Q (F0 m pc ls (.ref y :: rest))) : W p l e R s m args below meth c H locs cells slots Q (F0 m pc ls (va_rf x :: rest)) := by subst h; exact k
theorem sd_ldc (hx : p.tables.exec = Jvm.exec) (hb : c.code = cc) (hown : s.vm.findClass own = some m.cls) {index : Nat} {v : Int32} (hc : (Cond.constant own index v).before args s = true) (hdg : decode cc pc = .ok (.ldc index, 2)) (k : W p l e R s m args below meth c H locs cells slots Q (F0 m (pc + 2) ls (.int v :: rest))) : W p l e R s m args below meth c H locs cells slots Q (F0 m pc ls rest) := W.ldc hx hb hown hc rfl hdg k
theorem sd_ldc2 (hx : p.tables.exec = Jvm.exec) (hb : c.code = cc) (hown : s.vm.findClass own = some m.cls) {index : Nat} {v : Int64} (hc : (Cond.constantLong own index v).before args s = true) (hdg : decode cc pc = .ok (.ldc2_w index, 3)) (k : W p l e R s m args below meth c H locs cells slots Q (F0 m (pc + 3) ls (.long v :: rest))) : W p l e R s m args below meth c H locs cells slots Q (F0 m pc ls rest) := W.ldc2 hx hb hown hc rfl hdg k
theorem sd_iald (hx : p.tables.exec = Jvm.exec) (hb : c.code = cc) (hK : va_K D classes (tyL g) s) (hP : va_P D classes ws H) (q0 : Nat) {n : Nat} {f : Nat → Int32} {i : Int32} (ha : ws[q0]? = some (a, aI g n f)) (hin : sd_ix i n = true) (hdg : decode cc pc = .ok (.iaload, 1)) (kk : W p l e R s m args below meth c H locs cells slots Q (F0 m (pc + 1) ls (.int (f i.toNatClampNeg) :: rest))) : W p l e R s m args below meth c H locs cells slots Q (F0 m pc ls (.int i :: .ref a :: rest)) := va_iald hx hb hK hP q0 0 ha rfl (sd_vp hin) hdg kk
theorem sd_lald (hx : p.tables.exec = Jvm.exec) (hb : c.code = cc) (hK : va_K D classes (tyL g) s) (hP : va_P D classes ws H) (q0 : Nat) {n : Nat} {f : Nat → Int64} {i : Int32} (ha : ws[q0]? = some (a, aJ g n f)) (hin : sd_ix i n = true) (hdg : decode cc pc = .ok (.laload, 1)) (kk : W p l e R s m args below meth c H locs cells slots Q (F0 m (pc + 1) ls (.long (f i.toNatClampNeg) :: rest))) : W p l e R s m args below meth c H locs cells slots Q (F0 m pc ls (.int i :: .ref a :: rest)) := va_lald hx hb hK hP q0 1 ha rfl (sd_vp hin) hdg kk
theorem sd_bald (hx : p.tables.exec = Jvm.exec) (hb : c.code = cc) (hK : va_K D classes (tyL g) s) (hP : va_P D classes ws H) (q0 : Nat) {n : Nat} {f : Nat → Int32} {i : Int32} (ha : ws[q0]? = some (a, aB g n f)) (hin : sd_ix i n = true) (hdg : decode cc pc = .ok (.baload, 1)) (kk : W p l e R s m args below meth c H locs cells slots Q (F0 m (pc + 1) ls (.int (f i.toNatClampNeg) :: rest))) : W p l e R s m args below meth c H locs cells slots Q (F0 m pc ls (.int i :: .ref a :: rest)) := va_bald hx hb hK hP q0 2 ha rfl (sd_vp hin) hdg kk
theorem sd_aald (hx : p.tables.exec = Jvm.exec) (hb : c.code = cc) (hK : va_K D classes (tyL g) s) (hP : va_P D classes ws H) (q0 : Nat) {n : Nat} {f : Nat → Option Nat} {i : Int32} (ha : ws[q0]? = some (a, aQ g n f)) (hin : sd_ix i n = true) (hdg : decode cc pc = .ok (.aaload, 1)) (kk : W p l e R s m args below meth c H locs cells slots Q (F0 m (pc + 1) ls (va_rf (f i.toNatClampNeg) :: rest))) : W p l e R s m args below meth c H locs cells slots Q (F0 m pc ls (.int i :: .ref a :: rest)) := va_aldq hx hb hK hP q0 3 ha rfl (sd_vp hin) hdg kk
theorem sd_alenI (hx : p.tables.exec = Jvm.exec) (hb : c.code = cc) (hK : va_K D classes (tyL g) s) (hP : va_P D classes ws H) (q0 : Nat) {n : Nat} {f : Nat → Int32} {v : Int32} (ha : ws[q0]? = some (a, aI g n f)) (hv : Int32.ofNat n = v) (hdg : decode cc pc = .ok (.arraylength, 1)) (kk : W p l e R s m args below meth c H locs cells slots Q (F0 m (pc + 1) ls (.int v :: rest))) : W p l e R s m args below meth c H locs cells slots Q (F0 m pc ls (.ref a :: rest)) := va_alen hx hb hK hP q0 0 ha (ty := .int) rfl hv hdg kk
theorem sd_alenJ (hx : p.tables.exec = Jvm.exec) (hb : c.code = cc) (hK : va_K D classes (tyL g) s) (hP : va_P D classes ws H) (q0 : Nat) {n : Nat} {f : Nat → Int64} {v : Int32} (ha : ws[q0]? = some (a, aJ g n f)) (hv : Int32.ofNat n = v) (hdg : decode cc pc = .ok (.arraylength, 1)) (kk : W p l e R s m args below meth c H locs cells slots Q (F0 m (pc + 1) ls (.int v :: rest))) : W p l e R s m args below meth c H locs cells slots Q (F0 m pc ls (.ref a :: rest)) := va_alen hx hb hK hP q0 1 ha (ty := .long) rfl hv hdg kk
theorem sd_alenB (hx : p.tables.exec = Jvm.exec) (hb : c.code = cc) (hK : va_K D classes (tyL g) s) (hP : va_P D classes ws H) (q0 : Nat) {n : Nat} {f : Nat → Int32} {v : Int32} (ha : ws[q0]? = some (a, aB g n f)) (hv : Int32.ofNat n = v) (hdg : decode cc pc = .ok (.arraylength, 1)) (kk : W p l e R s m args below meth c H locs cells slots Q (F0 m (pc + 1) ls (.int v :: rest))) : W p l e R s m args below meth c H locs cells slots Q (F0 m pc ls (.ref a :: rest)) := va_alen hx hb hK hP q0 2 ha (ty := .byte) rfl hv hdg kk
theorem sd_iast (hx : p.tables.exec = Jvm.exec) (hb : c.code = cc) (hK : va_K D classes (tyL g) s) (hP : va_P D classes ws H) (hD : va_D A ws) (hS : va_S A H0 H locs) (q0 : Nat) {n : Nat} {f f2 : Nat → Int32} {i : Int32} {x : Int32} {ws2 : va_W} (ha : ws[q0]? = some (a, aI g n f)) (hin : sd_ix i n = true) (hu : f2 = upd f i.toNatClampNeg x) (hw : ws.set q0 (a, aI g n f2) = ws2) (hdg : decode cc pc = .ok (.iastore, 1)) (kk : ∀ (H1 : Heap) (locs1 : List Loc), va_P D classes ws2 H1 → va_D A ws2 → va_S A H0 H1 locs1 → W p l e R s m args below meth c H1 locs1 cells slots Q (F0 m (pc + 1) ls rest)) : W p l e R s m args below meth c H locs cells slots Q (F0 m pc ls (.int x :: .int i :: .ref a :: rest)) := by
  subst hw; subst hu
  exact va_iast hx hb hK hP hD hS q0 0 ha rfl (sd_vp hin) hdg kk
theorem sd_last (hx : p.tables.exec = Jvm.exec) (hb : c.code = cc) (hK : va_K D classes (tyL g) s) (hP : va_P D classes ws H) (hD : va_D A ws) (hS : va_S A H0 H locs) (q0 : Nat) {n : Nat} {f f2 : Nat → Int64} {i : Int32} {x : Int64} {ws2 : va_W} (ha : ws[q0]? = some (a, aJ g n f)) (hin : sd_ix i n = true) (hu : f2 = vp_updL f i.toNatClampNeg x) (hw : ws.set q0 (a, aJ g n f2) = ws2) (hdg : decode cc pc = .ok (.lastore, 1)) (kk : ∀ (H1 : Heap) (locs1 : List Loc), va_P D classes ws2 H1 → va_D A ws2 → va_S A H0 H1 locs1 → W p l e R s m args below meth c H1 locs1 cells slots Q (F0 m (pc + 1) ls rest)) : W p l e R s m args below meth c H locs cells slots Q (F0 m pc ls (.long x :: .int i :: .ref a :: rest)) := by
  subst hw; subst hu
  exact va_last hx hb hK hP hD hS q0 1 ha rfl (sd_vp hin) hdg kk
theorem sd_bast (hx : p.tables.exec = Jvm.exec) (hb : c.code = cc) (hK : va_K D classes (tyL g) s) (hP : va_P D classes ws H) (hD : va_D A ws) (hS : va_S A H0 H locs) (q0 : Nat) {n : Nat} {f f2 : Nat → Int32} {i : Int32} {x : Int32} {ws2 : va_W} (ha : ws[q0]? = some (a, aB g n f)) (hin : sd_ix i n = true) (hu : f2 = upd f i.toNatClampNeg (vp_nar .byte x)) (hw : ws.set q0 (a, aB g n f2) = ws2) (hdg : decode cc pc = .ok (.bastore, 1)) (kk : ∀ (H1 : Heap) (locs1 : List Loc), va_P D classes ws2 H1 → va_D A ws2 → va_S A H0 H1 locs1 → W p l e R s m args below meth c H1 locs1 cells slots Q (F0 m (pc + 1) ls rest)) : W p l e R s m args below meth c H locs cells slots Q (F0 m pc ls (.int x :: .int i :: .ref a :: rest)) := by
  subst hw; subst hu
  exact va_bast hx hb hK hP hD hS q0 2 ha rfl (sd_vp hin) hdg kk
theorem sd_put (hx : p.tables.exec = Jvm.exec) (hb : c.code = cc) {ref C : String} {T : u_T} {N ci index : Nat} (htt : ∀ w ∈ sd_tb, w.before args s = true) (hin : ∀ w ∈ u_ws C T N, w ∈ sd_tb) (ty0 : Nat → FieldType) (hty : ∀ k, k < N → parseFieldDescriptor (T k).2.2.1 = some (ty0 k)) (hnm : ∀ a, a < N → ∀ b, b < N → a ≠ b → (T a).2.1 ≠ (T b).2.1) (hown : s.vm.findClass own = some m.cls) (hK : va_K D classes (tyL g) s) (hP : va_P D classes ws H) (hD : va_D A ws) (hS : va_S A H0 H locs) (q0 : Nat) {fs : List Value} (he : ws[q0]? = some (a, .inr (ci, fs))) (hc : classes[ci]? = some (C, T, N)) (k : Nat) (hk : k < N) (hlink : Cond.fieldLink own index ref (T k).2.1 (T k).2.2.1 ∈ sd_tb) (hsame : ∀ x, s.fieldFound? (T k).1 (T k).2.1 (T k).2.2.1 = some x → s.fieldFound? ref (T k).2.1 (T k).2.2.1 = some x) (hfin : (T k).2.2.2 = false) {ty : FieldType} {v : Value} (hd : parseFieldDescriptor (T k).2.2.1 = some ty) (hn : narrow ty v = v) (hfit : fits ty v = true) (hl : k < fs.length) {ws2 : va_W} (hw : ws.set q0 (a, .inr (ci, fs.set k v)) = ws2) (hdg : decode cc pc = .ok (.putfield index, 3)) (kk : ∀ (H1 : Heap) (locs1 : List Loc), va_P D classes ws2 H1 → va_D A ws2 → va_S A H0 H1 locs1 → W p l e R s m args below meth c H1 locs1 cells slots Q (F0 m (pc + 3) ls rest)) : W p l e R s m args below meth c H locs cells slots Q (F0 m pc ls (v :: .ref a :: rest)) := by
  subst hw
  exact va_put hx hb htt hin ty0 hty hnm hown hK hP hD hS q0 he hc k hk (htt _ hlink) hsame hfin hd hn hfit hl hdg kk
theorem sd_cmp_eq (x y : Int64) : (lg_cmp x y = 0) ↔ (x = y) := by
  unfold lg_cmp
  rcases Int.lt_trichotomy x.toInt y.toInt with h | h | h
  · have h1 : x < y := Int64.lt_iff_toInt_lt.mpr h
    have h2 : ¬ y < x := fun q => by have := Int64.lt_iff_toInt_lt.mp q; omega
    have h3 : ¬ x = y := fun q => by rw [q] at h; omega
    have h4 : x ≤ y := Int64.le_iff_toInt_le.mpr (by omega)
    have h5 : ¬ y ≤ x := fun q => by have := Int64.le_iff_toInt_le.mp q; omega
    simp [h1, h2, h3, h4, h5, GT.gt]
  · have h0 : x = y := Int64.toInt_inj.mp h
    subst h0
    simp [GT.gt]
  · have h1 : y < x := Int64.lt_iff_toInt_lt.mpr h
    have h2 : ¬ x < y := fun q => by have := Int64.lt_iff_toInt_lt.mp q; omega
    have h3 : ¬ x = y := fun q => by rw [q] at h; omega
    have h4 : y ≤ x := Int64.le_iff_toInt_le.mpr (by omega)
    have h5 : ¬ x ≤ y := fun q => by have := Int64.le_iff_toInt_le.mp q; omega
    simp [h1, h2, h3, h4, h5, GT.gt]
theorem sd_leq (hx : p.tables.exec = Jvm.exec) (hb : c.code = cc) {x y : Int64} {off : Int} {tgt : Nat} (hd1 : decode cc pc = .ok (.lcmp, 1)) (hd2 : decode cc (pc + 1) = .ok (.ifCond .eq off, 3)) (ht : ((pc + 1 : Nat) : Int) + off = (tgt : Int)) (kt : x = y → W p l e R s m args below meth c H locs cells slots Q (F0 m tgt ls rest)) (kf : ¬ x = y → W p l e R s m args below meth c H locs cells slots Q (F0 m (pc + 4) ls rest)) : W p l e R s m args below meth c H locs cells slots Q (F0 m pc ls (.long y :: .long x :: rest)) := by
  refine W.lcmp hx hb hd1 ?_
  exact lv_if_eq hx hb hd2 ht (fun q => kt ((sd_cmp_eq x y).mp q)) (fun q => kf (fun h => q ((sd_cmp_eq x y).mpr h)))
theorem sd_lne (hx : p.tables.exec = Jvm.exec) (hb : c.code = cc) {x y : Int64} {off : Int} {tgt : Nat} (hd1 : decode cc pc = .ok (.lcmp, 1)) (hd2 : decode cc (pc + 1) = .ok (.ifCond .ne off, 3)) (ht : ((pc + 1 : Nat) : Int) + off = (tgt : Int)) (kt : ¬ x = y → W p l e R s m args below meth c H locs cells slots Q (F0 m tgt ls rest)) (kf : x = y → W p l e R s m args below meth c H locs cells slots Q (F0 m (pc + 4) ls rest)) : W p l e R s m args below meth c H locs cells slots Q (F0 m pc ls (.long y :: .long x :: rest)) := by
  refine W.lcmp hx hb hd1 ?_
  exact lv_if_ne hx hb hd2 ht (fun q => kt (fun h => q ((sd_cmp_eq x y).mpr h))) (fun q => kf ((sd_cmp_eq x y).mp q))
theorem sd_cmp_lt (x y : Int64) : (lg_cmp x y < 0) ↔ (x < y) := by
  unfold lg_cmp
  rcases Int.lt_trichotomy x.toInt y.toInt with h | h | h
  · have h1 : x < y := Int64.lt_iff_toInt_lt.mpr h
    have h2 : ¬ y < x := fun q => by have := Int64.lt_iff_toInt_lt.mp q; omega
    have h3 : ¬ x = y := fun q => by rw [q] at h; omega
    have h4 : x ≤ y := Int64.le_iff_toInt_le.mpr (by omega)
    have h5 : ¬ y ≤ x := fun q => by have := Int64.le_iff_toInt_le.mp q; omega
    simp [h1, h2, h3, h4, h5, GT.gt]
  · have h0 : x = y := Int64.toInt_inj.mp h
    subst h0
    simp [GT.gt]
  · have h1 : y < x := Int64.lt_iff_toInt_lt.mpr h
    have h2 : ¬ x < y := fun q => by have := Int64.lt_iff_toInt_lt.mp q; omega
    have h3 : ¬ x = y := fun q => by rw [q] at h; omega
    have h4 : y ≤ x := Int64.le_iff_toInt_le.mpr (by omega)
    have h5 : ¬ x ≤ y := fun q => by have := Int64.le_iff_toInt_le.mp q; omega
    simp [h1, h2, h3, h4, h5, GT.gt]
theorem sd_llt (hx : p.tables.exec = Jvm.exec) (hb : c.code = cc) {x y : Int64} {off : Int} {tgt : Nat} (hd1 : decode cc pc = .ok (.lcmp, 1)) (hd2 : decode cc (pc + 1) = .ok (.ifCond .lt off, 3)) (ht : ((pc + 1 : Nat) : Int) + off = (tgt : Int)) (kt : x < y → W p l e R s m args below meth c H locs cells slots Q (F0 m tgt ls rest)) (kf : ¬ x < y → W p l e R s m args below meth c H locs cells slots Q (F0 m (pc + 4) ls rest)) : W p l e R s m args below meth c H locs cells slots Q (F0 m pc ls (.long y :: .long x :: rest)) := by
  refine W.lcmp hx hb hd1 ?_
  exact lv_if_lt hx hb hd2 ht (fun q => kt ((sd_cmp_lt x y).mp q)) (fun q => kf (fun h => q ((sd_cmp_lt x y).mpr h)))
theorem sd_cmp_ge (x y : Int64) : (0 ≤ lg_cmp x y) ↔ (y ≤ x) := by
  unfold lg_cmp
  rcases Int.lt_trichotomy x.toInt y.toInt with h | h | h
  · have h1 : x < y := Int64.lt_iff_toInt_lt.mpr h
    have h2 : ¬ y < x := fun q => by have := Int64.lt_iff_toInt_lt.mp q; omega
    have h3 : ¬ x = y := fun q => by rw [q] at h; omega
    have h4 : x ≤ y := Int64.le_iff_toInt_le.mpr (by omega)
    have h5 : ¬ y ≤ x := fun q => by have := Int64.le_iff_toInt_le.mp q; omega
    simp [h1, h2, h3, h4, h5, GT.gt]
  · have h0 : x = y := Int64.toInt_inj.mp h
    subst h0
    simp [GT.gt]
  · have h1 : y < x := Int64.lt_iff_toInt_lt.mpr h
    have h2 : ¬ x < y := fun q => by have := Int64.lt_iff_toInt_lt.mp q; omega
    have h3 : ¬ x = y := fun q => by rw [q] at h; omega
    have h4 : y ≤ x := Int64.le_iff_toInt_le.mpr (by omega)
    have h5 : ¬ x ≤ y := fun q => by have := Int64.le_iff_toInt_le.mp q; omega
    simp [h1, h2, h3, h4, h5, GT.gt]
theorem sd_lge (hx : p.tables.exec = Jvm.exec) (hb : c.code = cc) {x y : Int64} {off : Int} {tgt : Nat} (hd1 : decode cc pc = .ok (.lcmp, 1)) (hd2 : decode cc (pc + 1) = .ok (.ifCond .ge off, 3)) (ht : ((pc + 1 : Nat) : Int) + off = (tgt : Int)) (kt : y ≤ x → W p l e R s m args below meth c H locs cells slots Q (F0 m tgt ls rest)) (kf : ¬ y ≤ x → W p l e R s m args below meth c H locs cells slots Q (F0 m (pc + 4) ls rest)) : W p l e R s m args below meth c H locs cells slots Q (F0 m pc ls (.long y :: .long x :: rest)) := by
  refine W.lcmp hx hb hd1 ?_
  exact lv_if_ge hx hb hd2 ht (fun q => kt ((sd_cmp_ge x y).mp q)) (fun q => kf (fun h => q ((sd_cmp_ge x y).mpr h)))
theorem sd_cmp_gt (x y : Int64) : (0 < lg_cmp x y) ↔ (y < x) := by
  unfold lg_cmp
  rcases Int.lt_trichotomy x.toInt y.toInt with h | h | h
  · have h1 : x < y := Int64.lt_iff_toInt_lt.mpr h
    have h2 : ¬ y < x := fun q => by have := Int64.lt_iff_toInt_lt.mp q; omega
    have h3 : ¬ x = y := fun q => by rw [q] at h; omega
    have h4 : x ≤ y := Int64.le_iff_toInt_le.mpr (by omega)
    have h5 : ¬ y ≤ x := fun q => by have := Int64.le_iff_toInt_le.mp q; omega
    simp [h1, h2, h3, h4, h5, GT.gt]
  · have h0 : x = y := Int64.toInt_inj.mp h
    subst h0
    simp [GT.gt]
  · have h1 : y < x := Int64.lt_iff_toInt_lt.mpr h
    have h2 : ¬ x < y := fun q => by have := Int64.lt_iff_toInt_lt.mp q; omega
    have h3 : ¬ x = y := fun q => by rw [q] at h; omega
    have h4 : y ≤ x := Int64.le_iff_toInt_le.mpr (by omega)
    have h5 : ¬ x ≤ y := fun q => by have := Int64.le_iff_toInt_le.mp q; omega
    simp [h1, h2, h3, h4, h5, GT.gt]
theorem sd_lgt (hx : p.tables.exec = Jvm.exec) (hb : c.code = cc) {x y : Int64} {off : Int} {tgt : Nat} (hd1 : decode cc pc = .ok (.lcmp, 1)) (hd2 : decode cc (pc + 1) = .ok (.ifCond .gt off, 3)) (ht : ((pc + 1 : Nat) : Int) + off = (tgt : Int)) (kt : y < x → W p l e R s m args below meth c H locs cells slots Q (F0 m tgt ls rest)) (kf : ¬ y < x → W p l e R s m args below meth c H locs cells slots Q (F0 m (pc + 4) ls rest)) : W p l e R s m args below meth c H locs cells slots Q (F0 m pc ls (.long y :: .long x :: rest)) := by
  refine W.lcmp hx hb hd1 ?_
  exact lv_if_gt hx hb hd2 ht (fun q => kt ((sd_cmp_gt x y).mp q)) (fun q => kf (fun h => q ((sd_cmp_gt x y).mpr h)))
theorem sd_cmp_le (x y : Int64) : (lg_cmp x y ≤ 0) ↔ (x ≤ y) := by
  unfold lg_cmp
  rcases Int.lt_trichotomy x.toInt y.toInt with h | h | h
  · have h1 : x < y := Int64.lt_iff_toInt_lt.mpr h
    have h2 : ¬ y < x := fun q => by have := Int64.lt_iff_toInt_lt.mp q; omega
    have h3 : ¬ x = y := fun q => by rw [q] at h; omega
    have h4 : x ≤ y := Int64.le_iff_toInt_le.mpr (by omega)
    have h5 : ¬ y ≤ x := fun q => by have := Int64.le_iff_toInt_le.mp q; omega
    simp [h1, h2, h3, h4, h5, GT.gt]
  · have h0 : x = y := Int64.toInt_inj.mp h
    subst h0
    simp [GT.gt]
  · have h1 : y < x := Int64.lt_iff_toInt_lt.mpr h
    have h2 : ¬ x < y := fun q => by have := Int64.lt_iff_toInt_lt.mp q; omega
    have h3 : ¬ x = y := fun q => by rw [q] at h; omega
    have h4 : y ≤ x := Int64.le_iff_toInt_le.mpr (by omega)
    have h5 : ¬ x ≤ y := fun q => by have := Int64.le_iff_toInt_le.mp q; omega
    simp [h1, h2, h3, h4, h5, GT.gt]
theorem sd_lle (hx : p.tables.exec = Jvm.exec) (hb : c.code = cc) {x y : Int64} {off : Int} {tgt : Nat} (hd1 : decode cc pc = .ok (.lcmp, 1)) (hd2 : decode cc (pc + 1) = .ok (.ifCond .le off, 3)) (ht : ((pc + 1 : Nat) : Int) + off = (tgt : Int)) (kt : x ≤ y → W p l e R s m args below meth c H locs cells slots Q (F0 m tgt ls rest)) (kf : ¬ x ≤ y → W p l e R s m args below meth c H locs cells slots Q (F0 m (pc + 4) ls rest)) : W p l e R s m args below meth c H locs cells slots Q (F0 m pc ls (.long y :: .long x :: rest)) := by
  refine W.lcmp hx hb hd1 ?_
  exact lv_if_le hx hb hd2 ht (fun q => kt ((sd_cmp_le x y).mp q)) (fun q => kf (fun h => q ((sd_cmp_le x y).mpr h)))
theorem sd_i1ret {U : Type} {res : Int32 × U} {w1 : U → va_W} {v : Int32} {u : U} (hQ : Q = MQ below (sd_Qi1 D g res w1 A) args s cells slots A) (hx : p.tables.exec = Jvm.exec) (hb : c.code = cc) (hr : meth.sig.returnType = some .int) (hlk : meth.locks = false) (hK : va_K D classes (tyL g) s) (hP : va_P D classes (w1 u) H) (hD : va_D A (w1 u)) (hS : va_S A s.heap H locs) (hq : res = (v, u)) (hdg : decode cc pc = .ok (.ireturn, 1)) : W p l e R s m args below meth c H locs cells slots Q (F0 m pc ls [.int v]) := by
  subst hQ
  exact W.iret hx hb hr (fun t ht hW => ⟨⟨v, u, rfl, hq, by rw [ht]; exact hP, va_K.moved hW.alike hK, hD⟩, hS.F ht⟩) hS.2.2 hdg hlk
theorem sd_i0ret {res : Int32} {w1 : va_W} {v : Int32} (hQ : Q = MQ below (sd_Qi0 D g res w1 A) args s cells slots A) (hx : p.tables.exec = Jvm.exec) (hb : c.code = cc) (hr : meth.sig.returnType = some .int) (hlk : meth.locks = false) (hK : va_K D classes (tyL g) s) (hP : va_P D classes w1 H) (hD : va_D A w1) (hS : va_S A s.heap H locs) (hq : res = v) (hdg : decode cc pc = .ok (.ireturn, 1)) : W p l e R s m args below meth c H locs cells slots Q (F0 m pc ls [.int v]) := by
  subst hQ
  exact W.iret hx hb hr (fun t ht hW => ⟨⟨v, (), rfl, hq, by rw [ht]; exact hP, va_K.moved hW.alike hK, hD⟩, hS.F ht⟩) hS.2.2 hdg hlk
theorem sd_l1ret {U : Type} {res : Int64 × U} {w1 : U → va_W} {v : Int64} {u : U} (hQ : Q = MQ below (sd_Ql1 D g res w1 A) args s cells slots A) (hx : p.tables.exec = Jvm.exec) (hb : c.code = cc) (hr : meth.sig.returnType = some .long) (hlk : meth.locks = false) (hK : va_K D classes (tyL g) s) (hP : va_P D classes (w1 u) H) (hD : va_D A (w1 u)) (hS : va_S A s.heap H locs) (hq : res = (v, u)) (hdg : decode cc pc = .ok (.lreturn, 1)) : W p l e R s m args below meth c H locs cells slots Q (F0 m pc ls [.long v]) := by
  subst hQ
  exact W.lret hx hb hr (fun t ht hW => ⟨⟨v, u, rfl, hq, by rw [ht]; exact hP, va_K.moved hW.alike hK, hD⟩, hS.F ht⟩) hS.2.2 hdg hlk
theorem sd_l0ret {res : Int64} {w1 : va_W} {v : Int64} (hQ : Q = MQ below (sd_Ql0 D g res w1 A) args s cells slots A) (hx : p.tables.exec = Jvm.exec) (hb : c.code = cc) (hr : meth.sig.returnType = some .long) (hlk : meth.locks = false) (hK : va_K D classes (tyL g) s) (hP : va_P D classes w1 H) (hD : va_D A w1) (hS : va_S A s.heap H locs) (hq : res = v) (hdg : decode cc pc = .ok (.lreturn, 1)) : W p l e R s m args below meth c H locs cells slots Q (F0 m pc ls [.long v]) := by
  subst hQ
  exact W.lret hx hb hr (fun t ht hW => ⟨⟨v, (), rfl, hq, by rw [ht]; exact hP, va_K.moved hW.alike hK, hD⟩, hS.F ht⟩) hS.2.2 hdg hlk
theorem sd_z1ret {U : Type} {res : Int32 × U} {w1 : U → va_W} {v : Int32} {u : U} (hQ : Q = MQ below (sd_Qi1 D g res w1 A) args s cells slots A) (hx : p.tables.exec = Jvm.exec) (hb : c.code = cc) (hr : meth.sig.returnType = some .boolean) (hlk : meth.locks = false) (hn : narrow .boolean (.int v) = .int v) (hK : va_K D classes (tyL g) s) (hP : va_P D classes (w1 u) H) (hD : va_D A (w1 u)) (hS : va_S A s.heap H locs) (hq : res = (v, u)) (hdg : decode cc pc = .ok (.ireturn, 1)) : W p l e R s m args below meth c H locs cells slots Q (F0 m pc ls [.int v]) := by
  subst hQ
  exact W.zret hx hb hr hn (fun t ht hW => ⟨⟨v, u, rfl, hq, by rw [ht]; exact hP, va_K.moved hW.alike hK, hD⟩, hS.F ht⟩) hS.2.2 hdg hlk
theorem sd_z0ret {res : Int32} {w1 : va_W} {v : Int32} (hQ : Q = MQ below (sd_Qi0 D g res w1 A) args s cells slots A) (hx : p.tables.exec = Jvm.exec) (hb : c.code = cc) (hr : meth.sig.returnType = some .boolean) (hlk : meth.locks = false) (hn : narrow .boolean (.int v) = .int v) (hK : va_K D classes (tyL g) s) (hP : va_P D classes w1 H) (hD : va_D A w1) (hS : va_S A s.heap H locs) (hq : res = v) (hdg : decode cc pc = .ok (.ireturn, 1)) : W p l e R s m args below meth c H locs cells slots Q (F0 m pc ls [.int v]) := by
  subst hQ
  exact W.zret hx hb hr hn (fun t ht hW => ⟨⟨v, (), rfl, hq, by rw [ht]; exact hP, va_K.moved hW.alike hK, hD⟩, hS.F ht⟩) hS.2.2 hdg hlk
theorem sd_v1ret {U : Type} {res : U} {w1 : U → va_W} {u : U} (hQ : Q = MQ below (sd_Qv1 D g res w1 A) args s cells slots A) (hx : p.tables.exec = Jvm.exec) (hb : c.code = cc) (hr : meth.sig.returnType = none) (hlk : meth.locks = false) (hK : va_K D classes (tyL g) s) (hP : va_P D classes (w1 u) H) (hD : va_D A (w1 u)) (hS : va_S A s.heap H locs) (hq : res = u) (hdg : decode cc pc = .ok (.return_, 1)) : W p l e R s m args below meth c H locs cells slots Q (F0 m pc ls []) := by
  subst hQ
  exact W.vret hx hb hr (fun t ht hW => ⟨⟨u, rfl, hq, by rw [ht]; exact hP, va_K.moved hW.alike hK, hD⟩, hS.F ht⟩) hS.2.2 hdg hlk
theorem sd_v0ret {w1 : va_W} (hQ : Q = MQ below (sd_Qv0 D g w1 A) args s cells slots A) (hx : p.tables.exec = Jvm.exec) (hb : c.code = cc) (hr : meth.sig.returnType = none) (hlk : meth.locks = false) (hK : va_K D classes (tyL g) s) (hP : va_P D classes w1 H) (hD : va_D A w1) (hS : va_S A s.heap H locs) (hdg : decode cc pc = .ok (.return_, 1)) : W p l e R s m args below meth c H locs cells slots Q (F0 m pc ls []) := by
  subst hQ
  exact W.vret hx hb hr (fun t ht hW => ⟨⟨(), rfl, trivial, by rw [ht]; exact hP, va_K.moved hW.alike hK, hD⟩, hS.F ht⟩) hS.2.2 hdg hlk
theorem sd_ci1 {U : Type} {res : Int32 × U} {w1 : U → va_W} {wc wr w2 : va_W} {av : Array Value} {st0 : List Value} (hr : va_Run p l e R s m args below meth c H locs cells slots 0 0 (F0 m pc ls st0) rest (sd_Qi1 D g res w1 (va_A wc H.size) av) (va_A wc H.size)) (hP : va_P D classes ws H) (hD : va_D A ws) (hS : va_S A H0 H locs) (hA : ∀ q, H0.size ≤ q → A q) (isC isR : List Nat) (hC : isC.map (fun i => ws[i]?) = wc.map some) (hR : isR.map (fun i => ws[i]?) = wr.map some) (hn : va_nd isR = true) (hdis : ∀ i ∈ isR, i ∉ isC) (hw2 : wr ++ w1 res.2 = w2) (kk : ∀ (H1 : Heap) (locs1 : List Loc), va_P D classes w2 H1 → va_D A w2 → va_S A H0 H1 locs1 → W p l e R s m args below meth c H1 locs1 cells slots Q (F0 m (pc + 3) ls (.int res.1 :: rest))) : W p l e R s m args below meth c H locs cells slots Q (F0 m pc ls st0) := by
  subst hw2
  have hF := va_free (wc := wc) hD hS hA isC hC
  refine va_calli hr hS (fun q _ h => hF q h) hF (fun r u t H1 locs1 ht hvm hw hB hz1 hk1 hS1 => ?_)
  obtain ⟨hP1, hK1, hD1⟩ := hB
  rw [ht] at hP1
  subst hw
  obtain ⟨hP2, hD2⟩ := va_join hP hD isC isR hC hR hn hdis hk1 hF hP1 hD1
  exact kk H1 locs1 hP2 hD2 hS1
theorem sd_ci0 {res : Int32} {w1 : va_W} {wc wr w2 : va_W} {av : Array Value} {st0 : List Value} (hr : va_Run p l e R s m args below meth c H locs cells slots 0 0 (F0 m pc ls st0) rest (sd_Qi0 D g res w1 (va_A wc H.size) av) (va_A wc H.size)) (hP : va_P D classes ws H) (hD : va_D A ws) (hS : va_S A H0 H locs) (hA : ∀ q, H0.size ≤ q → A q) (isC isR : List Nat) (hC : isC.map (fun i => ws[i]?) = wc.map some) (hR : isR.map (fun i => ws[i]?) = wr.map some) (hn : va_nd isR = true) (hdis : ∀ i ∈ isR, i ∉ isC) (hw2 : wr ++ w1 = w2) (kk : ∀ (H1 : Heap) (locs1 : List Loc), va_P D classes w2 H1 → va_D A w2 → va_S A H0 H1 locs1 → W p l e R s m args below meth c H1 locs1 cells slots Q (F0 m (pc + 3) ls (.int res :: rest))) : W p l e R s m args below meth c H locs cells slots Q (F0 m pc ls st0) := by
  subst hw2
  have hF := va_free (wc := wc) hD hS hA isC hC
  refine va_calli hr hS (fun q _ h => hF q h) hF (fun r u t H1 locs1 ht hvm hw hB hz1 hk1 hS1 => ?_)
  obtain ⟨hP1, hK1, hD1⟩ := hB
  rw [ht] at hP1
  obtain rfl := hw
  obtain ⟨hP2, hD2⟩ := va_join hP hD isC isR hC hR hn hdis hk1 hF hP1 hD1
  exact kk H1 locs1 hP2 hD2 hS1
theorem sd_cl1 {U : Type} {res : Int64 × U} {w1 : U → va_W} {wc wr w2 : va_W} {av : Array Value} {st0 : List Value} (hr : va_Run p l e R s m args below meth c H locs cells slots 0 0 (F0 m pc ls st0) rest (sd_Ql1 D g res w1 (va_A wc H.size) av) (va_A wc H.size)) (hP : va_P D classes ws H) (hD : va_D A ws) (hS : va_S A H0 H locs) (hA : ∀ q, H0.size ≤ q → A q) (isC isR : List Nat) (hC : isC.map (fun i => ws[i]?) = wc.map some) (hR : isR.map (fun i => ws[i]?) = wr.map some) (hn : va_nd isR = true) (hdis : ∀ i ∈ isR, i ∉ isC) (hw2 : wr ++ w1 res.2 = w2) (kk : ∀ (H1 : Heap) (locs1 : List Loc), va_P D classes w2 H1 → va_D A w2 → va_S A H0 H1 locs1 → W p l e R s m args below meth c H1 locs1 cells slots Q (F0 m (pc + 3) ls (.long res.1 :: rest))) : W p l e R s m args below meth c H locs cells slots Q (F0 m pc ls st0) := by
  subst hw2
  have hF := va_free (wc := wc) hD hS hA isC hC
  refine va_calll hr hS (fun q _ h => hF q h) hF (fun r u t H1 locs1 ht hvm hw hB hz1 hk1 hS1 => ?_)
  obtain ⟨hP1, hK1, hD1⟩ := hB
  rw [ht] at hP1
  subst hw
  obtain ⟨hP2, hD2⟩ := va_join hP hD isC isR hC hR hn hdis hk1 hF hP1 hD1
  exact kk H1 locs1 hP2 hD2 hS1
theorem sd_cl0 {res : Int64} {w1 : va_W} {wc wr w2 : va_W} {av : Array Value} {st0 : List Value} (hr : va_Run p l e R s m args below meth c H locs cells slots 0 0 (F0 m pc ls st0) rest (sd_Ql0 D g res w1 (va_A wc H.size) av) (va_A wc H.size)) (hP : va_P D classes ws H) (hD : va_D A ws) (hS : va_S A H0 H locs) (hA : ∀ q, H0.size ≤ q → A q) (isC isR : List Nat) (hC : isC.map (fun i => ws[i]?) = wc.map some) (hR : isR.map (fun i => ws[i]?) = wr.map some) (hn : va_nd isR = true) (hdis : ∀ i ∈ isR, i ∉ isC) (hw2 : wr ++ w1 = w2) (kk : ∀ (H1 : Heap) (locs1 : List Loc), va_P D classes w2 H1 → va_D A w2 → va_S A H0 H1 locs1 → W p l e R s m args below meth c H1 locs1 cells slots Q (F0 m (pc + 3) ls (.long res :: rest))) : W p l e R s m args below meth c H locs cells slots Q (F0 m pc ls st0) := by
  subst hw2
  have hF := va_free (wc := wc) hD hS hA isC hC
  refine va_calll hr hS (fun q _ h => hF q h) hF (fun r u t H1 locs1 ht hvm hw hB hz1 hk1 hS1 => ?_)
  obtain ⟨hP1, hK1, hD1⟩ := hB
  rw [ht] at hP1
  obtain rfl := hw
  obtain ⟨hP2, hD2⟩ := va_join hP hD isC isR hC hR hn hdis hk1 hF hP1 hD1
  exact kk H1 locs1 hP2 hD2 hS1
theorem sd_cv1 {U : Type} {res : U} {w1 : U → va_W} {wc wr w2 : va_W} {av : Array Value} {st0 : List Value} (hr : va_Run p l e R s m args below meth c H locs cells slots 0 0 (F0 m pc ls st0) rest (sd_Qv1 D g res w1 (va_A wc H.size) av) (va_A wc H.size)) (hP : va_P D classes ws H) (hD : va_D A ws) (hS : va_S A H0 H locs) (hA : ∀ q, H0.size ≤ q → A q) (isC isR : List Nat) (hC : isC.map (fun i => ws[i]?) = wc.map some) (hR : isR.map (fun i => ws[i]?) = wr.map some) (hn : va_nd isR = true) (hdis : ∀ i ∈ isR, i ∉ isC) (hw2 : wr ++ w1 res = w2) (kk : ∀ (H1 : Heap) (locs1 : List Loc), va_P D classes w2 H1 → va_D A w2 → va_S A H0 H1 locs1 → W p l e R s m args below meth c H1 locs1 cells slots Q (F0 m (pc + 3) ls (rest))) : W p l e R s m args below meth c H locs cells slots Q (F0 m pc ls st0) := by
  subst hw2
  have hF := va_free (wc := wc) hD hS hA isC hC
  refine va_callv hr hS (fun q _ h => hF q h) hF (fun u t H1 locs1 ht hvm hw hB hz1 hk1 hS1 => ?_)
  obtain ⟨hP1, hK1, hD1⟩ := hB
  rw [ht] at hP1
  obtain rfl := hw
  obtain ⟨hP2, hD2⟩ := va_join hP hD isC isR hC hR hn hdis hk1 hF hP1 hD1
  exact kk H1 locs1 hP2 hD2 hS1
theorem sd_cv0 {w1 : va_W} {wc wr w2 : va_W} {av : Array Value} {st0 : List Value} (hr : va_Run p l e R s m args below meth c H locs cells slots 0 0 (F0 m pc ls st0) rest (sd_Qv0 D g w1 (va_A wc H.size) av) (va_A wc H.size)) (hP : va_P D classes ws H) (hD : va_D A ws) (hS : va_S A H0 H locs) (hA : ∀ q, H0.size ≤ q → A q) (isC isR : List Nat) (hC : isC.map (fun i => ws[i]?) = wc.map some) (hR : isR.map (fun i => ws[i]?) = wr.map some) (hn : va_nd isR = true) (hdis : ∀ i ∈ isR, i ∉ isC) (hw2 : wr ++ w1 = w2) (kk : ∀ (H1 : Heap) (locs1 : List Loc), va_P D classes w2 H1 → va_D A w2 → va_S A H0 H1 locs1 → W p l e R s m args below meth c H1 locs1 cells slots Q (F0 m (pc + 3) ls (rest))) : W p l e R s m args below meth c H locs cells slots Q (F0 m pc ls st0) := by
  subst hw2
  have hF := va_free (wc := wc) hD hS hA isC hC
  refine va_callv hr hS (fun q _ h => hF q h) hF (fun u t H1 locs1 ht hvm hw hB hz1 hk1 hS1 => ?_)
  obtain ⟨hP1, hK1, hD1⟩ := hB
  rw [ht] at hP1
  skip
  obtain ⟨hP2, hD2⟩ := va_join hP hD isC isR hC hR hn hdis hk1 hF hP1 hD1
  exact kk H1 locs1 hP2 hD2 hS1
def sd_ok (y : MethodName) (n : Nat) : Prop := y.cls ≠ "java/lang/invoke/MethodHandle" ∧ y.cls ≠ "java/lang/invoke/VarHandle" ∧ (parseMethodDescriptor y.desc).map (fun d => d.parameters.length) = some n
def sd_LS (own : String) (ix : Nat) (y : MethodName) (b : ByteArray) (mL : Nat) (ret : Option FieldType) (n : Nat) : Prop := Cond.methodLink own ix y ∈ sd_tb ∧ Cond.static y ∈ sd_tb ∧ Cond.initialized y.cls ∈ sd_tb ∧ Cond.code y b mL ret ∈ sd_tb ∧ sd_ok y n
def sd_LV (own : String) (ix : Nat) (y : MethodName) (b : ByteArray) (mL : Nat) (ret : Option FieldType) (n : Nat) : Prop := Cond.methodLink own ix y ∈ sd_tb ∧ Cond.instanceMethod y ∈ sd_tb ∧ Cond.selects y.cls y y ∈ sd_tb ∧ Cond.initialized y.cls ∈ sd_tb ∧ Cond.code y b mL ret ∈ sd_tb ∧ sd_ok y n
def sd_LO (own : String) (ix : Nat) : Prop := Cond.methodLink own ix Lib.objectInit ∈ sd_tb ∧ Cond.instanceMethod Lib.objectInit ∈ sd_tb ∧ Cond.code Lib.objectInit ⟨#[0xb1]⟩ 1 none ∈ sd_tb
def sd_LI (own : String) (ix : Nat) (y : MethodName) (b : ByteArray) (mL : Nat) (n : Nat) : Prop := Cond.methodLink own ix y ∈ sd_tb ∧ Cond.instanceMethod y ∈ sd_tb ∧ Cond.initialized y.cls ∈ sd_tb ∧ Cond.code y b mL none ∈ sd_tb ∧ sd_ok y n
def sd_LC (own : String) (ix : Nat) : Prop := Cond.methodLink own ix arraycopyName ∈ sd_tb ∧ Cond.native arraycopyName ∈ sd_tb ∧ Cond.static arraycopyName ∈ sd_tb ∧ Cond.initialized "java/lang/System" ∈ sd_tb
theorem sd_abs (hx : p.tables.exec = Jvm.exec) (hb : c.code = cc) (hml : c.maxLocals = nL) (hown : s.vm.findClass own = some m.cls) {index : Nat} (kl : sd_LS own index Lib.MathLoose.abs_long.x Lib.MathLoose.abs_long.code 2 (some .long) 1) (htt : ∀ w ∈ sd_tb, w.before args s = true) {lv : List (Nat × Value)} (hl : lv_has ls nL lv) {x : Int64} (hdg : decode cc pc = .ok (.invokestatic index, 3)) (hf : 1 ≤ R.frames) (hlo : (rest.map fun v => v.category).sum + 13 ≤ R.locals) (kk : W p l e R s m args below meth c H locs 0 0 Q (F0 m (pc + 3) ls (.long (if 0 < x then x else -x) :: rest))) : W p l e R s m args below meth c H locs 0 0 Q (F0 m pc ls (.long x :: rest)) := va_mabs_long hx hb (hml.trans hl.1.symm) hown (htt _ kl.1) (htt _ kl.2.1) (htt _ kl.2.2.1) (htt _ kl.2.2.2.1) hf hlo (Nat.zero_le _) (Nat.zero_le _) hdg kk
theorem sd_maxl (hx : p.tables.exec = Jvm.exec) (hb : c.code = cc) (hml : c.maxLocals = nL) (hown : s.vm.findClass own = some m.cls) {index : Nat} (kl : sd_LS own index Lib.MathLoose.max_long.x Lib.MathLoose.max_long.code 4 (some .long) 2) (htt : ∀ w ∈ sd_tb, w.before args s = true) {lv : List (Nat × Value)} (hl : lv_has ls nL lv) {x y : Int64} (hdg : decode cc pc = .ok (.invokestatic index, 3)) (hf : 1 ≤ R.frames) (hlo : (rest.map fun v => v.category).sum + 15 ≤ R.locals) (kk : W p l e R s m args below meth c H locs 0 0 Q (F0 m (pc + 3) ls (.long (if y < x then x else y) :: rest))) : W p l e R s m args below meth c H locs 0 0 Q (F0 m pc ls (.long y :: .long x :: rest)) := va_mmax_long hx hb (hml.trans hl.1.symm) hown (htt _ kl.1) (htt _ kl.2.1) (htt _ kl.2.2.1) (htt _ kl.2.2.2.1) hf hlo (Nat.zero_le _) (Nat.zero_le _) hdg kk
theorem sd_maxi (hx : p.tables.exec = Jvm.exec) (hb : c.code = cc) (hml : c.maxLocals = nL) (hown : s.vm.findClass own = some m.cls) {index : Nat} (kl : sd_LS own index Lib.Math.max.name Lib.Math.max.code 2 (some .int) 2) (htt : ∀ w ∈ sd_tb, w.before args s = true) {lv : List (Nat × Value)} (hl : lv_has ls nL lv) {x y : Int32} (hdg : decode cc pc = .ok (.invokestatic index, 3)) (hf : 1 ≤ R.frames) (hlo : (rest.map fun v => v.category).sum + 13 ≤ R.locals) (kk : W p l e R s m args below meth c H locs 0 0 Q (F0 m (pc + 3) ls (.int (if x < y then y else x) :: rest))) : W p l e R s m args below meth c H locs 0 0 Q (F0 m pc ls (.int y :: .int x :: rest)) := va_mmax hx hb (hml.trans hl.1.symm) hown (htt _ kl.1) (htt _ kl.2.1) (htt _ kl.2.2.1) (htt _ kl.2.2.2.1) hf hlo (Nat.zero_le _) (Nat.zero_le _) hdg kk
theorem sd_mini (hx : p.tables.exec = Jvm.exec) (hb : c.code = cc) (hml : c.maxLocals = nL) (hown : s.vm.findClass own = some m.cls) {index : Nat} (kl : sd_LS own index Lib.Math.min.name Lib.Math.min.code 2 (some .int) 2) (htt : ∀ w ∈ sd_tb, w.before args s = true) {lv : List (Nat × Value)} (hl : lv_has ls nL lv) {x y : Int32} (hdg : decode cc pc = .ok (.invokestatic index, 3)) (hf : 1 ≤ R.frames) (hlo : (rest.map fun v => v.category).sum + 13 ≤ R.locals) (kk : W p l e R s m args below meth c H locs 0 0 Q (F0 m (pc + 3) ls (.int (if y < x then y else x) :: rest))) : W p l e R s m args below meth c H locs 0 0 Q (F0 m pc ls (.int y :: .int x :: rest)) := va_mmin hx hb (hml.trans hl.1.symm) hown (htt _ kl.1) (htt _ kl.2.1) (htt _ kl.2.2.1) (htt _ kl.2.2.2.1) hf hlo (Nat.zero_le _) (Nat.zero_le _) hdg kk
theorem sd_copyI (hx : p.tables.exec = Jvm.exec) (hb : c.code = cc) (hml : c.maxLocals = nL) (hown : s.vm.findClass own = some m.cls) {index : Nat} (kl : sd_LC own index) (htt : ∀ w ∈ sd_tb, w.before args s = true) {lv : List (Nat × Value)} (hl : lv_has ls nL lv) (hK : va_K D classes (tyL g) s) (hP : va_P D classes ws H) (hD : va_D A ws) (hS : va_S A H0 H locs) (q0 q1 : Nat) {a0 n0 n1 : Nat} {f h f2 : Nat → Int32} {sp dp n : Int32} {ws2 : va_W} (ha0 : ws[q0]? = some (a0, aI g n0 f)) (ha1 : ws[q1]? = some (a, aI g n1 h)) (hg : sd_cp sp dp n n0 n1 = true) (hu : f2 = va_cpy f h sp.toNatClampNeg dp.toNatClampNeg n.toNatClampNeg) (hw : ws.set q1 (a, aI g n1 f2) = ws2) (hdg : decode cc pc = .ok (.invokestatic index, 3)) (hf : 1 ≤ R.frames) (hlo : (rest.map fun v => v.category).sum + (nativeFrameWords "java/lang/System" "arraycopy" 5 + 11) ≤ R.locals) (kk : ∀ (H1 : Heap) (locs1 : List Loc), va_P D classes ws2 H1 → va_D A ws2 → va_S A H0 H1 locs1 → W p l e R s m args below meth c H1 locs1 cells slots Q (F0 m (pc + 3) ls rest)) : W p l e R s m args below meth c H locs cells slots Q (F0 m pc ls (.int n :: .int dp :: .ref a :: .int sp :: .ref a0 :: rest)) := by
  subst hw; subst hu
  obtain ⟨h1, h2, h3, h4, h5⟩ := of_decide_eq_true hg
  exact va_copyi hx hb (hml.trans hl.1.symm) hown (htt _ kl.1) (htt _ kl.2.1) (htt _ kl.2.2.1) (htt _ kl.2.2.2) hK hP hD hS q0 q1 0 0 ha0 ha1 (ty := .int) rfl rfl rfl h1 h2 h3 h4 h5 (fun _ _ => rfl) hf hlo hdg kk
theorem sd_copyJ (hx : p.tables.exec = Jvm.exec) (hb : c.code = cc) (hml : c.maxLocals = nL) (hown : s.vm.findClass own = some m.cls) {index : Nat} (kl : sd_LC own index) (htt : ∀ w ∈ sd_tb, w.before args s = true) {lv : List (Nat × Value)} (hl : lv_has ls nL lv) (hK : va_K D classes (tyL g) s) (hP : va_P D classes ws H) (hD : va_D A ws) (hS : va_S A H0 H locs) (q0 q1 : Nat) {a0 n0 n1 : Nat} {f h f2 : Nat → Int64} {sp dp n : Int32} {ws2 : va_W} (ha0 : ws[q0]? = some (a0, aJ g n0 f)) (ha1 : ws[q1]? = some (a, aJ g n1 h)) (hg : sd_cp sp dp n n0 n1 = true) (hu : f2 = va_cpy f h sp.toNatClampNeg dp.toNatClampNeg n.toNatClampNeg) (hw : ws.set q1 (a, aJ g n1 f2) = ws2) (hdg : decode cc pc = .ok (.invokestatic index, 3)) (hf : 1 ≤ R.frames) (hlo : (rest.map fun v => v.category).sum + (nativeFrameWords "java/lang/System" "arraycopy" 5 + 11) ≤ R.locals) (kk : ∀ (H1 : Heap) (locs1 : List Loc), va_P D classes ws2 H1 → va_D A ws2 → va_S A H0 H1 locs1 → W p l e R s m args below meth c H1 locs1 cells slots Q (F0 m (pc + 3) ls rest)) : W p l e R s m args below meth c H locs cells slots Q (F0 m pc ls (.int n :: .int dp :: .ref a :: .int sp :: .ref a0 :: rest)) := by
  subst hw; subst hu
  obtain ⟨h1, h2, h3, h4, h5⟩ := of_decide_eq_true hg
  exact va_copyl hx hb (hml.trans hl.1.symm) hown (htt _ kl.1) (htt _ kl.2.1) (htt _ kl.2.2.1) (htt _ kl.2.2.2) hK hP hD hS q0 q1 1 1 ha0 ha1 (ty := .long) rfl rfl rfl h1 h2 h3 h4 h5 (fun _ _ => rfl) hf hlo hdg kk
theorem sd_aast (hx : p.tables.exec = Jvm.exec) (hb : c.code = cc) (hK : va_K D classes (tyL g) s) (hP : va_P D classes ws H) (hD : va_D A ws) (hS : va_S A H0 H locs) (q0 qk : Nat) {n v : Nat} {vs : List Value} {f f2 : Nat → Option Nat} {i : Int32} {ws2 : va_W} (ha : ws[q0]? = some (a, aQ g n f)) (hv : ws[qk]? = some (v, .inr (0, vs))) (hin : sd_ix i n = true) (hu : f2 = va_up f i.toNatClampNeg (some v)) (hw : ws.set q0 (a, aQ g n f2) = ws2) (hdg : decode cc pc = .ok (.aastore, 1)) (kk : ∀ (H1 : Heap) (locs1 : List Loc), va_P D classes ws2 H1 → va_D A ws2 → va_S A H0 H1 locs1 → W p l e R s m args below meth c H1 locs1 cells slots Q (F0 m (pc + 1) ls rest)) : W p l e R s m args below meth c H locs cells slots Q (F0 m pc ls (.ref v :: .int i :: .ref a :: rest)) := by
  subst hw; subst hu
  exact va_astq hx hb hK hP hD hS q0 3 qk 0 ha rfl hv rfl (sd_vp hin) hdg kk
theorem sd_upself {f f2 : Nat → Option Nat} {k v : Nat} (h : f2 = va_up f k (some v)) : f2 k = some v := by rw [h]; exact if_pos rfl
theorem sd_all : GoodIn sd_tb sd_tb := sd_good
theorem sd_goodc {w0 w1 : Cond} (h : w1 ∈ sd_tb) : GoodIn (w0 :: sd_tb) (w1 :: sd_tb) := fun w hw => by
  rcases List.mem_cons.mp hw with e | e
  · subst e; exact ⟨List.mem_cons_of_mem _ h, (sd_all _ h).2⟩
  · exact ⟨List.mem_cons_of_mem _ e, (sd_all _ e).2⟩
theorem sd_Psub {wc : va_W} (hP : va_P D classes ws H) (isC : List Nat) (hC : isC.map (fun i => ws[i]?) = wc.map some) : va_P D classes wc H := by
  intro k q hq
  have h1 : (isC.map (fun i => ws[i]?))[k]? = some (some q) := by rw [hC, List.getElem?_map, hq]; rfl
  rw [List.getElem?_map] at h1
  cases hi : isC[k]? with
  | none => rw [hi] at h1; cases h1
  | some i => rw [hi] at h1; exact hP i q (Option.some.inj h1)
theorem sd_preS {wc : va_W} {av : List Value} (hK : va_K D classes (tyL g) s) (hP : va_P D classes ws H) (hD : va_D A ws) (isC : List Nat) (hC : isC.map (fun i => ws[i]?) = wc.map some) (hn : va_nd isC = true) : ∀ U : State, U.heap = H → s.WarmedH U.vm → sd_PW D g av H.size wc av.toArray U := fun U hU hW => ⟨rfl, by rw [hU], by rw [hU]; exact sd_Psub hP isC hC, va_K.moved hW.alike hK, (hD.sub isC hn hC).weaken (fun _ _ _ _ => trivial)⟩
theorem sd_runS {w0 : Cond} {y : MethodName} {b : ByteArray} {mL n index : Nat} {ret : Option FieldType} {rm : Room} {Qc : Array Value → State → Outcome → State → Prop} {wc : va_W} {As st0 : List Value} {lv : List (Nat × Value)} (S : CallFix p m c cc nL s args (w0 :: sd_tb) own) (hM : Met l y (Cond.code y b mL ret :: sd_tb) rm (sd_PW D g As H.size wc) Qc 0 0 (va_A wc H.size)) (kl : sd_LS own index y b mL ret n) (hRoom : rm.frames + 1 ≤ R.frames ∧ 8 + (mL + 11) + rm.locals ≤ R.locals) (hrm : rm.cells = 0 ∧ rm.slots = 0) (hK : va_K D classes (tyL g) s) (hP : va_P D classes ws H) (hD : va_D A ws) (isC : List Nat) (hC : isC.map (fun i => ws[i]?) = wc.map some) (hn : va_nd isC = true) (hst : st0 = As.reverse ++ rest) (hl : lv_has ls nL lv) (hdg : decode cc pc = .ok (.invokestatic index, 3)) (hlen : As.length = n) (hro : (rest.map fun v => v.category).sum ≤ 8) (hcs : cells ≤ R.cells ∧ slots ≤ R.slots) : va_Run p l e R s m args below meth c H locs cells slots 0 0 (F0 m pc ls st0) rest (Qc As.toArray) (va_A wc H.size) := by
  have htt := sd_tt S
  have hts := S.2.2.2.2
  exact va_runS (bytes := b) (maxL := mL) (ret := ret) (n := n) S hM ⟨callB_of n hts (sd_goodc kl.2.2.2.1) rfl hrm.1 hrm.2 (htt _ kl.2.2.1) (htt _ kl.1) kl.2.2.2.2 hRoom, htt _ kl.2.1⟩ ⟨sd_blind, sd_preS hK hP hD isC hC hn⟩ rfl hlen hl.1 hst (lv_room hro) hdg hcs
theorem sd_runV {w0 : Cond} {y : MethodName} {b : ByteArray} {mL n index : Nat} {ret : Option FieldType} {rm : Room} {Qc : Array Value → State → Outcome → State → Prop} {wc : va_W} {As st0 : List Value} {lv : List (Nat × Value)} {ci : Nat} {fs : List Value} {T : u_T} {N : Nat} (S : CallFix p m c cc nL s args (w0 :: sd_tb) own) (hM : Met l y (Cond.code y b mL ret :: sd_tb) rm (sd_PW D g (.ref a :: As) H.size wc) Qc 0 0 (va_A wc H.size)) (kl : sd_LV own index y b mL ret n) (hRoom : rm.frames + 1 ≤ R.frames ∧ 8 + (mL + 11) + rm.locals ≤ R.locals) (hrm : rm.cells = 0 ∧ rm.slots = 0) (hK : va_K D classes (tyL g) s) (hP : va_P D classes ws H) (hD : va_D A ws) (isC : List Nat) (hC : isC.map (fun i => ws[i]?) = wc.map some) (hn : va_nd isC = true) (hst : st0 = As.reverse ++ .ref a :: rest) (hl : lv_has ls nL lv) (hdg : decode cc pc = .ok (.invokevirtual index, 3)) (hlen : As.length = n) (hro : (rest.map fun v => v.category).sum ≤ 8) (hcs : cells ≤ R.cells ∧ slots ≤ R.slots) (q0 : Nat) (hr0 : ws[q0]? = some (a, .inr (ci, fs))) (hcl : classes[ci]? = some (y.cls, T, N)) : va_Run p l e R s m args below meth c H locs cells slots 0 0 (F0 m pc ls st0) rest (Qc (Value.ref a :: As).toArray) (va_A wc H.size) := by
  have htt := sd_tt S
  have hts := S.2.2.2.2
  exact va_runV (C := y.cls) (bytes := b) (maxL := mL) (ret := ret) (n := n) S hM ⟨callB_of n hts (sd_goodc kl.2.2.2.2.1) rfl hrm.1 hrm.2 (htt _ kl.2.2.2.1) (htt _ kl.1) kl.2.2.2.2.2 hRoom, htt _ kl.2.1, htt _ kl.2.2.1⟩ ⟨sd_blind, va_recv hK hP hcl hr0, sd_preS hK hP hD isC hC hn⟩ rfl hlen hl.1 hst (lv_room hro) hdg hcs
end SDK
