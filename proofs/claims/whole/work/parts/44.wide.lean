/-! the class's rows: take, fill, addSmall, putLong, topOf -/
theorem nI_ifLt {a b : Nat} (ha : a < 2147483648) (hb : b < 2147483648) {α : Type} {x y : α} : (if nI a < nI b then x else y) = if a < b then x else y := by
  by_cases h : a < b
  · rw [if_pos ((nI_ltI (by omega) (by omega)).mpr h), if_pos h]
  · rw [if_neg (fun z => h ((nI_ltI (by omega) (by omega)).mp z)), if_neg h]
theorem nI_ifLe {a b : Nat} (ha : a < 2147483648) (hb : b < 2147483648) {α : Type} {x y : α} : (if nI a ≤ nI b then x else y) = if a ≤ b then x else y := by
  by_cases h : a ≤ b
  · rw [if_pos ((nI_leI (by omega) (by omega)).mpr h), if_pos h]
  · rw [if_neg (fun z => h ((nI_leI (by omega) (by omega)).mp z)), if_neg h]
theorem nI_ifEq {a b : Nat} (ha : a < 2147483648) (hb : b < 2147483648) {α : Type} {x y : α} : (if nI a = nI b then x else y) = if a = b then x else y := by
  by_cases h : a = b
  · rw [if_pos ((nI_eq (by omega) (by omega)).mpr h), if_pos h]
  · rw [if_neg (fun z => h ((nI_eq (by omega) (by omega)).mp z)), if_neg h]
/-- an index that goes down: m places are left -/
def dnI : Nat → Int32
  | 0 => -1
  | m + 1 => nI m
theorem dnI_s (m : Nat) : dnI (m + 1) = nI m := rfl
theorem dnI_d (m : Nat) : nI m + (-1 : Int32) = dnI m := by
  cases m with
  | zero => rfl
  | succ m =>
    rw [dnI_s, ← nI_1]
    rw [ni_eq]
    rw [Int32.toInt_add, Int32.toInt_add]
    show ((((nI m).toInt + 1).bmod (2 ^ 32)) + (-1)).bmod (2 ^ 32) = _
    rw [Int.bmod_add_bmod, Int.add_assoc]
    have := ni_bd (nI m)
    rw [show (1 : Int) + -1 = 0 from rfl, Int.add_zero, ni_bm (by omega) (by omega)]
theorem dnI_n0 : dnI 0 < 0 := by decide
theorem dnI_np {m : Nat} (h : m < 2147483648) : ¬ nI m < 0 := nI_pos (by omega)
theorem nj_bdd (u : Nat → Int32) (k : Nat) : -2147483648 ≤ di u k ∧ di u k < 2147483648 := ni_bd (u k)
/-- the loop of take -/
theorem wt_loop {off nT nR e : Nat} (t : Int32) (cR : Nat → Int32) (he : e + off < nT) (hT : nT < 2147483648) (hR : e < nR) (ht : -131072 ≤ t.toInt ∧ t.toInt ≤ 131072) :
    ∀ (m fu k : Nat) (c : Int64) (u : Nat → Int32), k + m = e + 1 → m < fu → (∀ i, k ≤ i → i < k + m → 0 ≤ di cR i ∧ di cR i ≤ 131072) → -67108864 ≤ c.toInt → c.toInt ≤ 67108864 →
    ∃ c' u', mf_Wide_take_L6 (nI e) (nI off) nT nR t cR fu c (nI k) u = some (c', u') ∧ -67108864 ≤ c'.toInt ∧ c'.toInt ≤ 67108864 ∧
      dr 65536 (di u') (k + off) m + c'.toInt * 65536 ^ m = c.toInt + dr 65536 (di u) (k + off) m - t.toInt * dr 65536 (di cR) k m ∧
      (∀ i, i < k + off ∨ k + off + m ≤ i → u' i = u i) ∧ dr_in 65536 (di u') (k + off) m := by
  intro m
  induction m with
  | zero =>
    intro fu k c u h1 h2 h3 h4 h5
    obtain ⟨fu, rfl⟩ : ∃ g, fu = g + 1 := ⟨fu - 1, by omega⟩
    rw [mf_Wide_take_L6, if_pos (nI_lt (by omega) (by omega))]
    refine ⟨c, u, rfl, h4, h5, ?_, fun i _ => rfl, fun i p q => by omega⟩
    simp [dr_0]
  | succ m ih =>
    intro fu k c u h1 h2 h3 h4 h5
    obtain ⟨fu, rfl⟩ : ∃ g, fu = g + 1 := ⟨fu - 1, by omega⟩
    have q1 := nj_bdd u (k + off)
    have q2 := h3 k (by omega) (by omega)
    have q3 : -17179869184 ≤ t.toInt * di cR k ∧ t.toInt * di cR k ≤ 17179869184 := by
      have a1 : t.toInt * di cR k ≤ 131072 * di cR k := Int.mul_le_mul_of_nonneg_right ht.2 q2.1
      have a2 : -131072 * di cR k ≤ t.toInt * di cR k := Int.mul_le_mul_of_nonneg_right ht.1 q2.1
      omega
    have e1 : (t.toInt64 * (cR k).toInt64).toInt = t.toInt * di cR k := by
      rw [nj_mul] <;> rw [nb_ext, nb_ext] <;> unfold di at * <;> omega
    have e2 : ((u (k + off)).toInt64 - t.toInt64 * (cR k).toInt64).toInt = di u (k + off) - t.toInt * di cR k := by
      rw [nj_sub] <;> rw [nb_ext, e1] <;> unfold di at * <;> omega
    have e3 : (c + ((u (k + off)).toInt64 - t.toInt64 * (cR k).toInt64)).toInt = c.toInt + (di u (k + off) - t.toInt * di cR k) := by
      rw [nj_add] <;> rw [e2] <;> omega
    rw [mf_Wide_take_L6, if_neg (nI_nlt (by omega) (by omega))]
    simp only [nI_add, nI_clamp (show k + off < 2 ^ 31 by omega), nI_clamp (show k < 2 ^ 31 by omega), sd_ixI (show k + off < nT by omega) (by omega), sd_ixI (show k < nR by omega) (by omega), sd_g_s, sd_let_s, nI_1]
    generalize hx : c + ((u (k + off)).toInt64 - t.toInt64 * (cR k).toInt64) = x at e3
    have f1 := nb_m16 x
    have f2 : (x &&& (65535 : Int64)).toInt32.toInt = x.toInt % 65536 := by rw [nb_cut] <;> rw [f1] <;> omega
    have f3 := nb_r16 x
    obtain ⟨c', u', g1, g2, g3, g4, g5, g6⟩ := ih fu (k + 1) (x >>> ((16 : Int32).toInt64 &&& 63)) (upd u (k + off) ((x &&& (65535 : Int64)).toInt32)) (by omega) (by omega) (fun i p q => h3 i (by omega) (by omega)) (by omega) (by omega)
    have k1 : k + 1 + off = k + off + 1 := by omega
    rw [k1] at g4 g5 g6
    refine ⟨c', u', g1, g2, g3, ?_, ?_, ?_⟩
    · have g7 : u' (k + off) = (x &&& (65535 : Int64)).toInt32 := by
        rw [g5 _ (Or.inl (by omega))]; exact if_pos rfl
      have g8 : dr 65536 (di (upd u (k + off) ((x &&& (65535 : Int64)).toInt32))) (k + off + 1) m = dr 65536 (di u) (k + off + 1) m :=
        dr_congr _ m _ (fun i p q => by rw [di_upd, if_neg (by omega)])
      rw [g8, f3] at g4
      rw [dr_s, dr_s, dr_s, Int.pow_succ]
      have g9 : di u' (k + off) = x.toInt % 65536 := by unfold di; rw [g7]; exact f2
      rw [g9]
      have g10 := Int.emod_add_mul_ediv x.toInt 65536
      generalize dr 65536 (di u') (k + off + 1) m = y1 at *
      generalize dr 65536 (di u) (k + off + 1) m = y2 at *
      generalize dr 65536 (di cR) (k + 1) m = y3 at *
      generalize (65536 : Int) ^ m = y4 at *
      generalize x.toInt % 65536 = z1 at *
      generalize x.toInt / 65536 = z2 at *
      grind
    · intro i p
      rw [g5 i (by omega)]
      exact if_neg (by omega)
    · intro i p q
      rcases Nat.eq_or_lt_of_le p with z | z
      · rw [← z]
        unfold di
        rw [g5 _ (Or.inl (by omega)), show upd u (k + off) ((x &&& (65535 : Int64)).toInt32) (k + off) = (x &&& (65535 : Int64)).toInt32 from if_pos rfl, f2]
        omega
      · exact g6 i (by omega) (by omega)
/-- take, from a row's place s on, m digits -/
theorem wt_take {F off nT nR s m : Nat} (hF : 18446744073709551616 ≤ F) (t : Int32) (cT cR : Nat → Int32) (he : s + m + off < nT) (hT : nT < 2147483648) (hm : 0 < m) (hR : s + m ≤ nR) (ht : -131072 ≤ t.toInt ∧ t.toInt ≤ 131072)
    (h3 : ∀ i, s ≤ i → i < s + m → 0 ≤ di cR i ∧ di cR i ≤ 131072) (h4 : -1073741824 ≤ di cT (s + m + off) ∧ di cT (s + m + off) ≤ 1073741824) :
    ∃ u', mf_Wide_take F nT nR (nI off) (nI s) (nI (s + m - 1)) t cT cR = some u' ∧ dr 65536 (di u') (s + off) (m + 1) = dr 65536 (di cT) (s + off) (m + 1) - t.toInt * dr 65536 (di cR) s m ∧
      (∀ i, i < s + off ∨ s + off + m < i → u' i = cT i) ∧ dr_in 65536 (di u') (s + off) m ∧ -67108864 ≤ di u' (s + m + off) - di cT (s + m + off) ∧ di u' (s + m + off) - di cT (s + m + off) ≤ 67108864 := by
  obtain ⟨c', u', g1, g2, g3, g4, g5, g6⟩ := wt_loop (off := off) (nT := nT) (nR := nR) (e := s + m - 1) t cR (by omega) hT (by omega) ht m F s 0 cT (by omega) (by omega) h3 (by decide) (by decide)
  unfold mf_Wide_take
  rw [g1, sd_b2_s]
  simp only [nI_add, nI_1, show s + m - 1 + off + 1 = s + m + off by omega, nI_clamp (show s + m + off < 2 ^ 31 by omega), sd_ixI (show s + m + off < nT by omega) (by omega), sd_g_s, sd_let_s]
  have a1 : u' (s + m + off) = cT (s + m + off) := g5 _ (Or.inr (by omega))
  have a2 : (u' (s + m + off) + c'.toInt32).toInt = di cT (s + m + off) + c'.toInt := by
    have : c'.toInt32.toInt = c'.toInt := nb_cut (by omega) (by omega)
    rw [a1]
    unfold di at *
    rw [ni_add] <;> rw [this] <;> omega
  refine ⟨_, rfl, ?_, ?_, ?_, ?_, ?_⟩
  · rw [dr_top, dr_top, show s + off + m = s + m + off by omega, di_upd, if_pos rfl, a2]
    have e1 : dr 65536 (di (upd u' (s + m + off) (u' (s + m + off) + c'.toInt32))) (s + off) m = dr 65536 (di u') (s + off) m :=
      dr_congr _ m _ (fun i p q => by rw [di_upd, if_neg (by omega)])
    rw [e1, Int.add_mul]
    have : (0 : Int64).toInt = 0 := rfl
    rw [this] at g4
    omega
  · intro i p
    have : upd u' (s + m + off) (u' (s + m + off) + c'.toInt32) i = u' i := if_neg (by omega)
    rw [this, g5 i (by omega)]
  · intro i p q
    rw [di_upd, if_neg (by omega)]
    exact g6 i p q
  · rw [di_upd, if_pos rfl, a2]; omega
  · rw [di_upd, if_pos rfl, a2]; omega
