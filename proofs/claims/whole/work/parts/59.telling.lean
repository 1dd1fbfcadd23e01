/-! what the class tells of ENDS -/
def en_b (v : Int) : Prop := -(65536 ^ 67 : Nat) < v ∧ v < (65536 ^ 67 : Nat)
theorem en_Wb : 8 * en_W < 65536 ^ 67 := en_W8
theorem en_lb {T B R : Nat → Int64} {c : Nat} (hS : tm_okS c T B R) : en_b (en_low T B R c) := by
  have h8 := hS.1
  obtain ⟨a, b, d⟩ := en_bd hS.2.1 c (Nat.le_refl _)
  have e1 : c * en_W ≤ 8 * en_W := Nat.mul_le_mul_right _ (by omega)
  have e2 := en_W8
  unfold en_b en_low
  generalize 65536 ^ 67 = y at *
  generalize c * en_W = z at *
  omega
theorem en_hb {T B R : Nat → Int64} {c : Nat} (hS : tm_okS c T B R) : en_b (en_high T B R c) := by
  have h8 := hS.1
  obtain ⟨a, b, d⟩ := en_bd hS.2.1 c (Nat.le_refl _)
  have e1 : c * en_W ≤ 8 * en_W := Nat.mul_le_mul_right _ (by omega)
  have e2 := en_W8
  unfold en_b en_high en_low
  generalize 65536 ^ 67 = y at *
  generalize c * en_W = z at *
  omega
theorem en_sg {f : Nat → Int32} {v : Int} (h : en_is f v) (hb : en_b v) : (di f 67 = 0 ∧ 0 ≤ v ∧ dr 65536 (di f) 0 67 = v) ∨ (di f 67 = -1 ∧ v < 0 ∧ dr 65536 (di f) 0 67 = v + (65536 ^ 67 : Nat)) :=
  en_sgn h (Int.le_of_lt hb.1) hb.2
/-- the point lies before digit 64 -/
def ptN : Nat := 65536 ^ 64
theorem ptN_pos : 0 < ptN := Nat.pow_pos (by decide)
theorem ptN_3 : 65536 ^ 67 = 281474976710656 * ptN := by decide +kernel
theorem pt_pow : (65536 : Int) ^ 64 = (ptN : Int) := (Int.natCast_pow 65536 64).symm
theorem en_cut {f : Nat → Int32} {v : Int} (h : en_is f v) : v / ptN = di f 64 + 65536 * (di f 65 + 65536 * (di f 66 + 65536 * di f 67)) ∧ v % ptN = dr 65536 (di f) 0 64 := by
  have hi : dr_in 65536 (di f) 0 64 := fun i p q => h.1 i p (by omega)
  have l1 := dr_pos 65536 (by decide) 64 0 hi
  have l2 := dr_lt 65536 (by decide) 64 0 hi
  have hv := h.2
  have h4 : dr 65536 (di f) 64 4 = di f 64 + 65536 * (di f 65 + 65536 * (di f 66 + 65536 * di f 67)) := by
    rw [dr_s, dr_s, dr_s, dr_s, dr_0, Int.mul_zero, Int.add_zero]
  rw [show 68 = 64 + 4 from rfl, dr_cat, Nat.zero_add, h4, pt_pow] at hv
  rw [pt_pow] at l2
  have hp : (0 : Int) < ptN := Int.ofNat_lt.mpr ptN_pos
  have e : v = dr 65536 (di f) 0 64 + ptN * (di f 64 + 65536 * (di f 65 + 65536 * (di f 66 + 65536 * di f 67))) := hv.symm
  constructor
  · rw [e, Int.add_mul_ediv_left _ _ (by omega), Int.ediv_eq_zero_of_lt l1 l2, Int.zero_add]
  · rw [e, Int.add_mul_emod_self_left, Int.emod_eq_of_lt l1 l2]
theorem wh_whole {F : Nat} (hF : 18446744073709551616 ≤ F) {f : Nat → Int32} {v : Int} (h : en_is f v) (hb : en_b v) : ∃ x, mf_Wide_whole F 68 f = some x ∧ x.toInt = v / ptN ∧ -281474976710656 ≤ v / ptN ∧ v / ptN < 281474976710656 := by
  obtain ⟨c1, c2⟩ := en_cut h
  have d67 : di f 67 = 0 ∨ di f 67 = -1 := by rcases en_sg h hb with z | z <;> omega
  have d66 := h.1 66 (by omega) (by omega)
  have d65 := h.1 65 (by omega) (by omega)
  have d64 := h.1 64 (by omega) (by omega)
  obtain ⟨G, rfl⟩ : ∃ G, F = G + 4 := ⟨F - 4, by omega⟩
  have step : ∀ (fu k : Nat) (x : Int64), 64 ≤ k → k < 68 → -140737488355328 ≤ x.toInt → x.toInt < 140737488355328 → 0 ≤ di f k → di f k < 65536 → ∃ y, mf_Wide_whole_L9 68 f (fu + 1) x (nI k) = mf_Wide_whole_L9 68 f fu y (dnI k) ∧ y.toInt = x.toInt * 65536 + di f k := by
    intro fu k x h1 h2 h3 h4 h5 h6
    refine ⟨(x <<< ((16 : Int32).toInt64 &&& 63)) + (f k).toInt64, ?_, ?_⟩
    · rw [mf_Wide_whole_L9, show (64 : Int32) = nI 64 from rfl, nI_ifLt (by omega) (by omega), if_neg (by omega), sd_g_t (sd_ixI (by omega) (by omega)), sd_let_s, sd_let_s, nI_clamp (by omega), dnI_d]
    · have e := nb_l16 h3 h4
      rw [nj_add] <;> rw [e, nb_ext] <;> unfold di at * <;> omega
  unfold mf_Wide_whole
  rw [sd_g_t (by decide), sd_let_s, show (67 : Int32).toNatClampNeg = 67 from rfl]
  have e0 : (f 67).toInt64.toInt = di f 67 := nb_ext _
  generalize (f 67).toInt64 = x0 at *
  obtain ⟨y1, a1, a2⟩ := step (G + 3) 66 x0 (by omega) (by omega) (by omega) (by omega) d66.1 d66.2
  obtain ⟨y2, b1, b2⟩ := step (G + 2) 65 y1 (by omega) (by omega) (by omega) (by omega) d65.1 d65.2
  obtain ⟨y3, g1, g2⟩ := step (G + 1) 64 y2 (by omega) (by omega) (by omega) (by omega) d64.1 d64.2
  have a1' : mf_Wide_whole_L9 68 f (G + 4) x0 66 = mf_Wide_whole_L9 68 f (G + 3) y1 (nI 65) := a1
  have b1' : mf_Wide_whole_L9 68 f (G + 3) y1 (nI 65) = mf_Wide_whole_L9 68 f (G + 2) y2 (nI 64) := b1
  have g1' : mf_Wide_whole_L9 68 f (G + 2) y2 (nI 64) = mf_Wide_whole_L9 68 f (G + 1) y3 (nI 63) := g1
  rw [a1', b1', g1', mf_Wide_whole_L9, if_pos (by decide), sd_b1_s]
  exact ⟨y3, rfl, by omega, by omega, by omega⟩
/-- a size -/
theorem ws_size {F : Nat} (hF : 18446744073709551616 ≤ F) {f : Nat → Int32} {v : Int} (h : en_is f v) (hb : en_b v) (u : Nat → Int32) : ∃ u', mf_Wide_size F 68 68 f u = some u' ∧ en_is u' (v.natAbs : Int) := by
  unfold mf_Wide_size
  rw [sd_g_t (by decide), show (67 : Int32).toNatClampNeg = 67 from rfl]
  have z0 : (0 : Int32).toInt = 0 := rfl
  rcases en_sg h hb with ⟨a1, a2, a3⟩ | ⟨a1, a2, a3⟩
  · have n : ¬ f 67 < 0 := fun z => by have := ni_lt.mp z; unfold di at a1; omega
    have cp : ∀ i, i < 68 → va_cpy f u 0 0 68 i = f i := fun i p => by
      unfold va_cpy
      rw [if_pos ⟨by omega, by omega⟩]
      congr 1
      omega
    rw [if_neg n, sd_g_t (by decide), sd_let_s]
    refine ⟨_, rfl, fun i p q => ?_, ?_⟩
    · show 0 ≤ di (va_cpy f u 0 0 68) i ∧ di (va_cpy f u 0 0 68) i < 65536
      unfold di; rw [cp i (by omega)]; exact h.1 i p q
    · show dr 65536 (di (va_cpy f u 0 0 68)) 0 68 = _
      rw [dr_congr 65536 (g := di f) 68 0 (fun i p q => by unfold di; rw [cp i (by omega)]), h.2]
      omega
  · have n : f 67 < 0 := ni_lt.mpr (by unfold di at a1; omega)
    obtain ⟨w, b1, b2⟩ := wf_fill hF (show 68 < 2147483648 by omega) 0 u
    have w0 : ∀ i, i < 68 → di w i = 0 := fun i p => by unfold di; rw [b2 i p]; rfl
    obtain ⟨x, q1, q2, q3, q4, q5, q6⟩ := wt_take (F := F) (off := 0) (nT := 68) (nR := 68) (s := 0) (m := 67) hF 1 w f (by omega) (by omega) (by omega) (by omega) (by decide)
      (fun i p q => by have := h.1 i p (by omega); omega) (by rw [w0 _ (by omega)]; decide)
    have q1' : mf_Wide_take F 68 68 0 0 66 1 w f = some x := q1
    rw [if_pos n, b1, sd_b1_s, q1', sd_b1_s, sd_g_t (by decide), sd_g_t (by decide), sd_g_t (by decide), sd_let_s]
    rw [show 0 + 67 + 0 = 67 from rfl] at q5 q6
    rw [show 0 + 0 = 0 from rfl, show 67 + 1 = 68 from rfl, dr_zero 65536 (f := di w) 68 0 (fun i p q => w0 i (by omega)), a3, show (1 : Int32).toInt = 1 from rfl, dr_top _ _ 67 0] at q2
    rw [w0 67 (by omega)] at q5 q6
    have a67 : (x 67 - f 67).toInt = di x 67 + 1 := by unfold di at *; rw [ni_sub] <;> omega
    refine ⟨_, rfl, fun i p q => ?_, ?_⟩
    · rw [di_upd, if_neg (by omega)]; exact q4 i p q
    · rw [dr_top _ _ 67 0, di_upd, if_pos rfl, a67, dr_congr 65536 (g := di x) 67 0 (fun i p q => by rw [di_upd, if_neg (by omega)])]
      rw [Nat.zero_add] at q2
      have ep : (65536 : Int) ^ 67 = ((65536 ^ 67 : Nat) : Int) := (Int.natCast_pow 65536 67).symm
      rw [Int.add_mul, Int.one_mul]
      rw [ep] at q2 ⊢
      generalize 65536 ^ 67 = M at *
      generalize di x 67 * (M : Int) = y at *
      omega
/-- isBelow -/
theorem wi_loop (f g : Nat → Int32) : ∀ (m fu : Nat), m ≤ 68 → m < fu → (mf_Wide_isBelow_L3 68 68 f g fu (dnI m) = some (1, dnI 0) ∧ ∀ i, i < m → f i = g i) ∨ (∃ j, j < m ∧ mf_Wide_isBelow_L3 68 68 f g fu (dnI m) = some (0, nI j) ∧ f j ≠ g j ∧ ∀ i, j < i → i < m → f i = g i) := by
  intro m
  induction m with
  | zero =>
    intro fu h1 h2
    obtain ⟨fu, rfl⟩ : ∃ g, fu = g + 1 := ⟨fu - 1, by omega⟩
    rw [mf_Wide_isBelow_L3, if_pos dnI_n0]
    exact Or.inl ⟨rfl, fun i _ => by omega⟩
  | succ m ih =>
    intro fu h1 h2
    obtain ⟨fu, rfl⟩ : ∃ g, fu = g + 1 := ⟨fu - 1, by omega⟩
    rw [mf_Wide_isBelow_L3, dnI_s, if_neg (dnI_np (by omega)), sd_g_t (sd_ixI (by omega) (by omega)), sd_g_t (sd_ixI (by omega) (by omega)), nI_clamp (by omega), sd_let_s, dnI_d]
    by_cases h : f m = g m
    · rw [if_pos h]
      rcases ih fu (by omega) (by omega) with ⟨a1, a2⟩ | ⟨j, a1, a2, a3, a4⟩
      · left
        refine ⟨a1, fun i p => ?_⟩
        rcases Nat.lt_or_ge i m with z | z
        · exact a2 i z
        · rw [show i = m by omega]; exact h
      · right
        refine ⟨j, by omega, a2, a3, fun i p q => ?_⟩
        rcases Nat.lt_or_ge i m with z | z
        · exact a4 i p z
        · rw [show i = m by omega]; exact h
    · rw [if_neg h]
      exact Or.inr ⟨m, by omega, rfl, h, fun i _ _ => by omega⟩
theorem wi_below {F : Nat} (hF : 18446744073709551616 ≤ F) {f g : Nat → Int32} {v w : Int} (hf : en_is f v) (hg : en_is g w) : mf_Wide_isBelow F 68 68 f g = some (if v < w then 1 else 0) := by
  unfold mf_Wide_isBelow
  rcases wi_loop f g 68 F (by omega) (by omega) with ⟨a1, a2⟩ | ⟨j, a1, a2, a3, a4⟩
  · have a1' : mf_Wide_isBelow_L3 68 68 f g F 67 = some (1, dnI 0) := a1
    have e : v = w := by
      rw [← hf.2, ← hg.2]
      exact dr_congr _ _ _ (fun i p q => by unfold di; rw [a2 i (by omega)])
    rw [a1', sd_b2_s, if_neg (by decide), if_neg (by omega)]
  · have a2' : mf_Wide_isBelow_L3 68 68 f g F 67 = some (0, nI j) := a2
    rw [a2', sd_b2_s, if_pos rfl, sd_g_t (sd_ixI (by omega) (by omega)), sd_g_t (sd_ixI (by omega) (by omega)), nI_clamp (by omega)]
    have cut : ∀ (x y : Nat → Int32), (∀ i, j < i → i < 68 → x i = y i) → dr 65536 (di x) (j + 1) (67 - j) = dr 65536 (di y) (j + 1) (67 - j) := fun x y hxy => dr_congr _ _ _ (fun i p q => by unfold di; rw [hxy i (by omega) (by omega)])
    have e1 := hf.2
    have e2 := hg.2
    rw [show 68 = (j + 1) + (67 - j) by omega, dr_cat, Nat.zero_add] at e1 e2
    rw [cut f g a4] at e1
    have hlt : ∀ (x y : Nat → Int32), dr_in 65536 (di x) 0 67 → dr_in 65536 (di y) 0 67 → di x j < di y j → dr 65536 (di x) 0 (j + 1) < dr 65536 (di y) 0 (j + 1) := fun x y hx hy hxy =>
      dr_cmp 65536 (by decide) 0 j (fun i p q => hx i p (by omega)) (fun i p q => hy i p (by omega)) 0 (by rw [Nat.zero_add]; exact hxy)
    have ne : ¬ di f j = di g j := fun z => a3 (ni_eq.mpr z)
    by_cases q : g j ≤ f j
    · have q' : di g j ≤ di f j := ni_le.mp q
      have := hlt g f hg.1 hf.1 (by omega)
      rw [if_pos q, sd_b1_s, if_neg (by omega)]; rfl
    · have q' : ¬ di g j ≤ di f j := fun z => q (ni_le.mpr z)
      have := hlt f g hf.1 hg.1 (by omega)
      rw [if_neg q, sd_b1_s, if_pos (by omega)]; rfl
def ordI (hx ly hy lx : Int) : Int32 := if hx < ly then -1 else if hy < lx then 1 else -4
theorem wr_order {F : Nat} (hF : 18446744073709551616 ≤ F) (k n k' n' : Int32) {xL xH yL yH : Nat → Int32} {lx hx ly hy : Int} (a : en_is xL lx) (b : en_is xH hx) (c : en_is yL ly) (d : en_is yH hy) : mf_Teller_order F k n xL xH k' n' yL yH = some (ordI hx ly hy lx) := by
  unfold mf_Teller_order ordI
  rw [wi_below hF b c, sd_b1_s]
  by_cases h1 : hx < ly
  · rw [if_pos h1, if_pos h1, if_neg (by decide)]
  · rw [if_neg h1, if_neg h1, if_pos rfl, wi_below hF d a, sd_b1_s]
    by_cases h2 : hy < lx
    · rw [if_pos h2, if_pos h2, if_neg (by decide), sd_b1_s]
    · rw [if_neg h2, if_neg h2, if_pos rfl, sd_b1_s]
/-- the reference's isBelow -/
theorem sgnI_eq (v w : Int) : sgnI v = sgnI w ↔ ((v < 0 ∧ w < 0) ∨ (v = 0 ∧ w = 0) ∨ (0 < v ∧ 0 < w)) := by
  unfold sgnI
  by_cases a : v = 0
  · rw [if_pos a]
    by_cases b : w = 0
    · rw [if_pos b]; exact ⟨fun _ => by omega, fun _ => rfl⟩
    · rw [if_neg b]
      by_cases c : 0 ≤ w
      · rw [if_pos c]; exact ⟨fun z => absurd z (by decide), fun z => by omega⟩
      · rw [if_neg c]; exact ⟨fun z => absurd z (by decide), fun z => by omega⟩
  · rw [if_neg a]
    by_cases a2 : 0 ≤ v
    · rw [if_pos a2]
      by_cases b : w = 0
      · rw [if_pos b]; exact ⟨fun z => absurd z (by decide), fun z => by omega⟩
      · rw [if_neg b]
        by_cases c : 0 ≤ w
        · rw [if_pos c]; exact ⟨fun _ => by omega, fun _ => rfl⟩
        · rw [if_neg c]; exact ⟨fun z => absurd z (by decide), fun z => by omega⟩
    · rw [if_neg a2]
      by_cases b : w = 0
      · rw [if_pos b]; exact ⟨fun z => absurd z (by decide), fun z => by omega⟩
      · rw [if_neg b]
        by_cases c : 0 ≤ w
        · rw [if_pos c]; exact ⟨fun z => absurd z (by decide), fun z => by omega⟩
        · rw [if_neg c]; exact ⟨fun _ => by omega, fun _ => rfl⟩
theorem sgnI_t (v : Int) : (sgnI v).toInt = if v = 0 then 0 else if 0 ≤ v then 1 else -1 := by
  unfold sgnI
  by_cases a : v = 0
  · rw [if_pos a, if_pos a]; rfl
  · rw [if_neg a, if_neg a]
    by_cases a2 : 0 ≤ v
    · rw [if_pos a2, if_pos a2]; rfl
    · rw [if_neg a2, if_neg a2]; rfl
theorem cmpI_t (v w : Nat) : (cmpI v w).toInt = if v = w then 0 else if w ≤ v then 1 else -1 := by
  unfold cmpI
  by_cases a : v = w
  · rw [if_pos a, if_pos a]; rfl
  · rw [if_neg a, if_neg a]
    by_cases a2 : w ≤ v
    · rw [if_pos a2, if_pos a2]; rfl
    · rw [if_neg a2, if_neg a2]; rfl
theorem ifLe_t {a b : Int32} {p : Prop} [Decidable p] {α : Type} {x y : α} (h : a.toInt ≤ b.toInt ↔ p) : (if a ≤ b then x else y) = if p then x else y := by
  by_cases q : p
  · rw [if_pos (ni_le.mpr (h.mpr q)), if_pos q]
  · rw [if_neg (fun z => q (h.mp (ni_le.mp z))), if_neg q]
theorem rI_below {F : Nat} (hF : 18446744073709551616 ≤ F) {s s' : Int32} {f g : Nat → Int64} {v w : Int} (hf : re_is s f v) (hg : re_is s' g w) : mf_Model_isBelow F s s' f g = some (if v < w then 1 else 0) := by
  obtain ⟨rfl, hf⟩ := hf
  obtain ⟨rfl, hg⟩ := hg
  unfold mf_Model_isBelow
  have z0 : (0 : Int32).toInt = 0 := rfl
  by_cases h : sgnI v = sgnI w
  · rw [if_pos h, sgnI_ge, rp_compare hF hf hg, sd_b1_s, sd_b1_s]
    have h' := (sgnI_eq v w).mp h
    have t := cmpI_t v.natAbs w.natAbs
    by_cases c : 0 ≤ v
    · rw [if_pos c, ifLe_t (p := ¬ v < w) (by rw [z0, t]; by_cases x : v.natAbs = w.natAbs <;> simp only [x, if_true, if_false] <;> (try by_cases y : w.natAbs ≤ v.natAbs <;> simp only [y, if_true, if_false]) <;> omega)]
      by_cases q : v < w
      · rw [if_neg (by omega), sd_b1_s, if_pos q]; rfl
      · rw [if_pos q, sd_b1_s, if_neg q]; rfl
    · rw [if_neg c, ifLe_t (p := ¬ v < w) (by rw [z0, t]; by_cases x : v.natAbs = w.natAbs <;> simp only [x, if_true, if_false] <;> (try by_cases y : w.natAbs ≤ v.natAbs <;> simp only [y, if_true, if_false]) <;> omega)]
      by_cases q : v < w
      · rw [if_neg (by omega), sd_b1_s, if_pos q]; rfl
      · rw [if_pos q, sd_b1_s, if_neg q]; rfl
  · rw [if_neg h, ifLe_t (p := ¬ v < w) (by
      have h' : ¬ _ := fun z => h ((sgnI_eq v w).mpr z)
      rw [sgnI_t, sgnI_t]
      by_cases a : v = 0 <;> by_cases b : w = 0 <;> by_cases a2 : 0 ≤ v <;> by_cases b2 : 0 ≤ w <;> simp only [a, b, a2, b2, if_true, if_false] <;> omega)]
    by_cases q : v < w
    · rw [if_neg (by omega), sd_b1_s, if_pos q]; rfl
    · rw [if_pos q, sd_b1_s, if_neg q]; rfl
