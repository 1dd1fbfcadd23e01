/-! the ENDS of a number, and how the class finds them -/
theorem is_w_ex {n d r : Nat} (hn : n ≤ 1000000000) (hn0 : 0 < n) (hd : d ≤ 1000000000) (hd0 : 0 < d) (hr : r ≤ 1000000000) (hr0 : 0 < r) : ∃ w, is_w n d r w := by
  obtain ⟨_, _, _, _, _, w, _, _, _, h⟩ := fs_size (F := 18446744073709551616) (Nat.le_refl _) hn hn0 hd hd0 hr hr0 0 0 (fun _ => 0) (fun _ => 0) (fun _ => 0)
  exact ⟨w, h⟩
noncomputable def wf (n d r : Nat) : Nat := Classical.epsilon (is_w n d r)
theorem wf_is {n d r w : Nat} (h : is_w n d r w) : wf n d r = w := is_w_one (Classical.epsilon_spec ⟨w, h⟩) h
def en_W : Nat := 32000000000000 * 65536 ^ 64
theorem en_W8 : 8 * en_W < 65536 ^ 67 := by decide +kernel
theorem en_Wsq : 1000000000 * 1000000000 * 1000000000 * 65536 ^ 128 < (en_W - 1) * (en_W - 1) := by decide +kernel
theorem wf_lt {n d r : Nat} (hn : n ≤ 1000000000) (hn0 : 0 < n) (hd : d ≤ 1000000000) (hd0 : 0 < d) (hr : r ≤ 1000000000) (hr0 : 0 < r) : is_w n d r (wf n d r) ∧ wf n d r + 1 < en_W := by
  obtain ⟨w, h⟩ := is_w_ex hn hn0 hd hd0 hr hr0
  rw [wf_is h]
  refine ⟨h, ?_⟩
  obtain ⟨s, s1, s2, s3⟩ := h
  have a1 : n * n * r ≤ 1000000000 * 1000000000 * 1000000000 := Nat.mul_le_mul (Nat.mul_le_mul hn hn) hr
  have a2 : n * n * r * 65536 ^ 128 ≤ 1000000000 * 1000000000 * 1000000000 * 65536 ^ 128 := Nat.mul_le_mul_right _ a1
  have a3 : s < en_W - 1 := bd_sq (Nat.lt_of_le_of_lt (Nat.le_trans s1 a2) en_Wsq)
  have a4 : s / d ≤ s := Nat.div_le_self _ _
  omega
/-- a term's w -/
noncomputable def tw (T B R : Nat → Int64) (k : Nat) : Nat := wf (T k).toInt.natAbs (B k).toInt.toNat (R k).toInt.toNat
noncomputable def en_v (T B R : Nat → Int64) : Nat → Int
  | 0 => 0
  | c + 1 => if (T c).toInt < 0 then en_v T B R c - tw T B R c else en_v T B R c + tw T B R c
def en_g (T : Nat → Int64) : Nat → Nat
  | 0 => 0
  | c + 1 => if (T c).toInt < 0 then en_g T c + 1 else en_g T c
noncomputable def en_low (T B R : Nat → Int64) (c : Nat) : Int := en_v T B R c - en_g T c
noncomputable def en_high (T B R : Nat → Int64) (c : Nat) : Int := en_low T B R c + c
theorem tw_ok {T B R : Nat → Int64} {k : Nat} (h : tm_okT (T k) (B k) (R k)) : is_w (T k).toInt.natAbs (B k).toInt.toNat (R k).toInt.toNat (tw T B R k) ∧ tw T B R k + 1 < en_W := by
  obtain ⟨⟨p1, p2, p3⟩, p4, p5, p6, p7⟩ := h
  exact wf_lt p1 (by omega) (by omega) (by omega) (by omega) (by omega)
theorem en_bd {T B R : Nat → Int64} {c : Nat} (hS : ∀ k, k < c → tm_okT (T k) (B k) (R k)) : ∀ k, k ≤ c → -((k * en_W : Nat) : Int) ≤ en_v T B R k - en_g T k ∧ en_v T B R k - en_g T k + k ≤ ((k * en_W : Nat) : Int) ∧ en_g T k ≤ k := by
  intro k
  induction k with
  | zero => intro _; simp [en_v, en_g]
  | succ k ih =>
    intro h
    have q := ih (by omega)
    have t := (tw_ok (hS k (by omega))).2
    rw [en_v, en_g, Nat.succ_mul]
    by_cases z : (T k).toInt < 0
    · rw [if_pos z, if_pos z]; omega
    · rw [if_neg z, if_neg z]; omega
theorem en_bds {T B R : Nat → Int64} {c : Nat} (hS : tm_okS c T B R) (k : Nat) (hk : k ≤ c) : -(65536 ^ 67 : Nat) ≤ en_v T B R k - en_g T k ∧ en_v T B R k - en_g T k + k < (65536 ^ 67 : Nat) ∧ en_g T k ≤ k := by
  obtain ⟨a, b, d⟩ := en_bd hS.2.1 k hk
  have h8 := hS.1
  have e1 : k * en_W ≤ 8 * en_W := Nat.mul_le_mul_right _ (by omega)
  have e2 := en_W8
  generalize 65536 ^ 67 = y at *
  generalize k * en_W = z at *
  omega
/-- a row that is an END -/
def en_is (f : Nat → Int32) (v : Int) : Prop := dr_in 65536 (di f) 0 67 ∧ dr 65536 (di f) 0 68 = v
theorem en_sgn {f : Nat → Int32} {v : Int} (h : en_is f v) (h1 : -(65536 ^ 67 : Nat) ≤ v) (h2 : v < (65536 ^ 67 : Nat)) : (di f 67 = 0 ∧ 0 ≤ v ∧ dr 65536 (di f) 0 67 = v) ∨ (di f 67 = -1 ∧ v < 0 ∧ dr 65536 (di f) 0 67 = v + (65536 ^ 67 : Nat)) := by
  obtain ⟨a, b⟩ := h
  have l1 := dr_pos 65536 (by decide) 67 0 a
  have l2 := dr_lt 65536 (by decide) 67 0 a
  have ep : (65536 : Int) ^ 67 = ((65536 ^ 67 : Nat) : Int) := (Int.natCast_pow 65536 67).symm
  rw [dr_top _ _ 67 0, Nat.zero_add] at b
  rw [ep] at l2 b
  have hM : 0 < 65536 ^ 67 := Nat.pow_pos (by decide)
  generalize 65536 ^ 67 = M at *
  generalize dr 65536 (di f) 0 67 = lo at *
  rcases Int.lt_or_le (di f 67) (-1) with z | z
  · exfalso
    have : di f 67 * (M : Int) ≤ -2 * (M : Int) := Int.mul_le_mul_of_nonneg_right (by omega) (by omega)
    omega
  · rcases Int.lt_or_le 0 (di f 67) with y | y
    · exfalso
      have : 1 * (M : Int) ≤ di f 67 * (M : Int) := Int.mul_le_mul_of_nonneg_right (by omega) (by omega)
      omega
    · rcases (show di f 67 = 0 ∨ di f 67 = -1 by omega) with x | x
      · left; rw [x] at b; refine ⟨x, ?_, ?_⟩ <;> omega
      · right; rw [x] at b; refine ⟨x, ?_, ?_⟩ <;> omega
theorem nj_abs {x : Int64} (h : x.toInt.natAbs ≤ 1000000000) : (if 0 < x then x else -x) = lN x.toInt.natAbs := by
  have z0 : (0 : Int64).toInt = 0 := rfl
  apply nb_lN
  by_cases q : 0 < x
  · rw [if_pos q]
    have := nj_lt.mp q
    omega
  · rw [if_neg q, nj_neg (by omega)]
    have : ¬ (0 : Int64).toInt < x.toInt := fun z => q (nj_lt.mpr z)
    omega
theorem nj_nat {x : Int64} (h : 0 ≤ x.toInt) : x = lN x.toInt.toNat := nb_lN (by omega)
theorem fi_loop {F c : Nat} (hF : 18446744073709551616 ≤ F) {T B R : Nat → Int64} (hS : tm_okS c T B R) (xk : Int32) : ∀ (m fu k : Nat) (e1 e2 : Int64) (u v s l : Nat → Int32), k + m = c → m < fu → en_is l (en_v T B R k) →
    ∃ e1' e2' u' v' s' l', mf_EndsFinder_find_L20 F xk (nI c) T B R fu (nI (en_g T k)) (nI k) e1 e2 u v s l = some (nI (en_g T c), e1', e2', u', v', s', l') ∧ en_is l' (en_v T B R c) := by
  intro m
  have h8 := hS.1
  induction m with
  | zero =>
    intro fu k e1 e2 u v s l h1 h2 h3
    obtain ⟨fu, rfl⟩ : ∃ g, fu = g + 1 := ⟨fu - 1, by omega⟩
    obtain rfl : k = c := by omega
    rw [mf_EndsFinder_find_L20]
    unfold mf_Sum_count
    rw [sd_b1_s, nI_ifLe (by omega) (by omega), if_pos (Nat.le_refl _)]
    exact ⟨e1, e2, u, v, s, l, rfl, h3⟩
  | succ m ih =>
    intro fu k e1 e2 u v s l h1 h2 h3
    obtain ⟨fu, rfl⟩ : ∃ g, fu = g + 1 := ⟨fu - 1, by omega⟩
    have ok := hS.2.1 k (by omega)
    obtain ⟨⟨p1, p2, p3⟩, p4, p5, p6, p7⟩ := ok
    have b0 := en_bds hS k (by omega)
    have b1 := en_bds hS (k + 1) (by omega)
    obtain ⟨f1, f2, u', v', s', w, g1, g2, g3, g4⟩ := fs_size hF (n := (T k).toInt.natAbs) (d := (B k).toInt.toNat) (r := (R k).toInt.toNat) p1 (by omega) (by omega) (by omega) (by omega) (by omega) e1 e2 u v s
    obtain ⟨t1, t2⟩ := tw_ok (T := T) (B := B) (R := R) (k := k) ⟨⟨p1, p2, p3⟩, p4, p5, p6, p7⟩
    have ew : w = tw T B R k := is_w_one g4 t1
    subst ew
    have c1 := en_sgn (f := s') (v := (tw T B R k : Int)) ⟨fun i p q => g2 i p (by omega), g3⟩ (by have := Nat.zero_le (65536 ^ 67); omega) (by
      have e2 := en_W8
      generalize 65536 ^ 67 = y at *
      omega)
    have c2 : dr 65536 (di s') 0 67 = (tw T B R k : Int) := by
      rcases c1 with z | z
      · exact z.2.2
      · omega
    have c3 := en_sgn h3 (by omega) (by omega)
    rw [mf_EndsFinder_find_L20]
    unfold mf_Sum_count
    rw [sd_b1_s, nI_ifLe (by omega) (by omega), if_neg (by omega)]
    simp only [sd_ixI (show k < 8 by omega) (show k < 2147483648 by omega), sd_g_s, nI_clamp (show k < 2 ^ 31 by omega), nj_abs p1]
    rw [nj_nat (x := B k) (by omega), nj_nat (x := R k) (by omega), g1, sd_b5_s]
    have z0 : (0 : Int64).toInt = 0 := rfl
    have tk : ∀ t : Int32, (t = 1 ∨ t = -1) → ∃ l2, mf_Wide_take F 68 68 0 0 66 t l s' = some l2 ∧ en_is l2 (en_v T B R k - t.toInt * tw T B R k) := by
      intro t ht
      obtain ⟨l2, q1, q2, q3, q4, q5, q6⟩ := wt_take (F := F) (off := 0) (nT := 68) (nR := 68) (s := 0) (m := 67) hF t l s' (by omega) (by omega) (by omega) (by omega) (by rcases ht with z | z <;> subst z <;> decide)
        (fun i p q => by have := g2 i p (by omega); omega) (by rcases c3 with z | z <;> (rw [show 0 + 67 + 0 = 67 from rfl, z.1]; decide))
      refine ⟨l2, q1, fun i p q => q4 i p q, ?_⟩
      rw [← c2, ← h3.2]
      exact q2
    have hend : ∀ (g' : Nat) (l2 : Nat → Int32), g' = en_g T (k + 1) → en_is l2 (en_v T B R (k + 1)) → ∃ e1' e2' u2 v2 s2 l3, mf_EndsFinder_find_L20 F xk (nI c) T B R fu (nI g') (nI (k + 1)) f1 f2 u' v' s' l2 = some (nI (en_g T c), e1', e2', u2, v2, s2, l3) ∧ en_is l3 (en_v T B R c) := by
      intro g' l2 hg hl
      subst hg
      exact ih fu (k + 1) f1 f2 u' v' s' l2 (by omega) (by omega) hl
    by_cases hneg : (T k).toInt < 0
    · have n0 : ¬ (0 : Int64) ≤ T k := fun z => by have := nj_le.mp z; omega
      obtain ⟨l2, q1, q2⟩ := tk 1 (Or.inl rfl)
      rw [if_neg n0, sd_b1_s, if_neg (by decide), sd_b1_s, q1, sd_b1_s, if_neg (by decide), sd_b1_s, sd_let_s, sd_let_s, nI_1, nI_1]
      exact hend (en_g T k + 1) l2 (by rw [en_g, if_pos hneg]) (by
        rw [en_v, if_pos hneg]
        rw [show (1 : Int32).toInt = 1 from rfl, Int.one_mul] at q2
        exact q2)
    · have n0 : (0 : Int64) ≤ T k := nj_le.mpr (by omega)
      obtain ⟨l2, q1, q2⟩ := tk (-1) (Or.inr rfl)
      rw [if_pos n0, sd_b1_s, if_pos rfl, sd_b1_s, q1, sd_b1_s, if_pos rfl, sd_b1_s, sd_let_s, sd_let_s, nI_1, show nI (en_g T k) + 0 = nI (en_g T k) from nI_add _ 0]
      exact hend (en_g T k) l2 (by rw [en_g, if_neg hneg]) (by
        rw [en_v, if_neg hneg]
        rw [show (-1 : Int32).toInt = -1 from rfl] at q2
        rw [show en_v T B R k + (tw T B R k : Int) = en_v T B R k - -1 * (tw T B R k : Int) by omega]
        exact q2)
/-- what find leaves: the ENDS, known -/
theorem fi_find {F c : Nat} (hF : 18446744073709551616 ≤ F) {T B R : Nat → Int64} (hS : tm_okS c T B R) (e1 e2 : Int64) (u v s L H : Nat → Int32) :
    ∃ e1' e2' u' v' s' L' H', mf_EndsFinder_find F e1 e2 u v s 0 (nI c) T B R L H = some (e1', e2', u', v', s', 1, L', H') ∧ en_is L' (en_low T B R c) ∧ en_is H' (en_high T B R c) := by
  have h8 := hS.1
  obtain ⟨l0, a1, a2⟩ := wf_fill hF (show 68 < 2147483648 by omega) 0 L
  have i0 : en_is l0 (en_v T B R 0) := ⟨fun i p q => by unfold di; rw [a2 i (by omega)]; decide, dr_zero _ _ _ (fun i p q => by unfold di; rw [a2 i (by omega)]; rfl)⟩
  obtain ⟨f1, f2, u', v', s', l', g1, g2⟩ := fi_loop hF hS 0 c F 0 e1 e2 u v s l0 (by omega) (by omega) i0
  have b := en_bds hS c (Nat.le_refl _)
  have c3 := en_sgn g2 (by omega) (by omega)
  have gneg : (-nI (en_g T c)).toInt = -(en_g T c : Int) := by
    rw [Int32.toInt_neg, nI_toInt (by omega), ni_bm (by omega) (by omega)]
  have d0 : -1 ≤ di l' 67 ∧ di l' 67 ≤ 0 := by rcases c3 with z | z <;> omega
  obtain ⟨L', k1, k2, k3, k4, k5⟩ := wa_addSmall (F := F) hF (-nI (en_g T c)) l' g2.1 (by omega) (by omega) (by omega) (by omega)
  have iL : en_is L' (en_low T B R c) := ⟨k3, by rw [k2, g2.2, gneg]; unfold en_low; omega⟩
  have cp : ∀ i, i < 68 → va_cpy L' H 0 0 68 i = L' i := fun i p => by
    unfold va_cpy
    rw [if_pos ⟨by omega, by omega⟩]
    congr 1
    omega
  have cd : dr 65536 (di (va_cpy L' H 0 0 68)) 0 68 = dr 65536 (di L') 0 68 := dr_congr _ _ _ (fun i p q => by unfold di; rw [cp i (by omega)])
  obtain ⟨H', m1, m2, m3, m4, m5⟩ := wa_addSmall (F := F) hF (nI c) (va_cpy L' H 0 0 68) (fun i p q => by unfold di; rw [cp i (by omega)]; exact k3 i p q) (by rw [nI_toInt (by omega)]; omega) (by rw [nI_toInt (by omega)]; omega)
    (by unfold di at *; rw [cp 67 (by omega)]; omega) (by unfold di at *; rw [cp 67 (by omega)]; omega)
  have iH : en_is H' (en_high T B R c) := ⟨m3, by rw [m2, cd, iL.2, nI_toInt (by omega)]; rfl⟩
  have g1' : mf_EndsFinder_find_L20 F 0 (nI c) T B R F 0 0 e1 e2 u v s l0 = some (nI (en_g T c), f1, f2, u', v', s', l') := g1
  refine ⟨f1, f2, u', v', s', L', H', ?_, iL, iH⟩
  unfold mf_EndsFinder_find mf_Sum_count
  rw [if_pos rfl, a1, sd_b1_s, g1']
  show sd_b1 (mf_Wide_addSmall F 68 (-nI (en_g T c)) l') _ = _
  rw [k1, sd_b1_s, sd_g_t (by decide), sd_let_s, sd_b1_s]
  show sd_b1 (mf_Wide_addSmall F 68 (nI c) (va_cpy L' H 0 0 68)) _ = _
  rw [m1, sd_b1_s]
