/-! load -/
/-- a quotient below 0 by one below 0 -/
theorem ld_q {v x : Int64} {m g : Nat} (hv : v.toInt = -(m : Int)) (hx : x.toInt = -(g : Int)) (hg : 1 ≤ g) : ((v / x).toInt < 0 ∨ 1000000000 < (v / x).toInt ↔ 1000000000 < m / g) ∧ (m / g ≤ 1000000000 → (v / x).toInt = (m / g : Nat)) := by
  have hb := nj_bd v
  by_cases ov : v.toInt = -9223372036854775808 ∧ x.toInt = -1
  · have e1 : v = -9223372036854775808 := nj_eq.mpr ov.1
    have e2 : x = -1 := nj_eq.mpr ov.2
    have hm : m = 9223372036854775808 := by omega
    have hg1 : g = 1 := by omega
    have e3 : (v / x).toInt = -9223372036854775808 := by rw [e1, e2]; rfl
    rw [hm, hg1, e3]
    constructor <;> omega
  · have e : (v / x).toInt = (m / g : Nat) := by
      rw [nj_div ov, hv, hx, Int.neg_tdiv_neg]; exact (Int.ofNat_tdiv m g).symm
    rw [e]
    generalize m / g = z
    constructor
    · omega
    · intro _; rfl
theorem ld_loop : ∀ (fu : Nat) (x y : Int64), x.toInt ≤ 0 → y.toInt ≤ 0 → y.toInt.natAbs < fu → ∃ v, mf_Model_load_L58 fu x y = some v ∧ v.toInt = -(Nat.gcd x.toInt.natAbs y.toInt.natAbs : Int) := by
  intro fu
  induction fu with
  | zero => intro x y _ _ h; exact absurd h (by omega)
  | succ fu ih =>
    intro x y hx hy h
    rw [mf_Model_load_L58]
    by_cases y0 : y = 0
    · rw [if_pos y0]
      refine ⟨x, rfl, ?_⟩
      rw [y0]
      show _ = -(Nat.gcd x.toInt.natAbs 0 : Int)
      rw [Nat.gcd_zero_right]; omega
    · have yn : y.toInt ≠ 0 := fun q => y0 (nj_eq.mpr q)
      rw [if_neg y0, sd_g_t (sd_zJt yn), sd_let_s]
      have r1n : (x - x / y * y).toInt.natAbs = x.toInt.natAbs % y.toInt.natAbs := by rw [nj_rem x y, Int.natAbs_tmod]
      have r1s : (x - x / y * y).toInt ≤ 0 := by
        rw [nj_rem]
        have := Int.tmod_nonneg y.toInt (a := -x.toInt) (by omega)
        rw [Int.neg_tmod] at this
        omega
      generalize x - x / y * y = z at r1n r1s
      obtain ⟨v, e, hv⟩ := ih y z hy r1s (by rw [r1n]; have := Nat.mod_lt x.toInt.natAbs (y := y.toInt.natAbs) (by omega); omega)
      refine ⟨v, e, ?_⟩
      rw [hv, r1n, Nat.gcd_comm y.toInt.natAbs, ← Nat.gcd_rec, Nat.gcd_comm]
/-- what load makes of n over d: top, bottom -/
def ld_g (n d : Int64) : Nat := Nat.gcd n.toInt.natAbs d.toInt.natAbs
def ld_top (n d : Int64) : Int64 := jI ((if (n.toInt < 0 ↔ d.toInt < 0) then 1 else -1) * ((n.toInt.natAbs / ld_g n d : Nat) : Int))
def ld_bot (n d : Int64) : Int64 := jI ((d.toInt.natAbs / ld_g n d : Nat) : Int)
def ld_full (n d : Int64) : Prop := 1000000000 < n.toInt.natAbs / ld_g n d ∨ 1000000000 < d.toInt.natAbs / ld_g n d
theorem ld_ok {n d : Int64} (hn : n.toInt ≠ 0) (hd : d.toInt ≠ 0) (hf : ¬ ld_full n d) : tm_okT (ld_top n d) (ld_bot n d) 1 := by
  unfold ld_full at hf
  have g0 : 0 < ld_g n d := Nat.gcd_pos_of_pos_left _ (by omega)
  have l1 : 1 ≤ n.toInt.natAbs / ld_g n d := (Nat.one_le_div_iff g0).mpr (Nat.gcd_le_left _ (by omega))
  have l2 : 1 ≤ d.toInt.natAbs / ld_g n d := (Nat.one_le_div_iff g0).mpr (Nat.gcd_le_right _ (by omega))
  have c : Nat.Coprime (n.toInt.natAbs / ld_g n d) (d.toInt.natAbs / ld_g n d) := Nat.coprime_div_gcd_div_gcd g0
  have e2 : (ld_bot n d).toInt = (d.toInt.natAbs / ld_g n d : Nat) := jI_t (by omega) (by omega)
  have e1 : (ld_top n d).toInt = (if (n.toInt < 0 ↔ d.toInt < 0) then 1 else -1) * ((n.toInt.natAbs / ld_g n d : Nat) : Int) := by
    unfold ld_top
    split <;> exact jI_t (by omega) (by omega)
  have a1 : (ld_top n d).toInt.natAbs = n.toInt.natAbs / ld_g n d := by
    rw [e1]; split <;> omega
  have a2 : (ld_bot n d).toInt.natAbs = d.toInt.natAbs / ld_g n d := by omega
  exact ⟨⟨by omega, by omega, by omega⟩, by omega, by rw [a1, a2]; exact c, by decide, by decide⟩
theorem dk_load {F : Nat} (hF : 18446744073709551616 ≤ F) {K : Nat} (hK : K < 8) (n d : Int64) (hd : d.toInt ≠ 0) (cRg : Nat → Option Nat) (xk xn : Int32) (xT xB xR : Nat → Int64) :
    (ld_full n d → mf_Desk_load F (nI K) n d cRg xk xn xT xB xR = some (-3, xk, xn, xT, xB, xR)) ∧
    (¬ ld_full n d → n.toInt = 0 → mf_Desk_load F (nI K) n d cRg xk xn xT xB xR = some (0, 0, 0, xT, xB, xR)) ∧
    (¬ ld_full n d → n.toInt ≠ 0 → mf_Desk_load F (nI K) n d cRg xk xn xT xB xR = some (0, 0, 1, vp_updL xT 0 (ld_top n d), vp_updL xB 0 (ld_bot n d), vp_updL xR 0 1)) := by
  have dz : ¬ d = (0 : Int64) := fun z => hd (by rw [z]; rfl)
  have z1 : ¬ (1 : Int32) = 0 := by decide
  have g0 : 0 < ld_g n d := Nat.gcd_pos_of_pos_right _ (by omega)
  have hnb := nj_bd n
  have hdb := nj_bd d
  have gl : ld_g n d ≤ d.toInt.natAbs := Nat.gcd_le_right _ (by omega)
  obtain ⟨v, ev, hv⟩ := mf_commonDivisor (show 200 ≤ F by omega) n d
  have hx6 : (-v).toInt = -(ld_g n d : Int) := by
    have hv' : v.toInt = (if ld_g n d = 0 then 1 else if ld_g n d = 9223372036854775808 then -9223372036854775808 else (ld_g n d : Int)) := hv
    rw [if_neg (by omega)] at hv'
    by_cases q : ld_g n d = 9223372036854775808
    · rw [if_pos q] at hv'
      have : v = -9223372036854775808 := nj_eq.mpr hv'
      rw [this, q]; rfl
    · rw [if_neg q] at hv'
      rw [nj_neg (by omega), hv']
  obtain ⟨w, ew, hw⟩ := mf_belowZero F n
  obtain ⟨u, eu, hu⟩ := mf_belowZero F d
  have hz := sd_zJt (show (-v).toInt ≠ 0 by omega)
  obtain ⟨a1, a2⟩ := ld_q hw hx6 g0
  obtain ⟨b1, b2⟩ := ld_q hu hx6 g0
  unfold mf_Desk_load
  simp only [(rg_in F hK).1, sd_b1_s, if_neg z1, if_neg dz, ev, sd_let_s, ew, hz, sd_g_s, eu, mf_tooGreat, sd_ixI hK (show K < 2147483648 by omega)]
  unfold ld_full
  have cn : ((0 : Int64) ≤ n) ↔ 0 ≤ n.toInt := nj_le
  have cd : ((0 : Int64) ≤ d) ↔ 0 ≤ d.toInt := nj_le
  generalize w / -v = X at *
  generalize u / -v = Y at *
  generalize hm : n.toInt.natAbs / ld_g n d = m at *
  generalize hk : d.toInt.natAbs / ld_g n d = k at *
  refine ⟨fun hf => ?_, fun hf h0 => ?_, fun hf h0 => ?_⟩
  · by_cases t1 : 1000000000 < m
    · rw [if_pos (a1.mpr t1), if_neg z1]
    · rw [if_neg (fun z => t1 (a1.mp z)), if_pos rfl, if_pos (b1.mpr (by omega)), if_neg z1]
  · have t1 : ¬ 1000000000 < m := by omega
    have t2 : ¬ 1000000000 < k := by omega
    have m0 : m = 0 := by rw [← hm, h0]; exact Nat.zero_div _
    have eX := a2 (by omega)
    have X0 : X = 0 := nj_eq.mpr (by rw [eX, m0]; rfl)
    rw [if_neg (fun z => t1 (a1.mp z)), if_pos rfl, if_neg (fun z => t2 (b1.mp z)), if_pos rfl, if_pos (cn.mpr (by omega)), sd_b1_s, X0]
    have e3 : ∀ y1 : Int32, (if (0 : Int32) = y1 then some (0 : Int64) else some (-0)) = some 0 := fun y1 => by split <;> rfl
    have e4 : ∃ y1 : Int32, (if (0 : Int64) ≤ d then some (0 : Int32) else some 1) = some y1 := by split <;> exact ⟨_, rfl⟩
    obtain ⟨y1, e5⟩ := e4
    rw [e5, sd_b1_s, e3, sd_b1_s, mf_become0, sd_b5_s]
  · have t1 : ¬ 1000000000 < m := by omega
    have t2 : ¬ 1000000000 < k := by omega
    have m1 : 1 ≤ m := by rw [← hm]; exact (Nat.one_le_div_iff g0).mpr (Nat.gcd_le_left _ (by omega))
    have eX := a2 (by omega)
    have eY := b2 (by omega)
    rw [if_neg (fun z => t1 (a1.mp z)), if_pos rfl, if_neg (fun z => t2 (b1.mp z)), if_pos rfl]
    have hY : Y = ld_bot n d := by unfold ld_bot; rw [hk]; exact jI_eq eY
    have fin : ∀ t : Int64, t = ld_top n d → sd_b5 (mf_Sum_become F t Y 1 xk xn xT xB xR) (fun uxs uxs_1 uxat uxab uxar => some ((0 : Int32), uxs, uxs_1, uxat, uxab, uxar)) = some (0, 0, 1, vp_updL xT 0 (ld_top n d), vp_updL xB 0 (ld_bot n d), vp_updL xR 0 1) := fun t ht => by
      have tn : t.toInt ≠ 0 := by
        rw [ht]; exact (ld_ok h0 hd (by unfold ld_full; rw [hm, hk]; omega)).2.1
      rw [mf_become F _ _ _ tn, sd_b5_s, ht, hY]
    have tp : (n.toInt < 0 ↔ d.toInt < 0) → X = ld_top n d := fun q => by
      unfold ld_top; rw [if_pos q, hm, Int.one_mul]; exact jI_eq eX
    have tn : ¬ (n.toInt < 0 ↔ d.toInt < 0) → -X = ld_top n d := fun q => by
      unfold ld_top; rw [if_neg q, hm]
      exact jI_eq (by rw [nj_neg (by omega), eX]; omega)
    by_cases n1 : 0 ≤ n.toInt <;> by_cases d1 : 0 ≤ d.toInt
    · rw [if_pos (cn.mpr n1), sd_b1_s, if_pos (cd.mpr d1), sd_b1_s, if_pos rfl, sd_b1_s]
      exact fin X (tp (by omega))
    · rw [if_pos (cn.mpr n1), sd_b1_s, if_neg (fun z => d1 (cd.mp z)), sd_b1_s, if_neg (by decide), sd_b1_s]
      exact fin (-X) (tn (by omega))
    · rw [if_neg (fun z => n1 (cn.mp z)), sd_b1_s, if_pos (cd.mpr d1), sd_b1_s, if_neg (by decide), sd_b1_s]
      exact fin (-X) (tn (by omega))
    · rw [if_neg (fun z => n1 (cn.mp z)), sd_b1_s, if_neg (fun z => d1 (cd.mp z)), sd_b1_s, if_pos rfl, sd_b1_s]
      exact fin X (tp (by omega))
theorem mm_load {F : Nat} (hF : 18446744073709551616 ≤ F) {K : Nat} (hK : K < 8) (n d : Int64) (hd : d.toInt ≠ 0) (md o1 o2 o3 : Int32) (cnt : Nat → Int32) (cn cd cr N0 D0 R0 : Nat → Int64) :
    (ld_full n d → ∃ q, mf_Model_load F (nI K) n d md o1 o2 o3 cn cd cr cnt N0 D0 R0 = some (-3, q, cn, cd, cr, cnt, N0, D0, R0)) ∧
    (¬ ld_full n d → n.toInt = 0 → ∃ cn' cd' cr' N D R, mf_Model_load F (nI K) n d md o1 o2 o3 cn cd cr cnt N0 D0 R0 = some (0, nI 0, cn', cd', cr', upd cnt K (nI 0), N, D, R) ∧ (∀ j, j < 8 * K ∨ 8 * K + 8 ≤ j → cn' j = cn j ∧ cd' j = cd j ∧ cr' j = cr j)) ∧
    (¬ ld_full n d → n.toInt ≠ 0 → ∃ cn' cd' cr' N D R, mf_Model_load F (nI K) n d md o1 o2 o3 cn cd cr cnt N0 D0 R0 = some (0, nI 1, cn', cd', cr', upd cnt K (nI 1), N, D, R) ∧ cn' (8 * K) = ld_top n d ∧ cd' (8 * K) = ld_bot n d ∧ cr' (8 * K) = 1 ∧ (∀ j, j < 8 * K ∨ 8 * K + 8 ≤ j → cn' j = cn j ∧ cd' j = cd j ∧ cr' j = cr j)) := by
  have dz : ¬ d = (0 : Int64) := fun z => hd (by rw [z]; rfl)
  have z1 : ¬ (1 : Int32) = 0 := by decide
  have g0 : 0 < ld_g n d := Nat.gcd_pos_of_pos_right _ (by omega)
  have hnb := nj_bd n
  have hdb := nj_bd d
  have gl : ld_g n d ≤ d.toInt.natAbs := Nat.gcd_le_right _ (by omega)
  have nz : (n = (0 : Int64)) ↔ n.toInt = 0 := nj_eq
  unfold mf_Model_load
  simp only [(rg_in F hK).2, sd_b1_s, if_neg z1, if_neg dz]
  by_cases h0 : n.toInt = 0
  · have gd : ld_g n d = d.toInt.natAbs := by unfold ld_g; rw [h0]; exact Nat.gcd_zero_left _
    have nf : ¬ ld_full n d := by
      unfold ld_full
      rw [gd, h0, Nat.div_self (by omega)]
      rw [show (0 : Int).natAbs / d.toInt.natAbs = 0 from Nat.zero_div _]
      omega
    rw [if_pos (nz.mpr h0)]
    refine ⟨fun q => absurd q nf, fun _ _ => ?_, fun _ q => absurd h0 q⟩
    obtain ⟨cn', cd', cr', ek, k1, k2, k3, k4⟩ := mm_keep (show 200 ≤ F by omega) hK (show 0 ≤ 8 by omega) o1 o2 o3 cnt cn cd cr N0 D0 R0
    have ek' : mf_Model_keep F (nI K) 0 o1 o2 o3 cn cd cr cnt N0 D0 R0 = some (nI 0, cn', cd', cr', upd cnt K (nI 0)) := ek
    rw [ek', sd_b5_s]
    exact ⟨cn', cd', cr', N0, D0, R0, rfl, k4⟩
  · rw [if_neg (fun z => h0 (nz.mp z))]
    have cn0 : ((0 : Int64) ≤ n) ↔ 0 ≤ n.toInt := nj_le
    have cd0 : ((0 : Int64) ≤ d) ↔ 0 ≤ d.toInt := nj_le
    have bel : ∀ a : Int64, ∃ v, (if (0 : Int64) ≤ a then some (-a) else some a) = some v ∧ v.toInt = -(a.toInt.natAbs : Int) := fun a => by
      have c0 : ((0 : Int64) ≤ a) ↔ 0 ≤ a.toInt := nj_le
      by_cases q : 0 ≤ a.toInt
      · exact ⟨-a, if_pos (c0.mpr q), by rw [nj_neg (by omega)]; omega⟩
      · exact ⟨a, if_neg (fun z => q (c0.mp z)), by omega⟩
    obtain ⟨x, ex, hx⟩ := bel n
    obtain ⟨y, ey, hy⟩ := bel d
    obtain ⟨v, ev, hv⟩ := ld_loop F x y (by omega) (by omega) (by omega)
    have hvg : v.toInt = -(ld_g n d : Int) := by
      rw [hv, show x.toInt.natAbs = n.toInt.natAbs by omega, show y.toInt.natAbs = d.toInt.natAbs by omega]; rfl
    rw [ex, sd_b1_s, ey, sd_b1_s, ev, sd_b1_s]
    simp only [sd_zJt (show v.toInt ≠ 0 by omega), sd_g_s, sd_let_s]
    -- the two quotients
    have quo : ∀ a : Int64, (((a / v).toInt < -1000000000 ∨ 1000000000 < (a / v).toInt) ↔ 1000000000 < a.toInt.natAbs / ld_g n d) ∧ (a.toInt.natAbs / ld_g n d ≤ 1000000000 → (a / v).toInt = (if a.toInt < 0 then 1 else -1) * ((a.toInt.natAbs / ld_g n d : Nat) : Int)) := fun a => by
      have hab := nj_bd a
      by_cases ov : a.toInt = -9223372036854775808 ∧ v.toInt = -1
      · have q1 : a = -9223372036854775808 := nj_eq.mpr ov.1
        have q2 : v = -1 := nj_eq.mpr ov.2
        have q3 : (a / v).toInt = -9223372036854775808 := by rw [q1, q2]; rfl
        have q4 : ld_g n d = 1 := by omega
        have q5 : a.toInt.natAbs = 9223372036854775808 := by omega
        rw [q3, q4, q5]
        constructor <;> omega
      · have q3 : (a / v).toInt = (if a.toInt < 0 then 1 else -1) * ((a.toInt.natAbs / ld_g n d : Nat) : Int) := by
          rw [nj_div ov, hvg, Int.tdiv_neg]
          by_cases q : a.toInt < 0
          · rw [if_pos q, Int.one_mul, ← Int.neg_tdiv, show -a.toInt = ((a.toInt.natAbs : Nat) : Int) by omega]
            exact (Int.ofNat_tdiv _ _).symm
          · rw [if_neg q, show a.toInt = ((a.toInt.natAbs : Nat) : Int) by omega, Int.ofNat_tdiv]
            simp
        rw [q3]
        generalize a.toInt.natAbs / ld_g n d = z
        constructor
        · split <;> omega
        · intro _; rfl
    obtain ⟨a1, a2⟩ := quo n
    obtain ⟨b1, b2⟩ := quo d
    have w1 : (n / v < (-1000000000 : Int64)) ↔ (n / v).toInt < -1000000000 := nj_lt
    have w2 : ((1000000000 : Int64) < n / v) ↔ 1000000000 < (n / v).toInt := nj_lt
    have w3 : (d / v < (-1000000000 : Int64)) ↔ (d / v).toInt < -1000000000 := nj_lt
    have w4 : (d / v ≤ (1000000000 : Int64)) ↔ (d / v).toInt ≤ 1000000000 := nj_le
    have w5 : ((0 : Int64) ≤ d / v) ↔ 0 ≤ (d / v).toInt := nj_le
    refine ⟨fun hf => ?_, fun _ q => absurd q h0, fun hf _ => ?_⟩
    · unfold ld_full at hf
      refine ⟨0, ?_⟩
      by_cases t1 : (n / v).toInt < -1000000000
      · rw [if_pos (w1.mpr t1)]
      · rw [if_neg (fun z => t1 (w1.mp z))]
        by_cases t2 : 1000000000 < (n / v).toInt
        · rw [if_pos (w2.mpr t2)]
        · rw [if_neg (fun z => t2 (w2.mp z))]
          by_cases t3 : (d / v).toInt < -1000000000
          · rw [if_pos (w3.mpr t3)]
          · rw [if_neg (fun z => t3 (w3.mp z)), if_neg (fun z => by
              have z4 := w4.mp z
              rcases hf with q | q
              · have := a1.mpr q; omega
              · have := b1.mpr q; omega)]
    · have ok := ld_ok h0 hd hf
      unfold ld_full at hf
      have t1 : ¬ 1000000000 < n.toInt.natAbs / ld_g n d := by omega
      have t2 : ¬ 1000000000 < d.toInt.natAbs / ld_g n d := by omega
      have n1 := fun z => t1 (a1.mp z)
      have n2 := fun z => t2 (b1.mp z)
      rw [if_neg (fun z => n1 (Or.inl (w1.mp z))), if_neg (fun z => n1 (Or.inr (w2.mp z))), if_neg (fun z => n2 (Or.inl (w3.mp z))), if_pos (w4.mpr (by
        rcases Int.lt_or_le 1000000000 (d / v).toInt with q | q
        · exact absurd (Or.inr q) n2
        · exact q))]
      have eX := a2 (by omega)
      have eY := b2 (by omega)
      have l2 : 1 ≤ d.toInt.natAbs / ld_g n d := (Nat.one_le_div_iff g0).mpr gl
      have eT : (if (0 : Int64) ≤ d / v then some (n / v) else some (-(n / v))) = some (ld_top n d) := by
        unfold ld_top
        generalize n.toInt.natAbs / ld_g n d = zn at *
        generalize d.toInt.natAbs / ld_g n d = zd at *
        by_cases q : d.toInt < 0
        · rw [if_pos q] at eY
          rw [if_pos (w5.mpr (by omega))]
          refine congrArg some (jI_eq ?_)
          rw [eX]
          by_cases q2 : n.toInt < 0
          · rw [if_pos q2, if_pos (by omega)]
          · rw [if_neg q2, if_neg (by omega)]
        · rw [if_neg q] at eY
          rw [if_neg (fun z => by have := w5.mp z; omega)]
          refine congrArg some (jI_eq ?_)
          rw [nj_neg (by rw [eX]; split <;> omega), eX]
          by_cases q2 : n.toInt < 0
          · rw [if_pos q2, if_neg (by omega)]; omega
          · rw [if_neg q2, if_pos (by omega)]; omega
      have eB : (if (0 : Int64) ≤ d / v then some (d / v) else some (-(d / v))) = some (ld_bot n d) := by
        unfold ld_bot
        generalize d.toInt.natAbs / ld_g n d = zd at *
        by_cases q : d.toInt < 0
        · rw [if_pos q] at eY
          rw [if_pos (w5.mpr (by omega))]
          exact congrArg some (jI_eq (by omega))
        · rw [if_neg q] at eY
          rw [if_neg (fun z => by have := w5.mp z; omega)]
          exact congrArg some (jI_eq (by rw [nj_neg (by omega)]; omega))
      rw [eT, sd_b1_s, eB, sd_b1_s]
      have h4 := mm_add hF (show 0 ≤ 8 by omega) o1 o2 o3 N0 D0 R0 (ld_top n d) (ld_bot n d) 1 (fun j q => absurd q (by omega)) ok.1 ok.2.1 ok.2.2.1
      rw [tm_add_end (by omega) (fun j q => absurd q (by omega))] at h4
      obtain ⟨T', B', R', e, x1, x2, x3⟩ := h4
      have e' : mf_Model_addTerm F (ld_top n d) (ld_bot n d) 1 0 o1 o2 o3 N0 D0 R0 = some (1, nI 1, T', B', R') := e
      rw [e', sd_b5_s]
      obtain ⟨cn', cd', cr', ek, k1, k2, k3, k4⟩ := mm_keep (show 200 ≤ F by omega) hK (show 1 ≤ 8 by omega) o1 o2 o3 cnt cn cd cr T' B' R'
      rw [ek, sd_b5_s]
      refine ⟨cn', cd', cr', T', B', R', rfl, ?_, ?_, ?_, k4⟩
      · have := k1 0 (by omega); rw [x1 0 (by omega)] at this; exact this
      · have := k2 0 (by omega); rw [x2 0 (by omega)] at this; exact this
      · have := k3 0 (by omega); rw [x3 0 (by omega)] at this; exact this
