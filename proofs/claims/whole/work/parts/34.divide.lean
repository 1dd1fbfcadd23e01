/-! the turned term -/
def tm_inA (a b x : Int64) : Int64 := if (0 : Int64) ≤ a then b / tm_g b x else -(b / tm_g b x)
def tm_inB (a b x : Int64) : Int64 := (if 0 < a then a else -a) * (x / tm_g b x)
theorem tm_inv {a b x : Int64} (h : tm_okT a b x) : ∃ G : Nat, (tm_g b x).toInt = G ∧ 1 ≤ G ∧ Nat.gcd b.toInt.natAbs x.toInt.natAbs = G ∧ (b / tm_g b x).toInt = (b.toInt.natAbs / G : Nat) ∧ 1 ≤ b.toInt.natAbs / G ∧ b.toInt.natAbs / G ≤ 1000000000 ∧ (x / tm_g b x).toInt = (x.toInt.natAbs / G : Nat) ∧ 1 ≤ x.toInt.natAbs / G ∧ (if 0 < a then a else -a).toInt = a.toInt.natAbs ∧ (tm_inB a b x).toInt = (a.toInt.natAbs * (x.toInt.natAbs / G) : Nat) ∧ 1 ≤ a.toInt.natAbs * (x.toInt.natAbs / G) ∧ a.toInt.natAbs * (x.toInt.natAbs / G) ≤ 1000000000000000000 ∧ (tm_inA a b x).toInt.natAbs = b.toInt.natAbs / G ∧ Nat.Coprime (b.toInt.natAbs / G) (a.toInt.natAbs * (x.toInt.natAbs / G)) := by
  obtain ⟨⟨p1, p2, p3⟩, p4, p5, p6, p7⟩ := h
  have G0 : 0 < Nat.gcd b.toInt.natAbs x.toInt.natAbs := Nat.gcd_pos_of_pos_left _ (by omega)
  have G1 : Nat.gcd b.toInt.natAbs x.toInt.natAbs ≤ b.toInt.natAbs := Nat.gcd_le_left _ (by omega)
  have G2 : Nat.gcd b.toInt.natAbs x.toInt.natAbs ≤ x.toInt.natAbs := Nat.gcd_le_right _ (by omega)
  have eG := tm_gt (x := b) (y := x) (by omega)
  have cG : Nat.Coprime (b.toInt.natAbs / Nat.gcd b.toInt.natAbs x.toInt.natAbs) (x.toInt.natAbs / Nat.gcd b.toInt.natAbs x.toInt.natAbs) := Nat.coprime_div_gcd_div_gcd G0
  have vG : Nat.gcd b.toInt.natAbs x.toInt.natAbs ∣ b.toInt.natAbs := Nat.gcd_dvd_left _ _
  have hab : Nat.Coprime a.toInt.natAbs b.toInt.natAbs := p5
  generalize hG : Nat.gcd b.toInt.natAbs x.toInt.natAbs = G at *
  have e1 := tm_q (x := b) (n := b.toInt.natAbs) eG G0 (by omega) (by omega)
  have e2 := tm_q (x := x) (n := x.toInt.natAbs) eG G0 (by omega) (by omega)
  have l1 : 1 ≤ b.toInt.natAbs / G := (Nat.one_le_div_iff G0).mpr G1
  have l2 : 1 ≤ x.toInt.natAbs / G := (Nat.one_le_div_iff G0).mpr G2
  have u1 : b.toInt.natAbs / G ≤ b.toInt.natAbs := Nat.div_le_self _ _
  have u2 : x.toInt.natAbs / G ≤ x.toInt.natAbs := Nat.div_le_self _ _
  have e3 := tm_abs a (by omega)
  have m1 : a.toInt.natAbs * (x.toInt.natAbs / G) ≤ 1000000000 * 1000000000 := Nat.mul_le_mul p1 (by omega)
  have m2 : 1 * 1 ≤ a.toInt.natAbs * (x.toInt.natAbs / G) := Nat.mul_le_mul (by omega) l2
  have e4 : (tm_inB a b x).toInt = (a.toInt.natAbs * (x.toInt.natAbs / G) : Nat) := by
    unfold tm_inB
    have q : (if 0 < a then a else -a).toInt * (x / tm_g b x).toInt = ((a.toInt.natAbs * (x.toInt.natAbs / G) : Nat) : Int) := by
      rw [e3, e2]; exact (Int.natCast_mul _ _).symm
    rw [nj_mul (by rw [q]; omega) (by rw [q]; omega), q]
  refine ⟨G, eG, G0, rfl, e1, l1, by omega, e2, l2, e3, e4, by omega, by omega, ?_, Nat.Coprime.mul_right ((hab.symm).coprime_div_left vG) cG⟩
  unfold tm_inA
  split
  · omega
  · rw [nj_neg (by omega)]; omega
theorem tm_inv_ok {a b x : Int64} (h : tm_okT a b x) (hB : (tm_inB a b x).toInt ≤ 1000000000) : tm_okT (tm_inA a b x) (tm_inB a b x) x := by
  obtain ⟨G, e1, e2, e3, e4, e5, e6, e7, e8, e9, e10, e11, e12, e13, e14⟩ := tm_inv h
  have q : (tm_inB a b x).toInt.natAbs = a.toInt.natAbs * (x.toInt.natAbs / G) := by omega
  exact ⟨⟨by omega, by omega, by omega⟩, by omega, by rw [e13, q]; exact e14, h.2.2.2⟩
/-- become -/
theorem mf_become (F : Nat) (t u v : Int64) (ht : t.toInt ≠ 0) (k n : Int32) (T B R : Nat → Int64) : mf_Sum_become F t u v k n T B R = some (0, 1, vp_updL T 0 t, vp_updL B 0 u, vp_updL R 0 v) := by
  unfold mf_Sum_become mf_Sum_clear
  have z : ¬ t = (0 : Int64) := fun q => ht (by rw [q]; rfl)
  rw [sd_b2_s, if_neg z, show (0 : Int32) = nI 0 from rfl, mf_put (by omega), sd_b3_s, sd_b4_s]
theorem mf_become0 (F : Nat) (u v : Int64) (k n : Int32) (T B R : Nat → Int64) : mf_Sum_become F 0 u v k n T B R = some (0, 0, T, B, R) := by
  unfold mf_Sum_become mf_Sum_clear
  rw [sd_b2_s, if_pos rfl, sd_b4_s]
theorem mf_becomeInverse {F : Nat} (hF : 200 ≤ F) (jk jn yk yn : Int32) (jT jB jR yT yB yR : Nat → Int64) (h : tm_okT (yT 0) (yB 0) (yR 0)) :
    mf_Sum_becomeInverse F jk jn jT jB jR yk yn yT yB yR = if 1000000000 < (tm_inB (yT 0) (yB 0) (yR 0)).toInt then some (0, jk, jn, jT, jB, jR) else some (1, 0, 1, vp_updL jT 0 (tm_inA (yT 0) (yB 0) (yR 0)), vp_updL jB 0 (tm_inB (yT 0) (yB 0) (yR 0)), vp_updL jR 0 (yR 0)) := by
  unfold mf_Sum_becomeInverse
  simp only [sd_let_s, show (0 : Int32).toNatClampNeg = 0 from rfl]
  generalize yT 0 = a at *
  generalize yB 0 = b at *
  generalize yR 0 = x at *
  obtain ⟨G, e1, e2, e3, e4, e5, e6, e7, e8, e9, e10, e11, e12, e13, e14⟩ := tm_inv h
  have hgl : Nat.gcd b.toInt.natAbs x.toInt.natAbs < 9223372036854775808 := by
    have h3 := h.1.2.1
    have h4 := h.1.2.2
    have h5 := Nat.gcd_le_left (m := b.toInt.natAbs) x.toInt.natAbs (by omega)
    omega
  have hz := sd_zJt (show (tm_g b x).toInt ≠ 0 by omega)
  have hA : (if (0 : Int64) ≤ a then sd_g true (some (b / tm_g b x)) else sd_g true (some (-(b / tm_g b x)))) = some (tm_inA a b x) := by
    unfold tm_inA; split <;> rfl
  simp only [mf_g hF b x (Or.inl (by have := h.1.2.1; omega)) hgl, sd_b1_s, hz]
  rw [hA, sd_b1_s]
  show sd_g true (sd_b1 (mf_Whole_isTooGreat F (tm_inB a b x)) _) = _
  rw [sd_g_s, mf_tooGreat, sd_b1_s]
  by_cases t : 1000000000 < (tm_inB a b x).toInt
  · rw [if_pos (Or.inr t), if_neg (by decide), if_pos t]
  · rw [if_neg (show ¬ ((tm_inB a b x).toInt < 0 ∨ 1000000000 < (tm_inB a b x).toInt) by omega), if_pos rfl, if_neg t]
    show sd_b5 (mf_Sum_become F (tm_inA a b x) (tm_inB a b x) x jk jn jT jB jR) _ = _
    rw [mf_become F _ _ _ (by omega), sd_b5_s]
/-- what divide makes -/
def tm_fQ (xT xB xR : Nat → Int64) (u v w : Int64) (i : Nat) (s : tm_S) : Option tm_S := tm_addP s.1 s.2.1 s.2.2.1 s.2.2.2 (xT i) (xB i) (xR i) u v w
def tm_divide (c : Nat) (xT xB xR : Nat → Int64) (a b x : Int64) : Option tm_S := if 1000000000 < (tm_inB a b x).toInt then none else tm_run (tm_fQ xT xB xR (tm_inA a b x) (tm_inB a b x) x) c 0 tm_nil
theorem tm_fO1 (xT xB xR yT yB yR : Nat → Int64) : tm_fO xT xB xR yT yB yR 1 = tm_fQ xT xB xR (yT 0) (yB 0) (yR 0) := by
  funext i s
  unfold tm_fO tm_fQ
  rw [tm_run]
  show (match tm_addP s.1 s.2.1 s.2.2.1 s.2.2.2 (xT i) (xB i) (xR i) (yT 0) (yB 0) (yR 0) with | none => none | some s' => some s') = _
  split <;> (rename_i h; rw [h])
theorem tm_divide_ok {c : Nat} {xT xB xR : Nat → Int64} {a b x : Int64} {s : tm_S} (hx : tm_okS c xT xB xR) (h : tm_okT a b x) (e : tm_divide c xT xB xR a b x = some s) : tm_okSS s := by
  unfold tm_divide at e
  split at e
  · cases e
  · rename_i t
    have hi := tm_inv_ok h (by omega)
    refine tm_run_ok (m := c) (fun j s s' hj ho q => ?_) c 0 tm_nil s (by omega) tm_nil_ok e
    obtain ⟨c', T0, B0, R0⟩ := s'
    exact tm_addP_ok ho (hx.2.1 j hj) hi q
def dv_cls (K ds os : Nat) (cRg : Nat → Option Nat) (m : Option (Int32 × Nat × (Nat → Option Nat) × Int32 × Int32 × (Nat → Int64) × (Nat → Int64) × (Nat → Int64) × Int32 × Int32 × (Nat → Int64) × (Nat → Int64) × (Nat → Int64))) (so : Option tm_S) : Prop := match so with
  | none => ∃ k n T B R k' n' T' B' R', m = some (-3, ds, cRg, k, n, T, B, R, k', n', T', B', R')
  | some s => ∃ T B R k' n' T' B' R', m = some (nI s.1, os, va_up cRg K (some ds), 0, nI s.1, T, B, R, k', n', T', B', R') ∧ tm_at s T B R
theorem dk_divide {F : Nat} (hF : 18446744073709551616 ≤ F) {K I J c m : Nat} (hK : K < 8) (hI : I < 8) (hJ : J < 8) (cRg : Nat → Option Nat) (dk dn xk yk jk jn : Int32) (dT dB dR jT jB jR xT xB xR yT yB yR : Nat → Int64) (ds os : Nat) (hx : tm_okS c xT xB xR) (hy : tm_okS m yT yB yR) :
    (m = 1 → dv_cls K ds os cRg (mf_Desk_divide F (nI K) (nI I) (nI J) cRg dk dn dT dB dR jk jn jT jB jR xk (nI c) xT xB xR yk (nI m) yT yB yR ds os) (tm_divide c xT xB xR (yT 0) (yB 0) (yR 0))) ∧
    (m ≠ 1 → mf_Desk_divide F (nI K) (nI I) (nI J) cRg dk dn dT dB dR jk jn jT jB jR xk (nI c) xT xB xR yk (nI m) yT yB yR ds os = some (-2, ds, cRg, dk, dn, dT, dB, dR, jk, jn, jT, jB, jR)) := by
  have m8 := hy.1
  have q1 : nI m = (1 : Int32) ↔ m = 1 := by rw [show (1 : Int32) = nI 1 from rfl]; exact nI_eq (by omega) (by omega)
  unfold mf_Desk_divide mf_Sum_count
  have z1 : ¬ (1 : Int32) = 0 := by decide
  simp only [(rg_in F hK).1, (rg_in F hI).1, (rg_in F hJ).1, sd_b1_s, if_neg z1, sd_ixI hI (show I < 2147483648 by omega), sd_ixI hJ (show J < 2147483648 by omega), sd_g_s]
  refine ⟨fun hm => ?_, fun hm => ?_⟩
  · subst hm
    rw [if_pos (q1.mpr rfl)]
    have h0 := hy.2.1 0 (by omega)
    rw [mf_becomeInverse (by omega) jk jn yk (nI 1) jT jB jR yT yB yR h0]
    unfold tm_divide
    by_cases t : 1000000000 < (tm_inB (yT 0) (yB 0) (yR 0)).toInt
    · rw [if_pos t, if_pos t]
      exact ⟨_, _, _, _, _, _, _, _, _, _, rfl⟩
    · rw [if_neg t, if_neg t]
      have hi := tm_inv_ok h0 (by omega)
      have hY : tm_okS 1 (vp_updL jT 0 (tm_inA (yT 0) (yB 0) (yR 0))) (vp_updL jB 0 (tm_inB (yT 0) (yB 0) (yR 0))) (vp_updL jR 0 (yR 0)) := by
        refine ⟨by omega, fun j hj => ?_, fun i j q1 q2 => absurd q2 (by omega)⟩
        obtain rfl : j = 0 := by omega
        exact hi
      have h := mf_becomeProducts (show 200 ≤ F by omega) dk dn xk 0 dT dB dR xT xB xR _ _ _ hx hY
      rw [tm_fO1] at h
      have h' : match tm_run (tm_fQ xT xB xR (tm_inA (yT 0) (yB 0) (yR 0)) (tm_inB (yT 0) (yB 0) (yR 0)) (yR 0)) c 0 tm_nil with
        | none => ∃ n T B R, mf_Sum_becomeProducts F dk dn dT dB dR xk (nI c) xT xB xR 0 1 (vp_updL jT 0 (tm_inA (yT 0) (yB 0) (yR 0))) (vp_updL jB 0 (tm_inB (yT 0) (yB 0) (yR 0))) (vp_updL jR 0 (yR 0)) = some (0, 0, n, T, B, R)
        | some s => ∃ T B R, mf_Sum_becomeProducts F dk dn dT dB dR xk (nI c) xT xB xR 0 1 (vp_updL jT 0 (tm_inA (yT 0) (yB 0) (yR 0))) (vp_updL jB 0 (tm_inB (yT 0) (yB 0) (yR 0))) (vp_updL jR 0 (yR 0)) = some (1, 0, nI s.1, T, B, R) ∧ tm_at s T B R := h
      show dv_cls K ds os cRg (sd_b6 (if (1 : Int32) = 0 then some (0, dk, dn, dT, dB, dR) else sd_b6 (mf_Sum_becomeProducts F dk dn dT dB dR xk (nI c) xT xB xR 0 1 (vp_updL jT 0 (tm_inA (yT 0) (yB 0) (yR 0))) (vp_updL jB 0 (tm_inB (yT 0) (yB 0) (yR 0))) (vp_updL jR 0 (yR 0))) _) _) _
      rw [if_neg (by decide)]
      cases hs : tm_run (tm_fQ xT xB xR (tm_inA (yT 0) (yB 0) (yR 0)) (tm_inB (yT 0) (yB 0) (yR 0)) (yR 0)) c 0 tm_nil with
      | none =>
        rw [hs] at h'
        obtain ⟨n, T, B, R, e⟩ := h'
        rw [e]
        exact ⟨_, _, _, _, _, _, _, _, _, _, rfl⟩
      | some s =>
        rw [hs] at h'
        obtain ⟨T, B, R, e, a⟩ := h'
        rw [e]
        show dv_cls K ds os cRg (sd_b3 (if (1 : Int32) = 0 then some (-3, ds, cRg) else sd_b3 (mf_Desk_keepDraft F (nI K) cRg 0 (nI s.1) ds os) fun r_6 uzd_1 urg_1 => some (r_6, uzd_1, urg_1)) _) _
        rw [if_neg (by decide), mf_keepDraft F hK, sd_b3_s, sd_b3_s]
        exact ⟨_, _, _, _, _, _, _, _, rfl, a⟩
  · rw [if_neg (fun z => hm (q1.mp z))]
