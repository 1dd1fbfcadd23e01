theorem pw_M : 65536 ^ 67 * 10 ^ 81 < 4294967296 ^ 76 := by decide +kernel
/-- the reference's text of ENDS -/
theorem wj_ref {F pl : Nat} (hF : 18446744073709551616 ≤ F) (hpl : pl ≤ 80) {VL VH k : Nat} {lo hi : Nat → Int64} (hl : ww lo VL) (hh : ww hi VH) (bl : VL < 65536 ^ 67) (bh : VH < 65536 ^ 67) (hk : is_nd (VL / ptN) k) (hk2 : k ≤ 18) (o0 oc s1 s2 : Int32) (neg : Bool) (hneg : neg = false ↔ (0 : Int32) ≤ s2) (out : Nat → Int32) (ro re sq pt pl' mi on tw : Nat → Int64) (dg : Nat → Int32) :
    ∃ a n q o, mf_Model_write_J108 F (nI pl) o0 oc s1 s2 out ro re sq pt pl' mi lo hi on tw dg = some (a, n, s1, s2, q, o) ∧ ((VL * 10 ^ pl / ptN = VH * 10 ^ pl / ptN ∧ a = n ∧ tx (txW neg (VL / ptN) k pl ++ dgs (VL * 10 ^ pl / ptN) pl) n q) ∨ (¬ VL * 10 ^ pl / ptN = VH * 10 ^ pl / ptN ∧ a = -4 ∧ n = oc ∧ q = out)) := by
  obtain ⟨a1, t1, w1⟩ := rc_copy hF hl on
  obtain ⟨b1, t2, w2⟩ := rc_copy hF hh tw
  obtain ⟨a2, b2, t3, w3, w4⟩ := wm_loop (F := F) (pl := pl) hF (M := 65536 ^ 67) pw_M hpl (Nat.le_of_lt bl) (Nat.le_of_lt bh) pl F 0 a1 b1 (by omega) (by omega) (by rw [Nat.pow_zero, Nat.mul_one]; exact w1) (by rw [Nat.pow_zero, Nat.mul_one]; exact w2)
  obtain ⟨a3, t4, w5⟩ := ru_unshift hF (n := 1024) w3 (by omega)
  obtain ⟨b3, t5, w6⟩ := ru_unshift hF (n := 1024) w4 (by omega)
  rw [pw_1024] at w5 w6
  have t3' : mf_Model_write_L132 (nI pl) F F 0 a1 b1 = some (a2, b2) := t3
  have t4' : mf_Model_unshift F 1024 a2 = some a3 := t4
  have t5' : mf_Model_unshift F 1024 b2 = some b3 := t5
  have v1 := np_div VL 0 pl
  rw [Nat.zero_add, Nat.pow_zero, Nat.mul_one] at v1
  unfold mf_Model_write_J108
  rw [t1, sd_b1_s, t2, sd_b1_s, t3', sd_b2_s, t4', sd_b1_s, t5', sd_b1_s, rp_compare hF w5 w6, sd_b1_s]
  unfold cmpI
  by_cases c : VL * 10 ^ pl / ptN = VH * 10 ^ pl / ptN
  · rw [if_pos c, if_pos rfl]
    have r1 : ∃ m1 q1, (if 0 ≤ s2 then (some ((0 : Int32), out)) else (sd_b2 (mf_Model_say F (45 : Int32) o0 (0 : Int32) s1 s2 out) fun umo_4 uaout_2 => (some (umo_4, uaout_2)))) = some (m1, q1) ∧ tx (if neg then [45] else []) m1 q1 := by
      cases neg with
      | false => rw [if_pos (hneg.mp rfl)]; exact ⟨0, out, rfl, tx_nil out⟩
      | true =>
        obtain ⟨m1, q1, g1, g2⟩ := tx_say F o0 s1 s2 (tx_nil out) (x := 45) (by omega) (by decide)
        have g1' : mf_Model_say F 45 o0 0 s1 s2 out = some (m1, q1) := g1
        rw [if_neg (fun z => by have := hneg.mpr z; cases this), g1', sd_b2_s]
        exact ⟨m1, q1, rfl, g2⟩
    obtain ⟨m1, q1, g1, g2⟩ := r1
    have ll : (if neg then [45] else ([] : List Nat)).length ≤ 1 := by cases neg <;> decide
    obtain ⟨n', p', u', dg', d1, d2⟩ := dw_digits (F := F) (pl := pl) (N := VL * 10 ^ pl / ptN) (k := k) hF hpl (by rw [v1]; exact hk) hk2 o0 s1 s2 a3 dg w5 _ m1 q1 g2 ll
    rw [g1, sd_b2_s, d1, sd_b4_s]
    rw [v1] at d2
    exact ⟨n', n', p', _, rfl, Or.inl ⟨c, rfl, d2⟩⟩
  · rw [if_neg c]
    by_cases q4 : VH * 10 ^ pl / ptN ≤ VL * 10 ^ pl / ptN
    · rw [if_pos q4, if_neg (by decide)]; exact ⟨_, _, _, _, rfl, Or.inr ⟨c, rfl, rfl, rfl⟩⟩
    · rw [if_neg q4, if_neg (by decide)]; exact ⟨_, _, _, _, rfl, Or.inr ⟨c, rfl, rfl, rfl⟩⟩
/-- what a write leaves: a new text in both, or the old ones -/
def wr_post (pk pd : Nat) (pkn oc : Int32) (out : Nat → Int32) (pk' pd' : Nat) (pkn' oc' : Int32) (cpd' out' : Nat → Int32) : Prop := (pk' = pd ∧ pd' = pk ∧ ∃ n, pkn' = nI n ∧ oc' = nI n ∧ out_same n cpd' out') ∨ (pk' = pk ∧ pd' = pd ∧ pkn' = pkn ∧ oc' = oc ∧ out' = out)
theorem write_both {F : Nat} (hF : 18446744073709551616 ≤ F) {c I : Nat} (hI : I < 8) (pl : Int32) (cRg : Nat → Option Nat) (fR fQ : Int64) (cfr cft cfs cpd czl czh xL xH : Nat → Int32) (pkn pdn xk o0 oc o2 o3 : Int32) (cnt : Nat → Int32) (cn cd cr xT xB xR ro re sq pt pls mi lo hi on tw tA tB : Nat → Int64) (out dg : Nat → Int32) (pk pd : Nat)
    (hx : tm_okS c xT xB xR) (kx : ck xk c xT xB xR xL xH) (c1 : cnt I = nI c) (d1 : tm_row I c cn xT) (d2 : tm_row I c cd xB) (d3 : tm_row I c cr xR) :
    ∃ a fR' fQ' u' v' s' pk' pd' pkn' pdn' cpd' zl' zh' xk' xL' xH', mf_Desk_write F (nI I) pl cRg fR fQ cfr cft cfs pkn pdn cpd czl czh xk (nI c) xT xB xR xL xH pk pd = some (a, fR', fQ', u', v', s', pk', pd', pkn', pdn', cpd', zl', zh', xk', xL', xH') ∧ ck xk' c xT xB xR xL' xH' ∧
      ∃ oc' s1 s2 out' o, mf_Model_write F (nI I) pl o0 oc o2 o3 cn cd cr cnt out ro re sq pt pls mi lo hi on tw dg tA tB = some (a, oc', s1, s2, out', o) ∧ wr_post pk pd pkn oc out pk' pd' pkn' oc' cpd' out' := by
  have z1 : ¬ (1 : Int32) = 0 := by decide
  have h8 := hx.1
  unfold mf_Desk_write mf_Model_write
  rw [(rg_in F hI).1, (rg_in F hI).2, sd_b1_s, sd_b1_s, if_neg z1, if_neg z1]
  have old : wr_post pk pd pkn oc out pk pd pkn oc cpd out := Or.inr ⟨rfl, rfl, rfl, rfl, rfl⟩
  by_cases p0 : pl < 0
  · rw [if_pos p0, if_pos p0]
    exact ⟨_, _, _, _, _, _, _, _, _, _, _, _, _, _, _, _, rfl, kx, _, _, _, _, _, rfl, old⟩
  · rw [if_neg p0, if_neg p0]
    obtain ⟨P, hP, rfl⟩ := nI_of p0
    rw [show (80 : Int32) = nI 80 from rfl, nI_ifLe (by omega) (by omega), nI_ifLe (by omega) (by omega)]
    by_cases p8 : P ≤ 80
    · rw [if_pos p8, if_pos p8, sd_g_t (sd_ixI hI (by omega))]
      rcases fr_dec c xR with f | f
      · obtain ⟨n1, n2, n3, n4, n5⟩ := fr_nd hx
        rw [(mf_isFraction F xk hx.1 xR).1 f, sd_b1_s, if_neg z1, mf_top F xk hx.1, sd_b1_s, mf_bottom F xk hx.1, sd_b1_s, (mm_fraction F hI hx.1 o0 oc o2 o3 cnt cr xR c1 d3).1 f, sd_b1_s, if_neg z1, sd_g_t (sd_ixI hI (by omega)), mm_n hI hx.1 cnt cn xT c1 d1, sd_b1_s, sd_g_t (sd_ixI hI (by omega)), mm_d hI hx.1 cnt cd xB c1 d2, sd_b1_s]
        have bn : fr_d c xB = lN (fr_d c xB).toInt.toNat := nj_nat (by omega)
        obtain ⟨l, n, p, m, q, g1, g2, g3, g4⟩ := tf_both hF pkn pdn o0 o2 o3 cpd out (vT := fr_n c xT) (a := (fr_n c xT).toInt.natAbs) (d := (fr_d c xB).toInt.toNat) (pl := P) rfl n1 (by omega) (by omega) p8
        rw [← bn] at g1 g2
        obtain ⟨e1, e2, e3⟩ := tx_out g3 g4
        rw [g1, sd_b2_s, g2, sd_b2_s]
        unfold mf_Page_keep
        rw [sd_b4_s, e1, e2]
        exact ⟨_, _, _, _, _, _, _, _, _, _, _, _, _, _, _, _, rfl, kx, _, _, _, _, _, rfl, Or.inl ⟨rfl, rfl, _, rfl, rfl, e3⟩⟩
      · obtain ⟨f1, f2, u1, v1, s1, L1, H1, g1, g2, g3⟩ := fi_any hF hx kx fR fQ cfr cft cfs
        obtain ⟨zl, zh, k1, k2, k3⟩ := wz_sizes hF g2 g3 (en_lb hx) (en_hb hx) czl czh
        obtain ⟨sl, sh, r1, r2, r3, r4, r5, r6, r7, r8, r9, m1, m2, m3⟩ := re_ends hF hI hx c1 d1 d2 d3 o0 oc o2 o3 ro re sq pt pls mi lo hi on
        have lh := en_lh xT xB xR c
        have ck' : ck 1 c xT xB xR L1 H1 := Or.inr ⟨rfl, g2, g3⟩
        have bl := en_ab (en_lb hx)
        have bh := en_ab (en_hb hx)
        have q1 : (en_low xT xB xR c).natAbs / ptN < 281474976710656 := by
          rw [Nat.div_lt_iff_lt_mul ptN_pos, ← ptN_3]; exact bl
        obtain ⟨k, kn, kb⟩ := is_nd_ex 14 ((en_low xT xB xR c).natAbs / ptN) (by omega)
        rw [(mf_isFraction F xk hx.1 xR).2 f, sd_b1_s, if_pos rfl, g1, sd_b8_s, k1, sd_b3_s, (mm_fraction F hI hx.1 o0 oc o2 o3 cnt cr xR c1 d3).2 f, sd_b1_s, if_pos rfl, m1, sd_b11_s]
        have sL : (0 < sl) ↔ 0 < en_low xT xB xR c := by
          rw [m2.1, ni_lt, sgnI_t, show (0 : Int32).toInt = 0 from rfl]
          by_cases a : en_low xT xB xR c = 0
          · rw [if_pos a]; omega
          · rw [if_neg a]
            by_cases a2 : 0 ≤ en_low xT xB xR c
            · rw [if_pos a2]; omega
            · rw [if_neg a2]; omega
        have sH : (0 ≤ sh) ↔ 0 ≤ en_high xT xB xR c := by
          rw [m3.1, ni_le, sgnI_t, show (0 : Int32).toInt = 0 from rfl]
          by_cases a : en_high xT xB xR c = 0
          · rw [if_pos a]; omega
          · rw [if_neg a]
            by_cases a2 : 0 ≤ en_high xT xB xR c
            · rw [if_pos a2]; omega
            · rw [if_neg a2]; omega
        have sH' : (sh < 0) ↔ en_high xT xB xR c < 0 := by
          have := sH
          rw [ni_le] at this
          rw [ni_lt]
          omega
        have go : ∀ (sg : Int32) (neg : Bool), ¬ sg = 0 → (if 0 ≤ sg then (some ((0 : Int32))) else (some ((1 : Int32)))) = some (if neg then 1 else 0) → (neg = false ↔ (0 : Int32) ≤ sh) → ∃ a pk' pd' pkn' pdn' cpd' zl' zh', (if sg = 0 then (some ((-4 : Int32), f1, f2, u1, v1, s1, pk, pd, pkn, pdn, cpd, zl, zh, (1 : Int32), L1, H1)) else (sd_b1 (if 0 ≤ sg then (some ((0 : Int32))) else (some ((1 : Int32)))) fun y => (sd_b5 (mf_Page_draftEnds F 68 68 y (nI P) pkn pdn cpd zl zh) fun r_3 upg upd uzl_1 uzh_1 => (if r_3 = 0 then (some ((-4 : Int32), f1, f2, u1, v1, s1, pk, pd, pkn, upg, upd, uzl_1, uzh_1, (1 : Int32), L1, H1)) else (sd_b4 (mf_Page_keep F pkn upg pk pd) fun r_4 upg_1 upg_2 upg_3 => (some (r_4, f1, f2, u1, v1, s1, upg_1, upg_2, upg_3, upg, upd, uzl_1, uzh_1, (1 : Int32), L1, H1))))))) = some (a, f1, f2, u1, v1, s1, pk', pd', pkn', pdn', cpd', zl', zh', (1 : Int32), L1, H1) ∧ ∃ oc' out' o, mf_Model_write_J108 F (nI P) o0 oc sl sh out r1 r2 r3 r4 r5 r6 r7 r8 r9 tw dg = some (a, oc', sl, sh, out', o) ∧ wr_post pk pd pkn oc out pk' pd' pkn' oc' cpd' out' := by
          intro sg neg h1 h2 h3
          obtain ⟨t, n', p', zl', zh', e1, e2⟩ := de_ends (F := F) (pl := P) hF pkn pdn cpd neg p8 k2 k3 bl bh kn (by omega)
          obtain ⟨a, n, q, o, e3, e4⟩ := wj_ref (F := F) (pl := P) hF p8 m2.2 m3.2 bl bh kn (by omega) o0 oc sl sh neg h3 out r1 r2 r3 r4 r5 r6 r9 tw dg
          rw [if_neg h1, h2, sd_b1_s, e1, sd_b5_s, e3]
          rcases e2 with ⟨t1, t2, t3⟩ | ⟨t1, t2⟩
          · rcases e4 with ⟨w1, w2, w3⟩ | ⟨w1, -⟩
            · obtain ⟨x1, x2, x3⟩ := tx_out t3 w3
              unfold mf_Page_keep
              rw [t1, if_neg z1, sd_b4_s, w2, x1, x2]
              exact ⟨_, _, _, _, _, _, _, _, rfl, _, _, _, rfl, Or.inl ⟨rfl, rfl, _, rfl, rfl, x3⟩⟩
            · exact absurd t2 w1
          · rcases e4 with ⟨w1, -⟩ | ⟨w1, w2, w3, w4⟩
            · exact absurd w1 t2
            · rw [t1, if_pos rfl, w2, w3, w4]
              exact ⟨_, _, _, _, _, _, _, _, rfl, _, _, _, rfl, Or.inr ⟨rfl, rfl, rfl, rfl, rfl⟩⟩
        by_cases q2 : en_high xT xB xR c < 0
        · obtain ⟨a, y1, y2, y3, y4, y5, y6, y7, e1, oc', out', o, e2, e3⟩ := go (-1) true (by decide) (by decide) ⟨fun z => (by cases z), fun z => by have := sH.mp z; omega⟩
          rw [if_pos q2, e1, if_neg (fun z => by have := sL.mp z; omega), if_pos (sH'.mpr q2), e2]
          exact ⟨_, _, _, _, _, _, _, _, _, _, _, _, _, _, _, _, rfl, ck', _, _, _, _, _, rfl, e3⟩
        · rw [if_neg q2]
          by_cases q3 : 0 < en_low xT xB xR c
          · obtain ⟨a, y1, y2, y3, y4, y5, y6, y7, e1, oc', out', o, e2, e3⟩ := go 1 false (by decide) (by decide) ⟨fun _ => sH.mpr (by omega), fun _ => rfl⟩
            rw [if_pos q3, e1, if_pos (sL.mpr q3), e2]
            exact ⟨_, _, _, _, _, _, _, _, _, _, _, _, _, _, _, _, rfl, ck', _, _, _, _, _, rfl, e3⟩
          · rw [if_neg q3, if_pos rfl, if_neg (fun z => q3 (sL.mp z)), if_neg (fun z => q2 (sH'.mp z))]
            exact ⟨_, _, _, _, _, _, _, _, _, _, _, _, _, _, _, _, rfl, ck', _, _, _, _, _, rfl, old⟩
    · rw [if_neg p8, if_neg p8]
      exact ⟨_, _, _, _, _, _, _, _, _, _, _, _, _, _, _, _, rfl, kx, _, _, _, _, _, rfl, old⟩
