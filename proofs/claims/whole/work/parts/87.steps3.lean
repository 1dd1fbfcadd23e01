/-! one call on each side: root, reckon, divide, octet -/
section STR
variable {F : Nat} {reg : Nat → Nat} {iv dd : Nat} {sa : Nat → Nat → Nat} {cq : Nat → Option Nat} {P : Nat → Pt} {cnt : Nat → Int32} {cn cd cr : Nat → Int64}
theorem rg2 (F : Nat) (v : Int32) : (mf_Desk_isRegister F v = some 1 ∧ mf_Model_is F v = some 1) ∨ (mf_Desk_isRegister F v = some 0 ∧ mf_Model_is F v = some 0) := by
  rcases rg_or F v with ⟨I, hI, rfl⟩ | h
  · exact Or.inl (rg_in F hI)
  · exact Or.inr h
theorem st_root (hF : 18446744073709551616 ≤ F) (hReg : lw_reg reg iv dd sa cq) (hRel : lw_rel reg P cnt cn cd cr) (k i md o1 o2 o3 : Int32) (N0 D0 R0 : Nat → Int64) :
    (∃ x y res md' cn' cd' cr' cnt' o P', x < 10 ∧ y < 10 ∧ ¬ x = y ∧ (sd_ix k 8 = true → cq k.toNatClampNeg = some (sa x 0)) ∧ (sd_ix i 8 = true → cq i.toNatClampNeg = some (sa y 0)) ∧ mf_Desk_root F k i cq ((P x).1) ((P x).2.1) ((P x).2.2.1) ((P x).2.2.2.1) ((P x).2.2.2.2.1) ((P y).1) ((P y).2.1) ((P y).2.2.1) ((P y).2.2.2.1) ((P y).2.2.2.2.1) = some res ∧ P' x = (res.2.1, res.2.2.1, res.2.2.2.1, res.2.2.2.2.1, res.2.2.2.2.2, (P x).2.2.2.2.2.1, (P x).2.2.2.2.2.2) ∧ (∀ i, i ≠ x → P' i = P i) ∧ mf_Model_root F k i md o1 o2 o3 cn cd cr cnt N0 D0 R0 = some (res.1, md', cn', cd', cr', cnt', o) ∧ lw_rel reg P' cnt' cn' cd' cr') ∨
    (∃ x res md' cn' cd' cr' cnt' o P', x < 10 ∧ (sd_ix k 8 = true → cq k.toNatClampNeg = some (sa x 0)) ∧ (sd_ix i 8 = true → cq i.toNatClampNeg = some (sa x 0)) ∧ mf_Desk_root F k i cq ((P x).1) ((P x).2.1) ((P x).2.2.1) ((P x).2.2.2.1) ((P x).2.2.2.2.1) ((P x).1) ((P x).2.1) ((P x).2.2.1) ((P x).2.2.2.1) ((P x).2.2.2.2.1) = some res ∧ P' x = (res.2.1, res.2.2.1, res.2.2.2.1, res.2.2.2.2.1, res.2.2.2.2.2, (P x).2.2.2.2.2.1, (P x).2.2.2.2.2.2) ∧ (∀ i, i ≠ x → P' i = P i) ∧ mf_Model_root F k i md o1 o2 o3 cn cd cr cnt N0 D0 R0 = some (res.1, md', cn', cd', cr', cnt', o) ∧ lw_rel reg P' cnt' cn' cd' cr') := by
  have z1 : ¬ (1 : Int32) = 0 := by decide
  rcases rg_or F k with ⟨K, hK, rfl⟩ | ⟨b1, b2⟩
  · rcases rg_or F i with ⟨I, hI, rfl⟩ | ⟨b3, b4⟩
    · obtain ⟨c, hs, hk⟩ := hRel I hI
      obtain ⟨a1, a2, a3, a4, a5, a6⟩ := id hs
      have e := root_both hF hK hI cq ((P (reg K)).1) ((P (reg K)).2.1) ((P (reg I)).1) md o1 o2 o3 cnt ((P (reg K)).2.2.1) ((P (reg K)).2.2.2.1) ((P (reg K)).2.2.2.2.1) _ _ _ cn cd cr N0 D0 R0 a2 a3 a4 a5 a6
      rw [← a1] at e
      by_cases q : K = I
      · subst q
        right
        rcases e with ⟨v, e1, e2⟩ | ⟨e1, cn', cd', cr', N, D, R, e2, e3⟩ | ⟨t, u, v, e0, e1, cn', cd', cr', N, D, R, e2, e3, e4, e5, e6⟩
        · exact ⟨reg K, _, md, cn, cd, cr, cnt, (N0, D0, R0), P, (hReg.1 K hK).1, lw_at hReg hK, lw_at hReg hK, e1, rfl, fun _ _ => rfl, e2, hRel⟩
        · exact ⟨reg K, _, _, cn', cd', cr', _, (N, D, R), _, (hReg.1 K hK).1, lw_at hReg hK, lw_at hReg hK, e1, up_s _ _ _, fun i h => up_n _ _ h, e2, rel_put hReg hRel hK ⟨0, lw_pt0 _ _ _ _ _⟩ e3⟩
        · exact ⟨reg K, _, _, cn', cd', cr', _, (N, D, R), _, (hReg.1 K hK).1, lw_at hReg hK, lw_at hReg hK, e1, up_s _ _ _, fun i h => up_n _ _ h, e2, rel_put hReg hRel hK ⟨1, lw_pt1 e0 _ _ _ _ _ e3 e4 e5⟩ e6⟩
      · left
        have nq : ¬ reg K = reg I := fun z => q (hReg.2.1 K I hK hI z)
        rcases e with ⟨v, e1, e2⟩ | ⟨e1, cn', cd', cr', N, D, R, e2, e3⟩ | ⟨t, u, v, e0, e1, cn', cd', cr', N, D, R, e2, e3, e4, e5, e6⟩
        · exact ⟨reg K, reg I, _, md, cn, cd, cr, cnt, (N0, D0, R0), P, (hReg.1 K hK).1, (hReg.1 I hI).1, nq, lw_at hReg hK, lw_at hReg hI, e1, rfl, fun _ _ => rfl, e2, hRel⟩
        · exact ⟨reg K, reg I, _, _, cn', cd', cr', _, (N, D, R), _, (hReg.1 K hK).1, (hReg.1 I hI).1, nq, lw_at hReg hK, lw_at hReg hI, e1, up_s _ _ _, fun i h => up_n _ _ h, e2, rel_put hReg hRel hK ⟨0, lw_pt0 _ _ _ _ _⟩ e3⟩
        · exact ⟨reg K, reg I, _, _, cn', cd', cr', _, (N, D, R), _, (hReg.1 K hK).1, (hReg.1 I hI).1, nq, lw_at hReg hK, lw_at hReg hI, e1, up_s _ _ _, fun i h => up_n _ _ h, e2, rel_put hReg hRel hK ⟨1, lw_pt1 e0 _ _ _ _ _ e3 e4 e5⟩ e6⟩
    · refine Or.inr ⟨reg K, (-1, (P (reg K)).1, (P (reg K)).2.1, (P (reg K)).2.2.1, (P (reg K)).2.2.2.1, (P (reg K)).2.2.2.2.1), md, cn, cd, cr, cnt, (N0, D0, R0), P, (hReg.1 K hK).1, lw_at hReg hK, fun h => absurd h (rg_bad b3), ?_, rfl, fun _ _ => rfl, ?_, hRel⟩
      · unfold mf_Desk_root; rw [(rg_in F hK).1, sd_b1_s, if_neg z1, b3, sd_b1_s, if_pos rfl]
      · unfold mf_Model_root; rw [(rg_in F hK).2, sd_b1_s, if_neg z1, b4, sd_b1_s, if_pos rfl]
  · obtain ⟨x, hx, hw, -⟩ := rg_some F hReg i
    refine Or.inr ⟨x, (-1, (P x).1, (P x).2.1, (P x).2.2.1, (P x).2.2.2.1, (P x).2.2.2.2.1), md, cn, cd, cr, cnt, (N0, D0, R0), P, hx, fun h => absurd h (rg_bad b1), hw, ?_, rfl, fun _ _ => rfl, ?_, hRel⟩
    · unfold mf_Desk_root; rw [b1, sd_b1_s, if_pos rfl]
    · unfold mf_Model_root; rw [b2, sd_b1_s, if_pos rfl]
theorem rk_noC {op k i j : Int32} (h : op < 0 ∨ 2 < op ∨ mf_Desk_isRegister F k = some 0 ∨ mf_Desk_isRegister F i = some 0 ∨ mf_Desk_isRegister F j = some 0) (dk dn xk xn yk yn : Int32) (dT dB dR xT xB xR yT yB yR : Nat → Int64) (ds os : Nat) : mf_Desk_reckon F op k i j cq dk dn dT dB dR xk xn xT xB xR yk yn yT yB yR ds os = some (-1, ds, cq, dk, dn, dT, dB, dR) := by
  have z1 : ¬ (1 : Int32) = 0 := by decide
  unfold mf_Desk_reckon
  by_cases c1 : op < 0
  · rw [if_pos c1]
  · rw [if_neg c1]
    by_cases c2 : 2 < op
    · rw [if_pos c2]
    · rw [if_neg c2]
      rcases rg2 F k with ⟨k1, -⟩ | ⟨k1, -⟩
      · rw [k1, sd_b1_s, if_neg z1]
        rcases rg2 F i with ⟨i1, -⟩ | ⟨i1, -⟩
        · rw [i1, sd_b1_s, if_neg z1]
          rcases rg2 F j with ⟨j1, -⟩ | ⟨j1, -⟩
          · exfalso
            rcases h with h | h | h | h | h
            · exact c1 h
            · exact c2 h
            · rw [k1] at h; exact z1 (Option.some.inj h)
            · rw [i1] at h; exact z1 (Option.some.inj h)
            · rw [j1] at h; exact z1 (Option.some.inj h)
          · rw [j1, sd_b1_s, if_pos rfl]
        · rw [i1, sd_b1_s, if_pos rfl]
      · rw [k1, sd_b1_s, if_pos rfl]
theorem rk_noM {op k i j : Int32} (h : op < 0 ∨ 2 < op ∨ mf_Model_is F k = some 0 ∨ mf_Model_is F i = some 0 ∨ mf_Model_is F j = some 0) (md o1 o2 o3 : Int32) (N0 D0 R0 : Nat → Int64) : mf_Model_reckon F op k i j md o1 o2 o3 cn cd cr cnt N0 D0 R0 = some (-1, md, cn, cd, cr, cnt, N0, D0, R0) := by
  have z1 : ¬ (1 : Int32) = 0 := by decide
  unfold mf_Model_reckon
  rcases rg2 F k with ⟨-, k1⟩ | ⟨-, k1⟩
  · rw [k1, sd_b1_s, if_neg z1]
    rcases rg2 F i with ⟨-, i1⟩ | ⟨-, i1⟩
    · rw [i1, sd_b1_s, if_neg z1]
      rcases rg2 F j with ⟨-, j1⟩ | ⟨-, j1⟩
      · rw [j1, sd_b1_s, if_neg z1]
        by_cases c1 : op < 0
        · rw [if_pos c1]
        · rw [if_neg c1]
          by_cases c2 : op ≤ (2 : Int32)
          · exfalso
            rcases h with h | h | h | h | h
            · exact c1 h
            · have := ni_lt.mp h; have := ni_le.mp c2; omega
            · rw [k1] at h; exact z1 (Option.some.inj h)
            · rw [i1] at h; exact z1 (Option.some.inj h)
            · rw [j1] at h; exact z1 (Option.some.inj h)
          · rw [if_neg c2]
      · rw [j1, sd_b1_s, if_pos rfl]
    · rw [i1, sd_b1_s, if_pos rfl]
  · rw [k1, sd_b1_s, if_pos rfl]
theorem st_reckonG (hF : 18446744073709551616 ≤ F) (hReg : lw_reg reg iv dd sa cq) (hRel : lw_rel reg P cnt cn cd cr) (op k md o1 o2 o3 : Int32) {I J : Nat} (hI : I < 8) (hJ : J < 8) (N0 D0 R0 : Nat → Int64) :
    ∃ o res md' cn' cd' cr' cnt' oM P' dd2 reg', (sd_ix k 8 = true → cq k.toNatClampNeg = some (sa o 0)) ∧ mf_Desk_reckon F op k (nI I) (nI J) cq ((P dd).1) ((P dd).2.1) ((P dd).2.2.1) ((P dd).2.2.2.1) ((P dd).2.2.2.2.1) ((P (reg I)).1) ((P (reg I)).2.1) ((P (reg I)).2.2.1) ((P (reg I)).2.2.2.1) ((P (reg I)).2.2.2.2.1) ((P (reg J)).1) ((P (reg J)).2.1) ((P (reg J)).2.2.1) ((P (reg J)).2.2.2.1) ((P (reg J)).2.2.2.2.1) (sa dd 0) (sa o 0) = some res ∧ res.2.1 = sa dd2 0 ∧ P' dd = (res.2.2.2.1, res.2.2.2.2.1, res.2.2.2.2.2.1, res.2.2.2.2.2.2.1, res.2.2.2.2.2.2.2, (P dd).2.2.2.2.2.1, (P dd).2.2.2.2.2.2) ∧ (∀ i, i ≠ dd → P' i = P i) ∧ mf_Model_reckon F op k (nI I) (nI J) md o1 o2 o3 cn cd cr cnt N0 D0 R0 = some (res.1, md', cn', cd', cr', cnt', oM) ∧ lw_reg reg' iv dd2 sa res.2.2.1 ∧ lw_rel reg' P' cnt' cn' cd' cr' := by
  by_cases c1 : op < 0
  · obtain ⟨o, -, ho, -⟩ := rg_some F hReg k
    exact ⟨o, _, md, cn, cd, cr, cnt, (N0, D0, R0), P, dd, reg, ho, rk_noC (Or.inl c1) _ _ _ _ _ _ _ _ _ _ _ _ _ _ _ _ _, rfl, rfl, fun _ _ => rfl, rk_noM (Or.inl c1) _ _ _ _ _ _ _, hReg, hRel⟩
  · by_cases c2 : 2 < op
    · obtain ⟨o, -, ho, -⟩ := rg_some F hReg k
      exact ⟨o, _, md, cn, cd, cr, cnt, (N0, D0, R0), P, dd, reg, ho, rk_noC (Or.inr (Or.inl c2)) _ _ _ _ _ _ _ _ _ _ _ _ _ _ _ _ _, rfl, rfl, fun _ _ => rfl, rk_noM (Or.inr (Or.inl c2)) _ _ _ _ _ _ _, hReg, hRel⟩
    · obtain ⟨n, hn, rfl⟩ := nI_of2 (M := 2) (n := 2) rfl c1 (by rw [ni_le]; rw [ni_lt] at c2; omega)
      rcases rg_or F k with ⟨K, hK, rfl⟩ | ⟨b1, b2⟩
      · obtain ⟨c, hs, hk⟩ := hRel I hI
        obtain ⟨a1, a2, a3, a4, a5, a6⟩ := id hs
        obtain ⟨c', hs', hk'⟩ := hRel J hJ
        obtain ⟨b1, b2, b3, b4, b5, b6⟩ := id hs'
        have e1 := dk_reckon hF hn hK hI hJ cq ((P dd).1) ((P dd).2.1) ((P (reg I)).1) ((P (reg J)).1) ((P dd).2.2.1) ((P dd).2.2.2.1) ((P dd).2.2.2.2.1) _ _ _ _ _ _ (sa dd 0) (sa (reg K) 0) a2 b2
        have e2 := mm_reckon hF hn hK hI hJ md o1 o2 o3 cnt cn cd cr N0 D0 R0 _ _ _ _ _ _ a2 b2 a3 b3 a4 a5 a6 b4 b5 b6
        cases hso : tm_reckon n c ((P (reg I)).2.2.1) ((P (reg I)).2.2.2.1) ((P (reg I)).2.2.2.2.1) c' ((P (reg J)).2.2.1) ((P (reg J)).2.2.2.1) ((P (reg J)).2.2.2.2.1) with
        | none =>
          rw [hso] at e1 e2
          obtain ⟨n1, T1, B1, R1, e1⟩ := e1
          obtain ⟨n2, N2, D2, R2, e2⟩ := e2
          exact ⟨reg K, _, n2, cn, cd, cr, cnt, (N2, D2, R2), _, dd, reg, lw_at hReg hK, by rw [a1, b1]; exact e1, rfl, up_s _ _ _, fun i h => up_n _ _ h, e2, hReg, rel_keep hRel (fun J hJ => up_n _ _ (hReg.1 J hJ).2.2.1)⟩
        | some s =>
          rw [hso] at e1 e2
          obtain ⟨T1, B1, R1, e1, e3⟩ := e1
          obtain ⟨cn', cd', cr', N2, D2, R2, e2, e4, e5, e6, e7⟩ := e2
          have hok := tm_reckon_ok a2 b2 hso
          obtain ⟨g1, g2⟩ := rel_swap (P' := va_up P dd (0, nI s.1, T1, B1, R1, (P dd).2.2.2.2.2.1, (P dd).2.2.2.2.2.2)) (v := nI s.1) hReg hRel hK ⟨s.1, by rw [up_s]; exact lw_ptS hok e3 _ _ e4 e5 e6⟩ (fun J hJ => up_n _ _ (hReg.1 J hJ).2.2.1) e7
          exact ⟨reg K, _, _, cn', cd', cr', _, (N2, D2, R2), _, reg K, _, lw_at hReg hK, by rw [a1, b1]; exact e1, rfl, up_s _ _ _, fun i h => up_n _ _ h, e2, g2, g1⟩
      · exact ⟨reg 0, _, md, cn, cd, cr, cnt, (N0, D0, R0), P, dd, reg, fun h => absurd h (rg_bad b1), rk_noC (Or.inr (Or.inr (Or.inl b1))) _ _ _ _ _ _ _ _ _ _ _ _ _ _ _ _ _, rfl, rfl, fun _ _ => rfl, rk_noM (Or.inr (Or.inr (Or.inl b2))) _ _ _ _ _ _ _, hReg, hRel⟩
theorem st_reckon (hF : 18446744073709551616 ≤ F) (hReg : lw_reg reg iv dd sa cq) (hRel : lw_rel reg P cnt cn cd cr) (op k i j md o1 o2 o3 : Int32) (N0 D0 R0 : Nat → Int64) :
    (∃ x y o res md' cn' cd' cr' cnt' oM P' dd2 reg', x < 10 ∧ y < 10 ∧ ¬ dd = x ∧ ¬ dd = y ∧ ¬ x = y ∧ (sd_ix k 8 = true → cq k.toNatClampNeg = some (sa o 0)) ∧ (sd_ix i 8 = true → cq i.toNatClampNeg = some (sa x 0)) ∧ (sd_ix j 8 = true → cq j.toNatClampNeg = some (sa y 0)) ∧ mf_Desk_reckon F op k i j cq ((P dd).1) ((P dd).2.1) ((P dd).2.2.1) ((P dd).2.2.2.1) ((P dd).2.2.2.2.1) ((P x).1) ((P x).2.1) ((P x).2.2.1) ((P x).2.2.2.1) ((P x).2.2.2.2.1) ((P y).1) ((P y).2.1) ((P y).2.2.1) ((P y).2.2.2.1) ((P y).2.2.2.2.1) (sa dd 0) (sa o 0) = some res ∧ res.2.1 = sa dd2 0 ∧ P' dd = (res.2.2.2.1, res.2.2.2.2.1, res.2.2.2.2.2.1, res.2.2.2.2.2.2.1, res.2.2.2.2.2.2.2, (P dd).2.2.2.2.2.1, (P dd).2.2.2.2.2.2) ∧ (∀ i, i ≠ dd → P' i = P i) ∧ mf_Model_reckon F op k i j md o1 o2 o3 cn cd cr cnt N0 D0 R0 = some (res.1, md', cn', cd', cr', cnt', oM) ∧ lw_reg reg' iv dd2 sa res.2.2.1 ∧ lw_rel reg' P' cnt' cn' cd' cr') ∨
    (∃ x o res md' cn' cd' cr' cnt' oM P' dd2 reg', x < 10 ∧ ¬ dd = x ∧ (sd_ix k 8 = true → cq k.toNatClampNeg = some (sa o 0)) ∧ (sd_ix i 8 = true → cq i.toNatClampNeg = some (sa x 0)) ∧ (sd_ix j 8 = true → cq j.toNatClampNeg = some (sa x 0)) ∧ mf_Desk_reckon F op k i j cq ((P dd).1) ((P dd).2.1) ((P dd).2.2.1) ((P dd).2.2.2.1) ((P dd).2.2.2.2.1) ((P x).1) ((P x).2.1) ((P x).2.2.1) ((P x).2.2.2.1) ((P x).2.2.2.2.1) ((P x).1) ((P x).2.1) ((P x).2.2.1) ((P x).2.2.2.1) ((P x).2.2.2.2.1) (sa dd 0) (sa o 0) = some res ∧ res.2.1 = sa dd2 0 ∧ P' dd = (res.2.2.2.1, res.2.2.2.2.1, res.2.2.2.2.2.1, res.2.2.2.2.2.2.1, res.2.2.2.2.2.2.2, (P dd).2.2.2.2.2.1, (P dd).2.2.2.2.2.2) ∧ (∀ i, i ≠ dd → P' i = P i) ∧ mf_Model_reckon F op k i j md o1 o2 o3 cn cd cr cnt N0 D0 R0 = some (res.1, md', cn', cd', cr', cnt', oM) ∧ lw_reg reg' iv dd2 sa res.2.2.1 ∧ lw_rel reg' P' cnt' cn' cd' cr') := by
  rcases rg_or F i with ⟨I, hI, rfl⟩ | ⟨i1, i2⟩
  · rcases rg_or F j with ⟨J, hJ, rfl⟩ | ⟨j1, j2⟩
    · obtain ⟨o, res, md', cn', cd', cr', cnt', oM, P', dd2, reg', h1, h2, h3, h4, h5, h6, h7, h8⟩ := st_reckonG hF hReg hRel op k md o1 o2 o3 hI hJ N0 D0 R0
      by_cases q : I = J
      · subst q
        exact Or.inr ⟨reg I, o, res, md', cn', cd', cr', cnt', oM, P', dd2, reg', (hReg.1 I hI).1, fun z => (hReg.1 I hI).2.2.1 z.symm, h1, lw_at hReg hI, lw_at hReg hI, h2, h3, h4, h5, h6, h7, h8⟩
      · exact Or.inl ⟨reg I, reg J, o, res, md', cn', cd', cr', cnt', oM, P', dd2, reg', (hReg.1 I hI).1, (hReg.1 J hJ).1, fun z => (hReg.1 I hI).2.2.1 z.symm, fun z => (hReg.1 J hJ).2.2.1 z.symm, fun z => q (hReg.2.1 I J hI hJ z), h1, lw_at hReg hI, lw_at hReg hJ, h2, h3, h4, h5, h6, h7, h8⟩
    · obtain ⟨o, -, ho, -⟩ := rg_some F hReg k
      exact Or.inr ⟨reg I, o, _, md, cn, cd, cr, cnt, (N0, D0, R0), P, dd, reg, (hReg.1 I hI).1, fun z => (hReg.1 I hI).2.2.1 z.symm, ho, lw_at hReg hI, fun h => absurd h (rg_bad j1), rk_noC (Or.inr (Or.inr (Or.inr (Or.inr j1)))) _ _ _ _ _ _ _ _ _ _ _ _ _ _ _ _ _, rfl, rfl, fun _ _ => rfl, rk_noM (Or.inr (Or.inr (Or.inr (Or.inr j2)))) _ _ _ _ _ _ _, hReg, hRel⟩
  · obtain ⟨o, -, ho, -⟩ := rg_some F hReg k
    obtain ⟨x, hx, hw, hxd, -⟩ := rg_some F hReg j
    exact Or.inr ⟨x, o, _, md, cn, cd, cr, cnt, (N0, D0, R0), P, dd, reg, hx, fun z => hxd z.symm, ho, fun h => absurd h (rg_bad i1), hw, rk_noC (Or.inr (Or.inr (Or.inr (Or.inl i1)))) _ _ _ _ _ _ _ _ _ _ _ _ _ _ _ _ _, rfl, rfl, fun _ _ => rfl, rk_noM (Or.inr (Or.inr (Or.inr (Or.inl i2)))) _ _ _ _ _ _ _, hReg, hRel⟩
theorem dv_noC {k i j : Int32} (h : mf_Desk_isRegister F k = some 0 ∨ mf_Desk_isRegister F i = some 0 ∨ mf_Desk_isRegister F j = some 0) (dk dn jk jn xk xn yk yn : Int32) (dT dB dR jT jB jR xT xB xR yT yB yR : Nat → Int64) (ds os : Nat) : mf_Desk_divide F k i j cq dk dn dT dB dR jk jn jT jB jR xk xn xT xB xR yk yn yT yB yR ds os = some (-1, ds, cq, dk, dn, dT, dB, dR, jk, jn, jT, jB, jR) := by
  have z1 : ¬ (1 : Int32) = 0 := by decide
  unfold mf_Desk_divide
  rcases rg2 F k with ⟨k1, -⟩ | ⟨k1, -⟩
  · rw [k1, sd_b1_s, if_neg z1]
    rcases rg2 F i with ⟨i1, -⟩ | ⟨i1, -⟩
    · rw [i1, sd_b1_s, if_neg z1]
      rcases rg2 F j with ⟨j1, -⟩ | ⟨j1, -⟩
      · exfalso
        rcases h with h | h | h
        · rw [k1] at h; exact z1 (Option.some.inj h)
        · rw [i1] at h; exact z1 (Option.some.inj h)
        · rw [j1] at h; exact z1 (Option.some.inj h)
      · rw [j1, sd_b1_s, if_pos rfl]
    · rw [i1, sd_b1_s, if_pos rfl]
  · rw [k1, sd_b1_s, if_pos rfl]
theorem dv_noM {k i j : Int32} (h : mf_Model_is F k = some 0 ∨ mf_Model_is F i = some 0 ∨ mf_Model_is F j = some 0) (md o1 o2 o3 : Int32) (N0 D0 R0 : Nat → Int64) : mf_Model_divide F k i j md o1 o2 o3 cn cd cr cnt N0 D0 R0 = some (-1, md, cn, cd, cr, cnt, N0, D0, R0) := by
  have z1 : ¬ (1 : Int32) = 0 := by decide
  unfold mf_Model_divide
  rcases rg2 F k with ⟨-, k1⟩ | ⟨-, k1⟩
  · rw [k1, sd_b1_s, if_neg z1]
    rcases rg2 F i with ⟨-, i1⟩ | ⟨-, i1⟩
    · rw [i1, sd_b1_s, if_neg z1]
      rcases rg2 F j with ⟨-, j1⟩ | ⟨-, j1⟩
      · exfalso
        rcases h with h | h | h
        · rw [k1] at h; exact z1 (Option.some.inj h)
        · rw [i1] at h; exact z1 (Option.some.inj h)
        · rw [j1] at h; exact z1 (Option.some.inj h)
      · rw [j1, sd_b1_s, if_pos rfl]
    · rw [i1, sd_b1_s, if_pos rfl]
  · rw [k1, sd_b1_s, if_pos rfl]
theorem st_divideG (hF : 18446744073709551616 ≤ F) (hReg : lw_reg reg iv dd sa cq) (hRel : lw_rel reg P cnt cn cd cr) (k md o1 o2 o3 : Int32) {I J : Nat} (hI : I < 8) (hJ : J < 8) (N0 D0 R0 : Nat → Int64) :
    ∃ o res md' cn' cd' cr' cnt' oM P' dd2 reg', (sd_ix k 8 = true → cq k.toNatClampNeg = some (sa o 0)) ∧ mf_Desk_divide F k (nI I) (nI J) cq ((P dd).1) ((P dd).2.1) ((P dd).2.2.1) ((P dd).2.2.2.1) ((P dd).2.2.2.2.1) ((P iv).1) ((P iv).2.1) ((P iv).2.2.1) ((P iv).2.2.2.1) ((P iv).2.2.2.2.1) ((P (reg I)).1) ((P (reg I)).2.1) ((P (reg I)).2.2.1) ((P (reg I)).2.2.2.1) ((P (reg I)).2.2.2.2.1) ((P (reg J)).1) ((P (reg J)).2.1) ((P (reg J)).2.2.1) ((P (reg J)).2.2.2.1) ((P (reg J)).2.2.2.2.1) (sa dd 0) (sa o 0) = some res ∧ res.2.1 = sa dd2 0 ∧ P' dd = (res.2.2.2.1, res.2.2.2.2.1, res.2.2.2.2.2.1, res.2.2.2.2.2.2.1, res.2.2.2.2.2.2.2.1, (P dd).2.2.2.2.2.1, (P dd).2.2.2.2.2.2) ∧ P' iv = (res.2.2.2.2.2.2.2.2.1, res.2.2.2.2.2.2.2.2.2.1, res.2.2.2.2.2.2.2.2.2.2.1, res.2.2.2.2.2.2.2.2.2.2.2.1, res.2.2.2.2.2.2.2.2.2.2.2.2, (P iv).2.2.2.2.2.1, (P iv).2.2.2.2.2.2) ∧ (∀ i, i ≠ dd → i ≠ iv → P' i = P i) ∧ mf_Model_divide F k (nI I) (nI J) md o1 o2 o3 cn cd cr cnt N0 D0 R0 = some (res.1, md', cn', cd', cr', cnt', oM) ∧ lw_reg reg' iv dd2 sa res.2.2.1 ∧ lw_rel reg' P' cnt' cn' cd' cr' := by
  have ndi := hReg.2.2.2.2
  rcases rg_or F k with ⟨K, hK, rfl⟩ | ⟨b1, b2⟩
  · obtain ⟨c, hs, hk⟩ := hRel I hI
    obtain ⟨a1, a2, a3, a4, a5, a6⟩ := id hs
    obtain ⟨c', hs', hk'⟩ := hRel J hJ
    obtain ⟨b1, b2, b3, b4, b5, b6⟩ := id hs'
    obtain ⟨e1, e1'⟩ := dk_divide hF hK hI hJ cq ((P dd).1) ((P dd).2.1) ((P (reg I)).1) ((P (reg J)).1) ((P iv).1) ((P iv).2.1) ((P dd).2.2.1) ((P dd).2.2.2.1) ((P dd).2.2.2.2.1) ((P iv).2.2.1) ((P iv).2.2.2.1) ((P iv).2.2.2.2.1) _ _ _ _ _ _ (sa dd 0) (sa (reg K) 0) a2 b2
    obtain ⟨e2, e2'⟩ := mm_divide hF hK hI hJ md o1 o2 o3 cnt cn cd cr N0 D0 R0 _ _ _ _ _ _ a2 b2 a3 b3 a4 a5 a6 b4 b5 b6
    by_cases m1 : c' = 1
    · have e1 := e1 m1
      have e2 := e2 m1
      cases hso : tm_divide c ((P (reg I)).2.2.1) ((P (reg I)).2.2.2.1) ((P (reg I)).2.2.2.2.1) ((P (reg J)).2.2.1 0) ((P (reg J)).2.2.2.1 0) ((P (reg J)).2.2.2.2.1 0) with
      | none =>
        rw [hso] at e1 e2
        obtain ⟨k1, n1, T1, B1, R1, k2, n2, T2, B2, R2, e1⟩ := e1
        obtain ⟨n3, N3, D3, R3, e2⟩ := e2
        refine ⟨reg K, _, n3, cn, cd, cr, cnt, (N3, D3, R3), va_up (va_up P dd (k1, n1, T1, B1, R1, (P dd).2.2.2.2.2.1, (P dd).2.2.2.2.2.2)) iv (k2, n2, T2, B2, R2, (P iv).2.2.2.2.2.1, (P iv).2.2.2.2.2.2), dd, reg, lw_at hReg hK, by rw [a1, b1]; exact e1, rfl, (up_n _ _ ndi).trans (up_s _ _ _), up_s _ _ _, fun i h h2 => (up_n _ _ h2).trans (up_n _ _ h), e2, hReg, rel_keep hRel (fun J hJ => (up_n _ _ (hReg.1 J hJ).2.2.2).trans (up_n _ _ (hReg.1 J hJ).2.2.1))⟩
      | some s =>
        rw [hso] at e1 e2
        obtain ⟨T1, B1, R1, k2, n2, T2, B2, R2, e1, e3⟩ := e1
        obtain ⟨cn', cd', cr', N3, D3, R3, e2, e4, e5, e6, e7⟩ := e2
        have hok := tm_divide_ok a2 (b2.2.1 0 (by omega)) hso
        obtain ⟨g1, g2⟩ := rel_swap (P' := va_up (va_up P dd (0, nI s.1, T1, B1, R1, (P dd).2.2.2.2.2.1, (P dd).2.2.2.2.2.2)) iv (k2, n2, T2, B2, R2, (P iv).2.2.2.2.2.1, (P iv).2.2.2.2.2.2)) (v := nI s.1) hReg hRel hK ⟨s.1, by rw [up_n _ _ ndi, up_s]; exact lw_ptS hok e3 _ _ e4 e5 e6⟩ (fun J hJ => (up_n _ _ (hReg.1 J hJ).2.2.2).trans (up_n _ _ (hReg.1 J hJ).2.2.1)) e7
        exact ⟨reg K, _, _, cn', cd', cr', _, (N3, D3, R3), _, reg K, _, lw_at hReg hK, by rw [a1, b1]; exact e1, rfl, (up_n _ _ ndi).trans (up_s _ _ _), up_s _ _ _, fun i h h2 => (up_n _ _ h2).trans (up_n _ _ h), e2, g2, g1⟩
    · exact ⟨reg K, _, md, cn, cd, cr, cnt, (N0, D0, R0), P, dd, reg, lw_at hReg hK, by rw [a1, b1]; exact e1' m1, rfl, rfl, rfl, fun _ _ _ => rfl, e2' m1, hReg, hRel⟩
  · exact ⟨reg 0, _, md, cn, cd, cr, cnt, (N0, D0, R0), P, dd, reg, fun h => absurd h (rg_bad b1), dv_noC (Or.inl b1) _ _ _ _ _ _ _ _ _ _ _ _ _ _ _ _ _ _ _ _ _ _, rfl, rfl, rfl, fun _ _ _ => rfl, dv_noM (Or.inl b2) _ _ _ _ _ _ _, hReg, hRel⟩
theorem st_divide (hF : 18446744073709551616 ≤ F) (hReg : lw_reg reg iv dd sa cq) (hRel : lw_rel reg P cnt cn cd cr) (k i j md o1 o2 o3 : Int32) (N0 D0 R0 : Nat → Int64) :
    (∃ x y o res md' cn' cd' cr' cnt' oM P' dd2 reg', x < 10 ∧ y < 10 ∧ ¬ dd = x ∧ ¬ dd = y ∧ ¬ iv = x ∧ ¬ iv = y ∧ ¬ x = y ∧ (sd_ix k 8 = true → cq k.toNatClampNeg = some (sa o 0)) ∧ (sd_ix i 8 = true → cq i.toNatClampNeg = some (sa x 0)) ∧ (sd_ix j 8 = true → cq j.toNatClampNeg = some (sa y 0)) ∧ mf_Desk_divide F k i j cq ((P dd).1) ((P dd).2.1) ((P dd).2.2.1) ((P dd).2.2.2.1) ((P dd).2.2.2.2.1) ((P iv).1) ((P iv).2.1) ((P iv).2.2.1) ((P iv).2.2.2.1) ((P iv).2.2.2.2.1) ((P x).1) ((P x).2.1) ((P x).2.2.1) ((P x).2.2.2.1) ((P x).2.2.2.2.1) ((P y).1) ((P y).2.1) ((P y).2.2.1) ((P y).2.2.2.1) ((P y).2.2.2.2.1) (sa dd 0) (sa o 0) = some res ∧ res.2.1 = sa dd2 0 ∧ P' dd = (res.2.2.2.1, res.2.2.2.2.1, res.2.2.2.2.2.1, res.2.2.2.2.2.2.1, res.2.2.2.2.2.2.2.1, (P dd).2.2.2.2.2.1, (P dd).2.2.2.2.2.2) ∧ P' iv = (res.2.2.2.2.2.2.2.2.1, res.2.2.2.2.2.2.2.2.2.1, res.2.2.2.2.2.2.2.2.2.2.1, res.2.2.2.2.2.2.2.2.2.2.2.1, res.2.2.2.2.2.2.2.2.2.2.2.2, (P iv).2.2.2.2.2.1, (P iv).2.2.2.2.2.2) ∧ (∀ i, i ≠ dd → i ≠ iv → P' i = P i) ∧ mf_Model_divide F k i j md o1 o2 o3 cn cd cr cnt N0 D0 R0 = some (res.1, md', cn', cd', cr', cnt', oM) ∧ lw_reg reg' iv dd2 sa res.2.2.1 ∧ lw_rel reg' P' cnt' cn' cd' cr') ∨
    (∃ x o res md' cn' cd' cr' cnt' oM P' dd2 reg', x < 10 ∧ ¬ dd = x ∧ ¬ iv = x ∧ (sd_ix k 8 = true → cq k.toNatClampNeg = some (sa o 0)) ∧ (sd_ix i 8 = true → cq i.toNatClampNeg = some (sa x 0)) ∧ (sd_ix j 8 = true → cq j.toNatClampNeg = some (sa x 0)) ∧ mf_Desk_divide F k i j cq ((P dd).1) ((P dd).2.1) ((P dd).2.2.1) ((P dd).2.2.2.1) ((P dd).2.2.2.2.1) ((P iv).1) ((P iv).2.1) ((P iv).2.2.1) ((P iv).2.2.2.1) ((P iv).2.2.2.2.1) ((P x).1) ((P x).2.1) ((P x).2.2.1) ((P x).2.2.2.1) ((P x).2.2.2.2.1) ((P x).1) ((P x).2.1) ((P x).2.2.1) ((P x).2.2.2.1) ((P x).2.2.2.2.1) (sa dd 0) (sa o 0) = some res ∧ res.2.1 = sa dd2 0 ∧ P' dd = (res.2.2.2.1, res.2.2.2.2.1, res.2.2.2.2.2.1, res.2.2.2.2.2.2.1, res.2.2.2.2.2.2.2.1, (P dd).2.2.2.2.2.1, (P dd).2.2.2.2.2.2) ∧ P' iv = (res.2.2.2.2.2.2.2.2.1, res.2.2.2.2.2.2.2.2.2.1, res.2.2.2.2.2.2.2.2.2.2.1, res.2.2.2.2.2.2.2.2.2.2.2.1, res.2.2.2.2.2.2.2.2.2.2.2.2, (P iv).2.2.2.2.2.1, (P iv).2.2.2.2.2.2) ∧ (∀ i, i ≠ dd → i ≠ iv → P' i = P i) ∧ mf_Model_divide F k i j md o1 o2 o3 cn cd cr cnt N0 D0 R0 = some (res.1, md', cn', cd', cr', cnt', oM) ∧ lw_reg reg' iv dd2 sa res.2.2.1 ∧ lw_rel reg' P' cnt' cn' cd' cr') := by
  rcases rg_or F i with ⟨I, hI, rfl⟩ | ⟨i1, i2⟩
  · rcases rg_or F j with ⟨J, hJ, rfl⟩ | ⟨j1, j2⟩
    · obtain ⟨o, res, md', cn', cd', cr', cnt', oM, P', dd2, reg', h1, h2, h3, h4, h4b, h5, h6, h7, h8⟩ := st_divideG hF hReg hRel k md o1 o2 o3 hI hJ N0 D0 R0
      by_cases q : I = J
      · subst q
        exact Or.inr ⟨reg I, o, res, md', cn', cd', cr', cnt', oM, P', dd2, reg', (hReg.1 I hI).1, fun z => (hReg.1 I hI).2.2.1 z.symm, fun z => (hReg.1 I hI).2.2.2 z.symm, h1, lw_at hReg hI, lw_at hReg hI, h2, h3, h4, h4b, h5, h6, h7, h8⟩
      · exact Or.inl ⟨reg I, reg J, o, res, md', cn', cd', cr', cnt', oM, P', dd2, reg', (hReg.1 I hI).1, (hReg.1 J hJ).1, fun z => (hReg.1 I hI).2.2.1 z.symm, fun z => (hReg.1 J hJ).2.2.1 z.symm, fun z => (hReg.1 I hI).2.2.2 z.symm, fun z => (hReg.1 J hJ).2.2.2 z.symm, fun z => q (hReg.2.1 I J hI hJ z), h1, lw_at hReg hI, lw_at hReg hJ, h2, h3, h4, h4b, h5, h6, h7, h8⟩
    · obtain ⟨o, -, ho, -⟩ := rg_some F hReg k
      exact Or.inr ⟨reg I, o, _, md, cn, cd, cr, cnt, (N0, D0, R0), P, dd, reg, (hReg.1 I hI).1, fun z => (hReg.1 I hI).2.2.1 z.symm, fun z => (hReg.1 I hI).2.2.2 z.symm, ho, lw_at hReg hI, fun h => absurd h (rg_bad j1), dv_noC (Or.inr (Or.inr j1)) _ _ _ _ _ _ _ _ _ _ _ _ _ _ _ _ _ _ _ _ _ _, rfl, rfl, rfl, fun _ _ _ => rfl, dv_noM (Or.inr (Or.inr j2)) _ _ _ _ _ _ _, hReg, hRel⟩
  · obtain ⟨o, -, ho, -⟩ := rg_some F hReg k
    obtain ⟨x, hx, hw, hxd, hxi⟩ := rg_some F hReg j
    exact Or.inr ⟨x, o, _, md, cn, cd, cr, cnt, (N0, D0, R0), P, dd, reg, hx, fun z => hxd z.symm, fun z => hxi z.symm, ho, fun h => absurd h (rg_bad i1), hw, dv_noC (Or.inr (Or.inl i1)) _ _ _ _ _ _ _ _ _ _ _ _ _ _ _ _ _ _ _ _ _ _, rfl, rfl, rfl, fun _ _ _ => rfl, dv_noM (Or.inr (Or.inl i2)) _ _ _ _ _ _ _, hReg, hRel⟩
end STR
