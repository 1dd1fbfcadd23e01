/-! one call on each side: the same answer, and what holds between the calls holds again -/
section STP
variable {F : Nat} {reg : Nat → Nat} {iv dd : Nat} {sa : Nat → Nat → Nat} {cq : Nat → Option Nat} {P : Nat → Pt} {cnt : Nat → Int32} {cn cd cr : Nat → Int64}
theorem st_floor (hF : 18446744073709551616 ≤ F) (hReg : lw_reg reg iv dd sa cq) (hRel : lw_rel reg P cnt cn cd cr) (v : Int32) (fR fQ : Int64) (cfr cft cfs : Nat → Int32) (o0 o1 o2 o3 : Int32) (ro re sq pt pl mi lo hi on tw tA tB : Nat → Int64) :
    ∃ x res o P', x < 10 ∧ (sd_ix v 8 = true → cq v.toNatClampNeg = some (sa x 0)) ∧ mf_Desk_floor F v cq fR fQ cfr cft cfs ((P x).1) ((P x).2.1) ((P x).2.2.1) ((P x).2.2.2.1) ((P x).2.2.2.2.1) ((P x).2.2.2.2.2.1) ((P x).2.2.2.2.2.2) = some res ∧ P' x = (res.2.2.2.2.2.2.1, (P x).2.1, (P x).2.2.1, (P x).2.2.2.1, (P x).2.2.2.2.1, res.2.2.2.2.2.2.2.1, res.2.2.2.2.2.2.2.2) ∧ (∀ i, i ≠ x → P' i = P i) ∧ mf_Model_floor F v o0 o1 o2 o3 cn cd cr cnt ro re sq pt pl mi lo hi on tw tA tB = some (res.1, o) ∧ lw_rel reg P' cnt cn cd cr := by
  rcases rg_or F v with ⟨I, hI, rfl⟩ | ⟨b1, b2⟩
  · obtain ⟨c, hs, hk⟩ := hRel I hI
    obtain ⟨a1, a2, a3, a4, a5, a6⟩ := id hs
    obtain ⟨a, f1, f2, u1, v1, s1, k', L', H', e1, e2, e3⟩ := floor_cls hF hI cq fR fQ cfr cft cfs _ _ _ _ _ _ a2 hk
    obtain ⟨a', o, e4, e5⟩ := floor_ref hF hI o0 o1 o2 o3 cnt cn cd cr _ _ _ ro re sq pt pl mi lo hi on tw tA tB a2 a3 a4 a5 a6
    obtain rfl : a' = a := fl_one e5 e3
    exact ⟨reg I, (a', f1, f2, u1, v1, s1, k', L', H'), o, _, (hReg.1 I hI).1, lw_at hReg hI, by rw [a1]; exact e1, up_s _ _ _, fun i h => up_n _ _ h, e4, rel_cache hReg hRel hI hs e2⟩
  · refine ⟨reg 0, (4611686018427387904, fR, fQ, cfr, cft, cfs, (P (reg 0)).1, (P (reg 0)).2.2.2.2.2.1, (P (reg 0)).2.2.2.2.2.2), (o2, o3, ro, re, sq, pt, pl, mi, lo, hi, on, tw, tA, tB), P, (hReg.1 0 (by omega)).1, fun h => absurd h (rg_bad b1), ?_, rfl, fun _ _ => rfl, ?_, hRel⟩
    · unfold mf_Desk_floor; rw [b1, sd_b1_s, if_pos rfl]
    · unfold mf_Model_floor; rw [b2, sd_b1_s, if_pos rfl]
theorem st_nearest (hF : 18446744073709551616 ≤ F) (hReg : lw_reg reg iv dd sa cq) (hRel : lw_rel reg P cnt cn cd cr) (v : Int32) (fR fQ : Int64) (cfr cft cfs czl czh : Nat → Int32) (o0 o1 o2 o3 : Int32) (ro re sq pt pl mi lo hi on : Nat → Int64) :
    ∃ x res o P', x < 10 ∧ (sd_ix v 8 = true → cq v.toNatClampNeg = some (sa x 0)) ∧ mf_Desk_nearest F v cq fR fQ cfr cft cfs czl czh ((P x).1) ((P x).2.1) ((P x).2.2.1) ((P x).2.2.2.1) ((P x).2.2.2.2.1) ((P x).2.2.2.2.2.1) ((P x).2.2.2.2.2.2) = some res ∧ P' x = (res.2.2.2.2.2.2.2.2.1, (P x).2.1, (P x).2.2.1, (P x).2.2.2.1, (P x).2.2.2.2.1, res.2.2.2.2.2.2.2.2.2.1, res.2.2.2.2.2.2.2.2.2.2) ∧ (∀ i, i ≠ x → P' i = P i) ∧ mf_Model_nearest F v o0 o1 o2 o3 cn cd cr cnt ro re sq pt pl mi lo hi on = some (res.1, o) ∧ lw_rel reg P' cnt cn cd cr := by
  rcases rg_or F v with ⟨I, hI, rfl⟩ | ⟨b1, b2⟩
  · obtain ⟨c, hs, hk⟩ := hRel I hI
    obtain ⟨a1, a2, a3, a4, a5, a6⟩ := id hs
    obtain ⟨a, f1, f2, u1, v1, s1, zl, zh, k', L', H', e1, e2, o, e3⟩ := nearest_both hF hI cq fR fQ cfr cft cfs czl czh _ _ _ o0 o1 o2 o3 cnt cn cd cr _ _ _ ro re sq pt pl mi lo hi on a2 hk a3 a4 a5 a6
    exact ⟨reg I, (a, f1, f2, u1, v1, s1, zl, zh, k', L', H'), o, _, (hReg.1 I hI).1, lw_at hReg hI, by rw [a1]; exact e1, up_s _ _ _, fun i h => up_n _ _ h, e3, rel_cache hReg hRel hI hs e2⟩
  · refine ⟨reg 0, (1, fR, fQ, cfr, cft, cfs, czl, czh, (P (reg 0)).1, (P (reg 0)).2.2.2.2.2.1, (P (reg 0)).2.2.2.2.2.2), (o2, o3, ro, re, sq, pt, pl, mi, lo, hi, on), P, (hReg.1 0 (by omega)).1, fun h => absurd h (rg_bad b1), ?_, rfl, fun _ _ => rfl, ?_, hRel⟩
    · unfold mf_Desk_nearest; rw [b1, sd_b1_s, if_pos rfl]
    · unfold mf_Model_nearest; rw [b2, sd_b1_s, if_pos rfl]
theorem st_partial (hF : 18446744073709551616 ≤ F) (hReg : lw_reg reg iv dd sa cq) (hRel : lw_rel reg P cnt cn cd cr) (v n : Int32) (fR fQ : Int64) (cfr cft cfs cku ckl ckq cou col coq : Nat → Int32) (o0 o1 o2 o3 : Int32) (ro re sq pt pl mi lo hi on tw tA uA tB uB qA qB : Nat → Int64) :
    ∃ x res o P', x < 10 ∧ (sd_ix v 8 = true → cq v.toNatClampNeg = some (sa x 0)) ∧ mf_Desk_partial F v n cq fR fQ cfr cft cfs cku ckl ckq cou col coq ((P x).1) ((P x).2.1) ((P x).2.2.1) ((P x).2.2.2.1) ((P x).2.2.2.2.1) ((P x).2.2.2.2.2.1) ((P x).2.2.2.2.2.2) = some res ∧ P' x = (res.2.2.2.2.2.2.2.2.2.2.2.2.1, (P x).2.1, (P x).2.2.1, (P x).2.2.2.1, (P x).2.2.2.2.1, res.2.2.2.2.2.2.2.2.2.2.2.2.2.1, res.2.2.2.2.2.2.2.2.2.2.2.2.2.2) ∧ (∀ i, i ≠ x → P' i = P i) ∧ mf_Model_partial F v n o0 o1 o2 o3 cn cd cr cnt ro re sq pt pl mi lo hi on tw tA uA tB uB qA qB = some (res.1, o) ∧ lw_rel reg P' cnt cn cd cr := by
  rcases rg_or F v with ⟨I, hI, rfl⟩ | ⟨b1, b2⟩
  · obtain ⟨c, hs, hk⟩ := hRel I hI
    obtain ⟨a1, a2, a3, a4, a5, a6⟩ := id hs
    obtain ⟨a, f1, f2, u1, v1, s1, k1, k2, k3, k4, k5, k6, k', L', H', e1, e2, o, e3⟩ := partial_both hF hI n cq fR fQ cfr cft cfs cku ckl ckq cou col coq _ _ _ o0 o1 o2 o3 cnt cn cd cr _ _ _ ro re sq pt pl mi lo hi on tw tA uA tB uB qA qB a2 hk a3 a4 a5 a6
    exact ⟨reg I, (a, f1, f2, u1, v1, s1, k1, k2, k3, k4, k5, k6, k', L', H'), o, _, (hReg.1 I hI).1, lw_at hReg hI, by rw [a1]; exact e1, up_s _ _ _, fun i h => up_n _ _ h, e3, rel_cache hReg hRel hI hs e2⟩
  · refine ⟨reg 0, (4611686018427387905, fR, fQ, cfr, cft, cfs, cku, ckl, ckq, cou, col, coq, (P (reg 0)).1, (P (reg 0)).2.2.2.2.2.1, (P (reg 0)).2.2.2.2.2.2), (o2, o3, ro, re, sq, pt, pl, mi, lo, hi, on, tw, tA, uA, tB, uB, qA, qB), P, (hReg.1 0 (by omega)).1, fun h => absurd h (rg_bad b1), ?_, rfl, fun _ _ => rfl, ?_, hRel⟩
    · unfold mf_Desk_partial; rw [b1, sd_b1_s, if_pos rfl]
    · unfold mf_Model_partial; rw [b2, sd_b1_s, if_pos rfl]
theorem st_write (hF : 18446744073709551616 ≤ F) (hReg : lw_reg reg iv dd sa cq) (hRel : lw_rel reg P cnt cn cd cr) (v n : Int32) (fR fQ : Int64) (cfr cft cfs cpd czl czh : Nat → Int32) (pkn pdn o0 oc o2 o3 : Int32) (ro re sq pt pls mi lo hi on tw tA tB : Nat → Int64) (out dg : Nat → Int32) (pk pd : Nat) :
    ∃ x res oc' s1 s2 out' o P', x < 10 ∧ (sd_ix v 8 = true → cq v.toNatClampNeg = some (sa x 0)) ∧ mf_Desk_write F v n cq fR fQ cfr cft cfs pkn pdn cpd czl czh ((P x).1) ((P x).2.1) ((P x).2.2.1) ((P x).2.2.2.1) ((P x).2.2.2.2.1) ((P x).2.2.2.2.2.1) ((P x).2.2.2.2.2.2) pk pd = some res ∧ P' x = (res.2.2.2.2.2.2.2.2.2.2.2.2.2.1, (P x).2.1, (P x).2.2.1, (P x).2.2.2.1, (P x).2.2.2.2.1, res.2.2.2.2.2.2.2.2.2.2.2.2.2.2.1, res.2.2.2.2.2.2.2.2.2.2.2.2.2.2.2) ∧ (∀ i, i ≠ x → P' i = P i) ∧ mf_Model_write F v n o0 oc o2 o3 cn cd cr cnt out ro re sq pt pls mi lo hi on tw dg tA tB = some (res.1, oc', s1, s2, out', o) ∧ wr_post pk pd pkn oc out res.2.2.2.2.2.2.1 res.2.2.2.2.2.2.2.1 res.2.2.2.2.2.2.2.2.1 oc' res.2.2.2.2.2.2.2.2.2.2.1 out' ∧ lw_rel reg P' cnt cn cd cr := by
  rcases rg_or F v with ⟨I, hI, rfl⟩ | ⟨b1, b2⟩
  · obtain ⟨c, hs, hk⟩ := hRel I hI
    obtain ⟨a1, a2, a3, a4, a5, a6⟩ := id hs
    obtain ⟨a, f1, f2, u1, v1, w1, pk', pd', pkn', pdn', cpd', zl, zh, k', L', H', e1, e2, oc', s1, s2, out', o, e3, e4⟩ := write_both hF hI n cq fR fQ cfr cft cfs cpd czl czh _ _ pkn pdn _ o0 oc o2 o3 cnt cn cd cr _ _ _ ro re sq pt pls mi lo hi on tw tA tB out dg pk pd a2 hk a3 a4 a5 a6
    exact ⟨reg I, (a, f1, f2, u1, v1, w1, pk', pd', pkn', pdn', cpd', zl, zh, k', L', H'), oc', s1, s2, out', o, _, (hReg.1 I hI).1, lw_at hReg hI, by rw [a1]; exact e1, up_s _ _ _, fun i h => up_n _ _ h, e3, e4, rel_cache hReg hRel hI hs e2⟩
  · refine ⟨reg 0, (-1, fR, fQ, cfr, cft, cfs, pk, pd, pkn, pdn, cpd, czl, czh, (P (reg 0)).1, (P (reg 0)).2.2.2.2.2.1, (P (reg 0)).2.2.2.2.2.2), oc, o2, o3, out, (ro, re, sq, pt, pls, mi, lo, hi, on, tw, dg), P, (hReg.1 0 (by omega)).1, fun h => absurd h (rg_bad b1), ?_, rfl, fun _ _ => rfl, ?_, Or.inr ⟨rfl, rfl, rfl, rfl, rfl⟩, hRel⟩
    · unfold mf_Desk_write; rw [b1, sd_b1_s, if_pos rfl]
    · unfold mf_Model_write; rw [b2, sd_b1_s, if_pos rfl]
theorem st_term (hReg : lw_reg reg iv dd sa cq) (hRel : lw_rel reg P cnt cn cd cr) (v k what o0 o1 o2 o3 : Int32) :
    ∃ x res, x < 10 ∧ (sd_ix v 8 = true → cq v.toNatClampNeg = some (sa x 0)) ∧ mf_Desk_term F v k what cq ((P x).1) ((P x).2.1) ((P x).2.2.1) ((P x).2.2.2.1) ((P x).2.2.2.2.1) = some res ∧ mf_Model_term F v k what o0 o1 o2 o3 cn cd cr cnt = some res := by
  rcases rg_or F v with ⟨I, hI, rfl⟩ | ⟨b1, b2⟩
  · obtain ⟨c, hs, hk⟩ := hRel I hI
    obtain ⟨a1, a2, a3, a4, a5, a6⟩ := id hs
    obtain ⟨r, e1, e2⟩ := term_both (F := F) hI a2.1 k what cq ((P (reg I)).1) o0 o1 o2 o3 cnt cn cd cr _ _ _ a3 a4 a5 a6
    exact ⟨reg I, r, (hReg.1 I hI).1, lw_at hReg hI, by rw [a1]; exact e1, e2⟩
  · refine ⟨reg 0, -2, (hReg.1 0 (by omega)).1, fun h => absurd h (rg_bad b1), ?_, ?_⟩
    · unfold mf_Desk_term; rw [b1, sd_b1_s, if_pos rfl]
    · unfold mf_Model_term; rw [b2, sd_b1_s, if_pos rfl]
theorem st_terms (hReg : lw_reg reg iv dd sa cq) (hRel : lw_rel reg P cnt cn cd cr) (v o0 o1 o2 o3 : Int32) :
    ∃ x res, x < 10 ∧ (sd_ix v 8 = true → cq v.toNatClampNeg = some (sa x 0)) ∧ mf_Desk_terms F v cq ((P x).1) ((P x).2.1) = some res ∧ mf_Model_terms F v o0 o1 o2 o3 cnt = some res := by
  rcases rg_or F v with ⟨I, hI, rfl⟩ | ⟨b1, b2⟩
  · obtain ⟨c, hs, hk⟩ := hRel I hI
    obtain ⟨a1, a2, a3, a4, a5, a6⟩ := id hs
    obtain ⟨e1, e2⟩ := terms_both (F := F) hI cq ((P (reg I)).1) o0 o1 o2 o3 cnt a3
    exact ⟨reg I, _, (hReg.1 I hI).1, lw_at hReg hI, by rw [a1]; exact e1, e2⟩
  · refine ⟨reg 0, -2, (hReg.1 0 (by omega)).1, fun h => absurd h (rg_bad b1), ?_, ?_⟩
    · unfold mf_Desk_terms; rw [b1, sd_b1_s, if_pos rfl, sd_b1_s]
    · unfold mf_Model_terms; rw [b2, sd_b1_s, if_pos rfl, sd_b1_s]
theorem st_same (hF : 18446744073709551616 ≤ F) (hReg : lw_reg reg iv dd sa cq) (hRel : lw_rel reg P cnt cn cd cr) (v w o0 o1 o2 o3 : Int32) :
    (∃ x y res, x < 10 ∧ y < 10 ∧ ¬ x = y ∧ (sd_ix v 8 = true → cq v.toNatClampNeg = some (sa x 0)) ∧ (sd_ix w 8 = true → cq w.toNatClampNeg = some (sa y 0)) ∧ mf_Desk_same F v w cq ((P x).1) ((P x).2.1) ((P x).2.2.1) ((P x).2.2.2.1) ((P x).2.2.2.2.1) ((P y).1) ((P y).2.1) ((P y).2.2.1) ((P y).2.2.2.1) ((P y).2.2.2.2.1) = some res ∧ mf_Model_same F v w o0 o1 o2 o3 cn cd cr cnt = some res) ∨
    (∃ x res, x < 10 ∧ (sd_ix v 8 = true → cq v.toNatClampNeg = some (sa x 0)) ∧ (sd_ix w 8 = true → cq w.toNatClampNeg = some (sa x 0)) ∧ mf_Desk_same F v w cq ((P x).1) ((P x).2.1) ((P x).2.2.1) ((P x).2.2.2.1) ((P x).2.2.2.2.1) ((P x).1) ((P x).2.1) ((P x).2.2.1) ((P x).2.2.2.1) ((P x).2.2.2.2.1) = some res ∧ mf_Model_same F v w o0 o1 o2 o3 cn cd cr cnt = some res) := by
  have z1 : ¬ (1 : Int32) = 0 := by decide
  rcases rg_or F v with ⟨I, hI, rfl⟩ | ⟨b1, b2⟩
  · rcases rg_or F w with ⟨J, hJ, rfl⟩ | ⟨b3, b4⟩
    · obtain ⟨c, hs, hk⟩ := hRel I hI
      obtain ⟨a1, a2, a3, a4, a5, a6⟩ := id hs
      obtain ⟨c', hs', hk'⟩ := hRel J hJ
      obtain ⟨b1, b2, b3, b4, b5, b6⟩ := id hs'
      obtain ⟨r, e1, e2, e3, e4⟩ := same_both hF hI hJ ((P (reg I)).1) ((P (reg J)).1) o0 o1 o2 o3 cnt cn cd cr _ _ _ _ _ _ a2.1 b2.1 a3 b3 a4 a5 a6 b4 b5 b6
      have e5 := dk_same (F := F) hI hJ cq _ _ _ _ _ _ _ _ _ _ _ e1 e3
      by_cases q : I = J
      · subst q
        exact Or.inr ⟨reg I, r, (hReg.1 I hI).1, lw_at hReg hI, lw_at hReg hI, by rw [← a1, ← b1] at e5; exact e5, e2⟩
      · exact Or.inl ⟨reg I, reg J, r, (hReg.1 I hI).1, (hReg.1 J hJ).1, fun z => q (hReg.2.1 I J hI hJ z), lw_at hReg hI, lw_at hReg hJ, by rw [a1, b1]; exact e5, e2⟩
    · refine Or.inr ⟨reg I, 0, (hReg.1 I hI).1, lw_at hReg hI, fun h => absurd h (rg_bad b3), ?_, ?_⟩
      · unfold mf_Desk_same; rw [(rg_in F hI).1, sd_b1_s, if_neg z1, b3, sd_b1_s, if_pos rfl, sd_b1_s, sd_g_t (by decide)]
      · unfold mf_Model_same; rw [(rg_in F hI).2, sd_b1_s, if_neg z1, b4, sd_b1_s, if_pos rfl]
  · obtain ⟨x, hx, hw⟩ : ∃ x, x < 10 ∧ (sd_ix w 8 = true → cq w.toNatClampNeg = some (sa x 0)) := by
      rcases rg_or F w with ⟨J, hJ, rfl⟩ | ⟨b3, b4⟩
      · exact ⟨reg J, (hReg.1 J hJ).1, lw_at hReg hJ⟩
      · exact ⟨reg 0, (hReg.1 0 (by omega)).1, fun h => absurd h (rg_bad b3)⟩
    refine Or.inr ⟨x, 0, hx, fun h => absurd h (rg_bad b1), hw, ?_, ?_⟩
    · unfold mf_Desk_same; rw [b1, sd_b1_s, if_pos rfl, sd_b1_s, sd_g_t (by decide)]
    · unfold mf_Model_same; rw [b2, sd_b1_s, if_pos rfl]
end STP
