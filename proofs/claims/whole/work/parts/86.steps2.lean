/-! one call on each side: two registers, and registers that become others -/
section STQ
variable {F : Nat} {reg : Nat → Nat} {iv dd : Nat} {sa : Nat → Nat → Nat} {cq : Nat → Option Nat} {P : Nat → Pt} {cnt : Nat → Int32} {cn cd cr : Nat → Int64}
theorem rel_cache2 (hReg : lw_reg reg iv dd sa cq) (hRel : lw_rel reg P cnt cn cd cr) {I J c c' : Nat} (hI : I < 8) (hJ : J < 8) (h : rg_same I c (P (reg I)).2.1 (P (reg I)).2.2.1 (P (reg I)).2.2.2.1 (P (reg I)).2.2.2.2.1 cnt cn cd cr) (h' : rg_same J c' (P (reg J)).2.1 (P (reg J)).2.2.1 (P (reg J)).2.2.2.1 (P (reg J)).2.2.2.2.1 cnt cn cd cr) {k' k2 : Int32} {L' H' L2 H2 : Nat → Int32} (hk : ck k' c (P (reg I)).2.2.1 (P (reg I)).2.2.2.1 (P (reg I)).2.2.2.2.1 L' H') (hk2 : ck k2 c' (P (reg J)).2.2.1 (P (reg J)).2.2.2.1 (P (reg J)).2.2.2.2.1 L2 H2) :
    lw_rel reg (va_up (va_up P (reg I) (k', (P (reg I)).2.1, (P (reg I)).2.2.1, (P (reg I)).2.2.2.1, (P (reg I)).2.2.2.2.1, L', H')) (reg J) (k2, (P (reg J)).2.1, (P (reg J)).2.2.1, (P (reg J)).2.2.2.1, (P (reg J)).2.2.2.2.1, L2, H2)) cnt cn cd cr := fun K hK => by
  by_cases q : K = J
  · rw [q, up_s]; exact ⟨c', h', hk2⟩
  · rw [up_n _ _ (fun z => q (hReg.2.1 K J hK hJ z))]; exact rel_cache hReg hRel hI h hk K hK
theorem rg_some (F : Nat) (hReg : lw_reg reg iv dd sa cq) (w : Int32) : ∃ x, x < 10 ∧ (sd_ix w 8 = true → cq w.toNatClampNeg = some (sa x 0)) ∧ x ≠ dd ∧ x ≠ iv := by
  rcases rg_or F w with ⟨J, hJ, rfl⟩ | ⟨b3, b4⟩
  · exact ⟨reg J, (hReg.1 J hJ).1, lw_at hReg hJ, (hReg.1 J hJ).2.2.1, (hReg.1 J hJ).2.2.2⟩
  · exact ⟨reg 0, (hReg.1 0 (by omega)).1, fun h => absurd h (rg_bad b3), (hReg.1 0 (by omega)).2.2.1, (hReg.1 0 (by omega)).2.2.2⟩
theorem st_compare (hF : 18446744073709551616 ≤ F) (hReg : lw_reg reg iv dd sa cq) (hRel : lw_rel reg P cnt cn cd cr) (v w : Int32) (fR fQ : Int64) (cfr cft cfs : Nat → Int32) (o0 o1 o2 o3 : Int32) (ro re sq pt pl mi lo hi on ol oh : Nat → Int64) :
    (∃ x y res o P', x < 10 ∧ y < 10 ∧ ¬ x = y ∧ (sd_ix v 8 = true → cq v.toNatClampNeg = some (sa x 0)) ∧ (sd_ix w 8 = true → cq w.toNatClampNeg = some (sa y 0)) ∧ mf_Desk_compare F v w cq fR fQ cfr cft cfs ((P x).1) ((P x).2.1) ((P x).2.2.1) ((P x).2.2.2.1) ((P x).2.2.2.2.1) ((P x).2.2.2.2.2.1) ((P x).2.2.2.2.2.2) ((P y).1) ((P y).2.1) ((P y).2.2.1) ((P y).2.2.2.1) ((P y).2.2.2.2.1) ((P y).2.2.2.2.2.1) ((P y).2.2.2.2.2.2) = some res ∧ P' x = (res.2.2.2.2.2.2.1, (P x).2.1, (P x).2.2.1, (P x).2.2.2.1, (P x).2.2.2.2.1, res.2.2.2.2.2.2.2.1, res.2.2.2.2.2.2.2.2.1) ∧ P' y = (res.2.2.2.2.2.2.2.2.2.1, (P y).2.1, (P y).2.2.1, (P y).2.2.2.1, (P y).2.2.2.2.1, res.2.2.2.2.2.2.2.2.2.2.1, res.2.2.2.2.2.2.2.2.2.2.2) ∧ (∀ i, i ≠ x → i ≠ y → P' i = P i) ∧ mf_Model_compare F v w o0 o1 o2 o3 cn cd cr cnt ro re sq pt pl mi lo hi on ol oh = some (res.1, o) ∧ lw_rel reg P' cnt cn cd cr) ∨
    (∃ x res o P', x < 10 ∧ (sd_ix v 8 = true → cq v.toNatClampNeg = some (sa x 0)) ∧ (sd_ix w 8 = true → cq w.toNatClampNeg = some (sa x 0)) ∧ mf_Desk_compare2 F v w cq fR fQ cfr cft cfs ((P x).1) ((P x).2.1) ((P x).2.2.1) ((P x).2.2.2.1) ((P x).2.2.2.2.1) ((P x).2.2.2.2.2.1) ((P x).2.2.2.2.2.2) = some res ∧ P' x = (res.2.2.2.2.2.2.1, (P x).2.1, (P x).2.2.1, (P x).2.2.2.1, (P x).2.2.2.2.1, res.2.2.2.2.2.2.2.1, res.2.2.2.2.2.2.2.2) ∧ (∀ i, i ≠ x → P' i = P i) ∧ mf_Model_compare F v w o0 o1 o2 o3 cn cd cr cnt ro re sq pt pl mi lo hi on ol oh = some (res.1, o) ∧ lw_rel reg P' cnt cn cd cr) := by
  have z1 : ¬ (1 : Int32) = 0 := by decide
  rcases rg_or F v with ⟨I, hI, rfl⟩ | ⟨b1, b2⟩
  · rcases rg_or F w with ⟨J, hJ, rfl⟩ | ⟨b3, b4⟩
    · obtain ⟨c, hs, hk⟩ := hRel I hI
      obtain ⟨a1, a2, a3, a4, a5, a6⟩ := id hs
      by_cases q : I = J
      · subst q
        obtain ⟨e1, o, e2⟩ := compare_self hF hI cq fR fQ cfr cft cfs ((P (reg I)).2.2.2.2.2.1) ((P (reg I)).2.2.2.2.2.2) ((P (reg I)).1) o0 o1 o2 o3 cnt cn cd cr _ _ _ ro re sq pt pl mi lo hi on ol oh a2 a3 a4 a5 a6
        exact Or.inr ⟨reg I, (0, fR, fQ, cfr, cft, cfs, (P (reg I)).1, (P (reg I)).2.2.2.2.2.1, (P (reg I)).2.2.2.2.2.2), o, P, (hReg.1 I hI).1, lw_at hReg hI, lw_at hReg hI, by rw [a1]; exact e1, rfl, fun _ _ => rfl, e2, hRel⟩
      · obtain ⟨c', hs', hk'⟩ := hRel J hJ
        obtain ⟨b1, b2, b3, b4, b5, b6⟩ := id hs'
        obtain ⟨a, f1, f2, u1, v1, s1, k', L', H', k2, L2, H2, e1, e2, e3, o, e4⟩ := compare_both hF hI hJ cq fR fQ cfr cft cfs _ _ _ _ _ _ o0 o1 o2 o3 cnt cn cd cr _ _ _ _ _ _ ro re sq pt pl mi lo hi on ol oh a2 b2 hk hk' a3 b3 a4 a5 a6 b4 b5 b6
        have nq : ¬ reg I = reg J := fun z => q (hReg.2.1 I J hI hJ z)
        exact Or.inl ⟨reg I, reg J, (a, f1, f2, u1, v1, s1, k', L', H', k2, L2, H2), o, _, (hReg.1 I hI).1, (hReg.1 J hJ).1, nq, lw_at hReg hI, lw_at hReg hJ, by rw [a1, b1]; exact e1, (up_n _ _ nq).trans (up_s _ _ _), up_s _ _ _, fun i h h2 => (up_n _ _ h2).trans (up_n _ _ h), e4, rel_cache2 hReg hRel hI hJ hs hs' e2 e3⟩
    · refine Or.inr ⟨reg I, (-2, fR, fQ, cfr, cft, cfs, (P (reg I)).1, (P (reg I)).2.2.2.2.2.1, (P (reg I)).2.2.2.2.2.2), (o2, o3, ro, re, sq, pt, pl, mi, lo, hi, on, ol, oh), P, (hReg.1 I hI).1, lw_at hReg hI, fun h => absurd h (rg_bad b3), ?_, rfl, fun _ _ => rfl, ?_, hRel⟩
      · unfold mf_Desk_compare2; rw [(rg_in F hI).1, sd_b1_s, if_neg z1, b3, sd_b1_s, if_pos rfl]
      · unfold mf_Model_compare; rw [(rg_in F hI).2, sd_b1_s, if_neg z1, b4, sd_b1_s, if_pos rfl]
  · obtain ⟨x, hx, hw, -⟩ := rg_some F hReg w
    refine Or.inr ⟨x, (-2, fR, fQ, cfr, cft, cfs, (P x).1, (P x).2.2.2.2.2.1, (P x).2.2.2.2.2.2), (o2, o3, ro, re, sq, pt, pl, mi, lo, hi, on, ol, oh), P, hx, fun h => absurd h (rg_bad b1), hw, ?_, rfl, fun _ _ => rfl, ?_, hRel⟩
    · unfold mf_Desk_compare2; rw [b1, sd_b1_s, if_pos rfl]
    · unfold mf_Model_compare; rw [b2, sd_b1_s, if_pos rfl]
theorem st_between (hF : 18446744073709551616 ≤ F) (hReg : lw_reg reg iv dd sa cq) (hRel : lw_rel reg P cnt cn cd cr) (v w : Int32) (fR fQ : Int64) (cfr cft cfs : Nat → Int32) (o0 o1 o2 o3 : Int32) (ro re sq pt pl mi lo hi on tw tA tB : Nat → Int64) :
    (∃ x y res o P', x < 10 ∧ y < 10 ∧ ¬ x = y ∧ (sd_ix v 8 = true → cq v.toNatClampNeg = some (sa x 0)) ∧ (sd_ix w 8 = true → cq w.toNatClampNeg = some (sa y 0)) ∧ mf_Desk_between F v w cq fR fQ cfr cft cfs ((P x).1) ((P x).2.1) ((P x).2.2.1) ((P x).2.2.2.1) ((P x).2.2.2.2.1) ((P x).2.2.2.2.2.1) ((P x).2.2.2.2.2.2) ((P y).1) ((P y).2.1) ((P y).2.2.1) ((P y).2.2.2.1) ((P y).2.2.2.2.1) ((P y).2.2.2.2.2.1) ((P y).2.2.2.2.2.2) = some res ∧ P' x = (res.2.2.2.2.2.2.1, (P x).2.1, (P x).2.2.1, (P x).2.2.2.1, (P x).2.2.2.2.1, res.2.2.2.2.2.2.2.1, res.2.2.2.2.2.2.2.2.1) ∧ P' y = (res.2.2.2.2.2.2.2.2.2.1, (P y).2.1, (P y).2.2.1, (P y).2.2.2.1, (P y).2.2.2.2.1, res.2.2.2.2.2.2.2.2.2.2.1, res.2.2.2.2.2.2.2.2.2.2.2) ∧ (∀ i, i ≠ x → i ≠ y → P' i = P i) ∧ mf_Model_between F v w o0 o1 o2 o3 cn cd cr cnt ro re sq pt pl mi lo hi on tw tA tB = some (res.1, o) ∧ lw_rel reg P' cnt cn cd cr) ∨
    (∃ x res o P', x < 10 ∧ (sd_ix v 8 = true → cq v.toNatClampNeg = some (sa x 0)) ∧ (sd_ix w 8 = true → cq w.toNatClampNeg = some (sa x 0)) ∧ mf_Desk_between2 F v w cq fR fQ cfr cft cfs ((P x).1) ((P x).2.1) ((P x).2.2.1) ((P x).2.2.2.1) ((P x).2.2.2.2.1) ((P x).2.2.2.2.2.1) ((P x).2.2.2.2.2.2) = some res ∧ P' x = (res.2.2.2.2.2.2.1, (P x).2.1, (P x).2.2.1, (P x).2.2.2.1, (P x).2.2.2.2.1, res.2.2.2.2.2.2.2.1, res.2.2.2.2.2.2.2.2) ∧ (∀ i, i ≠ x → P' i = P i) ∧ mf_Model_between F v w o0 o1 o2 o3 cn cd cr cnt ro re sq pt pl mi lo hi on tw tA tB = some (res.1, o) ∧ lw_rel reg P' cnt cn cd cr) := by
  have z1 : ¬ (1 : Int32) = 0 := by decide
  rcases rg_or F v with ⟨I, hI, rfl⟩ | ⟨b1, b2⟩
  · rcases rg_or F w with ⟨J, hJ, rfl⟩ | ⟨b3, b4⟩
    · obtain ⟨c, hs, hk⟩ := hRel I hI
      obtain ⟨a1, a2, a3, a4, a5, a6⟩ := id hs
      by_cases q : I = J
      · subst q
        obtain ⟨a, f1, f2, u1, v1, s1, k', L', H', e1, e2, o, e3⟩ := between_self hF hI cq fR fQ cfr cft cfs _ _ _ o0 o1 o2 o3 cnt cn cd cr _ _ _ ro re sq pt pl mi lo hi on tw tA tB a2 hk a3 a4 a5 a6
        exact Or.inr ⟨reg I, (a, f1, f2, u1, v1, s1, k', L', H'), o, _, (hReg.1 I hI).1, lw_at hReg hI, lw_at hReg hI, by rw [a1]; exact e1, up_s _ _ _, fun i h => up_n _ _ h, e3, rel_cache hReg hRel hI hs e2⟩
      · obtain ⟨c', hs', hk'⟩ := hRel J hJ
        obtain ⟨b1, b2, b3, b4, b5, b6⟩ := id hs'
        obtain ⟨a, f1, f2, u1, v1, s1, k', L', H', k2, L2, H2, e1, e2, e3, o, e4⟩ := between_both hF hI hJ cq fR fQ cfr cft cfs _ _ _ _ _ _ o0 o1 o2 o3 cnt cn cd cr _ _ _ _ _ _ ro re sq pt pl mi lo hi on tw tA tB a2 b2 hk hk' a3 b3 a4 a5 a6 b4 b5 b6
        have nq : ¬ reg I = reg J := fun z => q (hReg.2.1 I J hI hJ z)
        exact Or.inl ⟨reg I, reg J, (a, f1, f2, u1, v1, s1, k', L', H', k2, L2, H2), o, _, (hReg.1 I hI).1, (hReg.1 J hJ).1, nq, lw_at hReg hI, lw_at hReg hJ, by rw [a1, b1]; exact e1, (up_n _ _ nq).trans (up_s _ _ _), up_s _ _ _, fun i h h2 => (up_n _ _ h2).trans (up_n _ _ h), e4, rel_cache2 hReg hRel hI hJ hs hs' e2 e3⟩
    · refine Or.inr ⟨reg I, (4611686018427387904, fR, fQ, cfr, cft, cfs, (P (reg I)).1, (P (reg I)).2.2.2.2.2.1, (P (reg I)).2.2.2.2.2.2), (o2, o3, ro, re, sq, pt, pl, mi, lo, hi, on, tw, tA, tB), P, (hReg.1 I hI).1, lw_at hReg hI, fun h => absurd h (rg_bad b3), ?_, rfl, fun _ _ => rfl, ?_, hRel⟩
      · unfold mf_Desk_between2; rw [(rg_in F hI).1, sd_b1_s, if_neg z1, b3, sd_b1_s, if_pos rfl]
      · unfold mf_Model_between; rw [(rg_in F hI).2, sd_b1_s, if_neg z1, b4, sd_b1_s, if_pos rfl]
  · obtain ⟨x, hx, hw, -⟩ := rg_some F hReg w
    refine Or.inr ⟨x, (4611686018427387904, fR, fQ, cfr, cft, cfs, (P x).1, (P x).2.2.2.2.2.1, (P x).2.2.2.2.2.2), (o2, o3, ro, re, sq, pt, pl, mi, lo, hi, on, tw, tA, tB), P, hx, fun h => absurd h (rg_bad b1), hw, ?_, rfl, fun _ _ => rfl, ?_, hRel⟩
    · unfold mf_Desk_between2; rw [b1, sd_b1_s, if_pos rfl]
    · unfold mf_Model_between; rw [b2, sd_b1_s, if_pos rfl]
theorem st_load (hF : 18446744073709551616 ≤ F) (hReg : lw_reg reg iv dd sa cq) (hRel : lw_rel reg P cnt cn cd cr) (v : Int32) (n d : Int64) (md o1 o2 o3 : Int32) (N0 D0 R0 : Nat → Int64) :
    ∃ x res md' cn' cd' cr' cnt' o P', x < 10 ∧ (sd_ix v 8 = true → cq v.toNatClampNeg = some (sa x 0)) ∧ mf_Desk_load F v n d cq ((P x).1) ((P x).2.1) ((P x).2.2.1) ((P x).2.2.2.1) ((P x).2.2.2.2.1) = some res ∧ P' x = (res.2.1, res.2.2.1, res.2.2.2.1, res.2.2.2.2.1, res.2.2.2.2.2, (P x).2.2.2.2.2.1, (P x).2.2.2.2.2.2) ∧ (∀ i, i ≠ x → P' i = P i) ∧ mf_Model_load F v n d md o1 o2 o3 cn cd cr cnt N0 D0 R0 = some (res.1, md', cn', cd', cr', cnt', o) ∧ lw_rel reg P' cnt' cn' cd' cr' := by
  have z1 : ¬ (1 : Int32) = 0 := by decide
  rcases rg_or F v with ⟨K, hK, rfl⟩ | ⟨b1, b2⟩
  · have hr := (hReg.1 K hK).1
    by_cases d0 : d = 0
    · refine ⟨reg K, (-1, (P (reg K)).1, (P (reg K)).2.1, (P (reg K)).2.2.1, (P (reg K)).2.2.2.1, (P (reg K)).2.2.2.2.1), md, cn, cd, cr, cnt, (N0, D0, R0), P, hr, lw_at hReg hK, ?_, rfl, fun _ _ => rfl, ?_, hRel⟩
      · unfold mf_Desk_load; rw [(rg_in F hK).1, sd_b1_s, if_neg z1, if_pos d0]
      · unfold mf_Model_load; rw [(rg_in F hK).2, sd_b1_s, if_neg z1, if_pos d0]
    · have hd : d.toInt ≠ 0 := fun z => d0 (nj_eq.mpr z)
      obtain ⟨e1, e2, e3⟩ := dk_load hF hK n d hd cq ((P (reg K)).1) ((P (reg K)).2.1) ((P (reg K)).2.2.1) ((P (reg K)).2.2.2.1) ((P (reg K)).2.2.2.2.1)
      obtain ⟨m1, m2, m3⟩ := mm_load hF hK n d hd md o1 o2 o3 cnt cn cd cr N0 D0 R0
      by_cases hf : ld_full n d
      · obtain ⟨q, m1⟩ := m1 hf
        exact ⟨reg K, _, q, cn, cd, cr, cnt, (N0, D0, R0), P, hr, lw_at hReg hK, e1 hf, rfl, fun _ _ => rfl, m1, hRel⟩
      · by_cases n0 : n.toInt = 0
        · obtain ⟨cn', cd', cr', N, D, R, m2, m4⟩ := m2 hf n0
          exact ⟨reg K, _, _, cn', cd', cr', _, (N, D, R), _, hr, lw_at hReg hK, e2 hf n0, up_s _ _ _, fun i h => up_n _ _ h, m2, rel_put hReg hRel hK ⟨0, lw_pt0 _ _ _ _ _⟩ m4⟩
        · obtain ⟨cn', cd', cr', N, D, R, m3, m4, m5, m6, m7⟩ := m3 hf n0
          exact ⟨reg K, _, _, cn', cd', cr', _, (N, D, R), _, hr, lw_at hReg hK, e3 hf n0, up_s _ _ _, fun i h => up_n _ _ h, m3, rel_put hReg hRel hK ⟨1, lw_pt1 (ld_ok n0 hd hf) _ _ _ _ _ m4 m5 m6⟩ m7⟩
  · refine ⟨reg 0, (-1, (P (reg 0)).1, (P (reg 0)).2.1, (P (reg 0)).2.2.1, (P (reg 0)).2.2.2.1, (P (reg 0)).2.2.2.2.1), md, cn, cd, cr, cnt, (N0, D0, R0), P, (hReg.1 0 (by omega)).1, fun h => absurd h (rg_bad b1), ?_, rfl, fun _ _ => rfl, ?_, hRel⟩
    · unfold mf_Desk_load; rw [b1, sd_b1_s, if_pos rfl]
    · unfold mf_Model_load; rw [b2, sd_b1_s, if_pos rfl]
end STQ
