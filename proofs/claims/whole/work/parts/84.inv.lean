/-! what holds between the calls: the class's registers beside the reference's -/
def lw_reg (reg : Nat → Nat) (iv dd : Nat) (sa : Nat → Nat → Nat) (cq : Nat → Option Nat) : Prop := (∀ K, K < 8 → reg K < 10 ∧ cq K = some (sa (reg K) 0) ∧ reg K ≠ dd ∧ reg K ≠ iv) ∧ (∀ K J, K < 8 → J < 8 → reg K = reg J → K = J) ∧ iv < 10 ∧ dd < 10 ∧ dd ≠ iv
def lw_pt (K c : Nat) (pt : Pt) (cnt : Nat → Int32) (cn cd cr : Nat → Int64) : Prop := rg_same K c pt.2.1 pt.2.2.1 pt.2.2.2.1 pt.2.2.2.2.1 cnt cn cd cr ∧ ck pt.1 c pt.2.2.1 pt.2.2.2.1 pt.2.2.2.2.1 pt.2.2.2.2.2.1 pt.2.2.2.2.2.2
def lw_rel (reg : Nat → Nat) (P : Nat → Pt) (cnt : Nat → Int32) (cn cd cr : Nat → Int64) : Prop := ∀ K, K < 8 → ∃ c, lw_pt K c (P (reg K)) cnt cn cd cr
def lw_out (n0 n3 : Int32) (cp : Nat → Nat → Int32) (out : Nat → Int32) (pk pd : Nat) : Prop := ((pk = 15 ∧ pd = 16) ∨ (pk = 16 ∧ pd = 15)) ∧ ∃ n, n0 = nI n ∧ n3 = nI n ∧ out_same n (cp pk) out
theorem rg_bad {F : Nat} {v : Int32} (h : mf_Desk_isRegister F v = some 0) : ¬ sd_ix v 8 = true := fun q => by
  obtain ⟨j, hj, rfl⟩ := vp_in_of (sd_vp q) (by omega)
  rw [(rg_in F hj).1] at h
  exact absurd (Option.some.inj h) (by decide)
theorem lw_at {reg : Nat → Nat} {iv dd : Nat} {sa : Nat → Nat → Nat} {cq : Nat → Option Nat} (hReg : lw_reg reg iv dd sa cq) {I : Nat} (hI : I < 8) : sd_ix (nI I) 8 = true → cq (nI I).toNatClampNeg = some (sa (reg I) 0) := fun _ => by
  rw [nI_clamp (by omega)]; exact (hReg.1 I hI).2.1
theorem rel_keep {reg : Nat → Nat} {P P' : Nat → Pt} {cnt : Nat → Int32} {cn cd cr : Nat → Int64} (hRel : lw_rel reg P cnt cn cd cr) (h : ∀ K, K < 8 → P' (reg K) = P (reg K)) : lw_rel reg P' cnt cn cd cr := fun K hK => by
  rw [h K hK]; exact hRel K hK
theorem rel_cache {reg : Nat → Nat} {iv dd : Nat} {sa : Nat → Nat → Nat} {cq : Nat → Option Nat} {P : Nat → Pt} {cnt : Nat → Int32} {cn cd cr : Nat → Int64} (hReg : lw_reg reg iv dd sa cq) (hRel : lw_rel reg P cnt cn cd cr) {I c : Nat} (hI : I < 8) (h : rg_same I c (P (reg I)).2.1 (P (reg I)).2.2.1 (P (reg I)).2.2.2.1 (P (reg I)).2.2.2.2.1 cnt cn cd cr) {k' : Int32} {L' H' : Nat → Int32} (hk : ck k' c (P (reg I)).2.2.1 (P (reg I)).2.2.2.1 (P (reg I)).2.2.2.2.1 L' H') :
    lw_rel reg (va_up P (reg I) (k', (P (reg I)).2.1, (P (reg I)).2.2.1, (P (reg I)).2.2.2.1, (P (reg I)).2.2.2.2.1, L', H')) cnt cn cd cr := fun K hK => by
  by_cases q : K = I
  · rw [q, up_s]; exact ⟨c, h, hk⟩
  · rw [up_n _ _ (fun z => q (hReg.2.1 K I hK hI z))]; exact hRel K hK
theorem rel_other {J K c : Nat} {pt : Pt} {cnt : Nat → Int32} {cn cd cr cn' cd' cr' : Nat → Int64} (hJK : J ≠ K) (h : lw_pt J c pt cnt cn cd cr) (v : Int32) (ho : ∀ j, j < 8 * K ∨ 8 * K + 8 ≤ j → cn' j = cn j ∧ cd' j = cd j ∧ cr' j = cr j) : lw_pt J c pt (upd cnt K v) cn' cd' cr' := by
  obtain ⟨⟨a1, a2, a3, a4, a5, a6⟩, a7⟩ := h
  have c8 := a2.1
  have q : ∀ j, j < c → cn' (8 * J + j) = cn (8 * J + j) ∧ cd' (8 * J + j) = cd (8 * J + j) ∧ cr' (8 * J + j) = cr (8 * J + j) := fun j hj => ho _ (by omega)
  exact ⟨⟨a1, a2, by rw [pk_un hJK]; exact a3, fun j hj => (q j hj).1.trans (a4 j hj), fun j hj => (q j hj).2.1.trans (a5 j hj), fun j hj => (q j hj).2.2.trans (a6 j hj)⟩, a7⟩
theorem rel_put {reg : Nat → Nat} {iv dd : Nat} {sa : Nat → Nat → Nat} {cq : Nat → Option Nat} {P : Nat → Pt} {cnt : Nat → Int32} {cn cd cr cn' cd' cr' : Nat → Int64} (hReg : lw_reg reg iv dd sa cq) (hRel : lw_rel reg P cnt cn cd cr) {K : Nat} (hK : K < 8) {pt : Pt} {v : Int32} (hnew : ∃ c, lw_pt K c pt (upd cnt K v) cn' cd' cr') (ho : ∀ j, j < 8 * K ∨ 8 * K + 8 ≤ j → cn' j = cn j ∧ cd' j = cd j ∧ cr' j = cr j) : lw_rel reg (va_up P (reg K) pt) (upd cnt K v) cn' cd' cr' := fun J hJ => by
  by_cases q : J = K
  · rw [q, up_s]; exact hnew
  · rw [up_n _ _ (fun z => q (hReg.2.1 J K hJ hK z))]
    obtain ⟨c, h⟩ := hRel J hJ
    exact ⟨c, rel_other q h v ho⟩
theorem rel_swap {reg : Nat → Nat} {iv dd : Nat} {sa : Nat → Nat → Nat} {cq : Nat → Option Nat} {P P' : Nat → Pt} {cnt : Nat → Int32} {cn cd cr cn' cd' cr' : Nat → Int64} (hReg : lw_reg reg iv dd sa cq) (hRel : lw_rel reg P cnt cn cd cr) {K : Nat} (hK : K < 8) {v : Int32} (hnew : ∃ c, lw_pt K c (P' dd) (upd cnt K v) cn' cd' cr') (hP : ∀ J, J < 8 → P' (reg J) = P (reg J)) (ho : ∀ j, j < 8 * K ∨ 8 * K + 8 ≤ j → cn' j = cn j ∧ cd' j = cd j ∧ cr' j = cr j) : lw_rel (va_up reg K dd) P' (upd cnt K v) cn' cd' cr' ∧ lw_reg (va_up reg K dd) iv (reg K) sa (va_up cq K (some (sa dd 0))) := by
  refine ⟨fun J hJ => ?_, fun J hJ => ?_, fun I J hI hJ e => ?_, hReg.2.2.1, (hReg.1 K hK).1, (hReg.1 K hK).2.2.2⟩
  · by_cases q : J = K
    · rw [q, up_s]; exact hnew
    · rw [up_n _ _ q, hP J hJ]
      obtain ⟨c, h⟩ := hRel J hJ
      exact ⟨c, rel_other q h v ho⟩
  · by_cases q : J = K
    · rw [q, up_s, up_s]
      exact ⟨hReg.2.2.2.1, rfl, fun z => (hReg.1 K hK).2.2.1 z.symm, hReg.2.2.2.2⟩
    · rw [up_n _ _ q, up_n _ _ q]
      exact ⟨(hReg.1 J hJ).1, (hReg.1 J hJ).2.1, fun z => q (hReg.2.1 J K hJ hK z), (hReg.1 J hJ).2.2.2⟩
  · by_cases q : I = K
    · by_cases q2 : J = K
      · rw [q, q2]
      · rw [q, up_s, up_n _ _ q2] at e
        exact absurd e.symm (hReg.1 J hJ).2.2.1
    · by_cases q2 : J = K
      · rw [q2, up_s, up_n _ _ q] at e
        exact absurd e (hReg.1 I hI).2.2.1
      · rw [up_n _ _ q, up_n _ _ q2] at e
        exact hReg.2.1 I J hI hJ e
theorem lw_pt0 {K : Nat} {cnt : Nat → Int32} {cn cd cr : Nat → Int64} (T B R : Nat → Int64) (L H : Nat → Int32) : lw_pt K 0 (0, nI 0, T, B, R, L, H) (upd cnt K (nI 0)) cn cd cr :=
  ⟨⟨rfl, ⟨Nat.zero_le _, fun j h => by omega, fun i j _ h => by omega⟩, pk_us, fun j h => by omega, fun j h => by omega, fun j h => by omega⟩, Or.inl rfl⟩
theorem lw_pt1 {K : Nat} {cnt : Nat → Int32} {cn cd cr : Nat → Int64} {t u v : Int64} (h : tm_okT t u v) (T B R : Nat → Int64) (L H : Nat → Int32) (h1 : cn (8 * K) = t) (h2 : cd (8 * K) = u) (h3 : cr (8 * K) = v) : lw_pt K 1 (0, nI 1, vp_updL T 0 t, vp_updL B 0 u, vp_updL R 0 v, L, H) (upd cnt K (nI 1)) cn cd cr := by
  have z : ∀ {j : Nat}, j < 1 → j = 0 := fun h => by omega
  refine ⟨⟨rfl, ⟨by omega, fun j hj => ?_, fun i j _ hj => by omega⟩, pk_us, fun j hj => ?_, fun j hj => ?_, fun j hj => ?_⟩, Or.inl rfl⟩
  · rw [z hj]; exact h
  · rw [z hj]; exact h1
  · rw [z hj]; exact h2
  · rw [z hj]; exact h3
theorem lw_ptS {K : Nat} {s : tm_S} (hs : tm_okSS s) {T B R : Nat → Int64} (h : tm_at s T B R) {cnt : Nat → Int32} {cn cd cr : Nat → Int64} (L H : Nat → Int32) (h1 : tm_row K s.1 cn s.2.1) (h2 : tm_row K s.1 cd s.2.2.1) (h3 : tm_row K s.1 cr s.2.2.2) : lw_pt K s.1 (0, nI s.1, T, B, R, L, H) (upd cnt K (nI s.1)) cn cd cr :=
  ⟨⟨rfl, hs.eq h.1 h.2.1 h.2.2, pk_us, fun j q => (h1 j q).trans (h.1 j q).symm, fun j q => (h2 j q).trans (h.2.1 j q).symm, fun j q => (h3 j q).trans (h.2.2 j q).symm⟩, Or.inl rfl⟩
