/-! registers by their numbers -/
theorem rg_in (F : Nat) {K : Nat} (h : K < 8) : mf_Desk_isRegister F (nI K) = some 1 ∧ mf_Model_is F (nI K) = some 1 := by
  unfold mf_Desk_isRegister mf_Model_is
  have a : ¬ nI K < 0 := nI_pos (by omega)
  have b : ¬ (8 : Int32) ≤ nI K := fun z => by have := (ni_leL (C := 8) (c := 8) rfl (by omega)).mp z; omega
  constructor
  · rw [if_neg a, if_neg b]; rfl
  · rw [if_neg a, if_neg b]; rfl
theorem rg_or (F : Nat) (k : Int32) : (∃ K : Nat, K < 8 ∧ k = nI K) ∨ (mf_Desk_isRegister F k = some 0 ∧ mf_Model_is F k = some 0) := by
  rcases pk_ix k (n := 8) (by omega) with h | h | h
  · refine Or.inr ?_
    unfold mf_Desk_isRegister mf_Model_is
    constructor
    · rw [if_pos h]; rfl
    · rw [if_pos h]; rfl
  · refine Or.inr ?_
    unfold mf_Desk_isRegister mf_Model_is
    have e : (8 : Int32) ≤ k := h
    by_cases h0 : k < 0
    · constructor
      · rw [if_pos h0]; rfl
      · rw [if_pos h0]; rfl
    · constructor
      · rw [if_neg h0, if_pos e]; rfl
      · rw [if_neg h0, if_pos e]; rfl
  · exact Or.inl h
/-- a register: class and reference hold the same number -/
def rg_same (K c : Nat) (n : Int32) (T B R : Nat → Int64) (cnt : Nat → Int32) (cn cd cr : Nat → Int64) : Prop := n = nI c ∧ tm_okS c T B R ∧ cnt K = nI c ∧ tm_row K c cn T ∧ tm_row K c cd B ∧ tm_row K c cr R
