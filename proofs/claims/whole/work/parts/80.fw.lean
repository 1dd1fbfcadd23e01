/-! the law's world: cells by name -/
abbrev Wx : Type := Nat ⊕ (Nat × Nat)
abbrev Pt : Type := Int32 × Int32 × (Nat → Int64) × (Nat → Int64) × (Nat → Int64) × (Nat → Int32) × (Nat → Int32)
def fw_dom (x : Wx) : Prop := match x with
  | .inl n => n < 47
  | .inr q => q.1 < 10 ∧ q.2 < 6
def fw_P (D : va_G) (w : Wx → Nat × va_E) (H : Heap) : Prop := ∀ x, fw_dom x → va_at D classes (w x) H
def fw_D (A : Nat → Prop) (w : Wx → Nat × va_E) : Prop := (∀ x y, fw_dom x → fw_dom y → (w x).1 = (w y).1 → x = y) ∧ ∀ x, fw_dom x → A (w x).1
theorem fw_mem {is : List Wx} {w : Wx → Nat × va_E} {k : Nat} {q : Nat × va_E} (h : (is.map w)[k]? = some q) : ∃ x, is[k]? = some x ∧ w x = q := by
  rw [List.getElem?_map] at h
  cases hi : is[k]? with
  | none => rw [hi] at h; cases h
  | some x => rw [hi] at h; exact ⟨x, rfl, Option.some.inj h⟩
theorem fw_sub {D : va_G} {w : Wx → Nat × va_E} {H : Heap} (h : fw_P D w H) {is : List Wx} (hd : ∀ x ∈ is, fw_dom x) : va_P D classes (is.map w) H := fun k q hq => by
  obtain ⟨x, h1, rfl⟩ := fw_mem hq
  exact h x (hd x (List.mem_of_getElem? h1))
theorem fw_nd {is : List Wx} (hn : is.Nodup) {i j : Nat} {x : Wx} (h1 : is[i]? = some x) (h2 : is[j]? = some x) : i = j :=
  (List.getElem?_inj (List.getElem?_eq_some_iff.mp h1).1 hn).mp (h1.trans h2.symm)
theorem fw_subD {A : Nat → Prop} {w : Wx → Nat × va_E} (h : fw_D A w) {is : List Wx} (hd : ∀ x ∈ is, fw_dom x) (hn : is.Nodup) : va_D (fun _ => True) (is.map w) := by
  refine ⟨fun i j p q hp hq e => ?_, fun _ _ _ => trivial⟩
  obtain ⟨x, h1, rfl⟩ := fw_mem hp
  obtain ⟨y, h2, rfl⟩ := fw_mem hq
  have e2 := h.1 x y (hd x (List.mem_of_getElem? h1)) (hd y (List.mem_of_getElem? h2)) e
  subst e2
  exact fw_nd hn h1 h2
theorem fw_free {A : Nat → Prop} {w : Wx → Nat × va_E} {H0 H : Heap} {locs : List Loc} (hD : fw_D A w) (hS : va_S A H0 H locs) (hA : ∀ q, H0.size ≤ q → A q) {is : List Wx} (hd : ∀ x ∈ is, fw_dom x) : ∀ q, va_A (is.map w) H.size q → A q := fun q h => by
  rcases h with ⟨k, e, h⟩ | h
  · obtain ⟨x, h1, h2⟩ := fw_mem h
    have h3 := hD.2 x (hd x (List.mem_of_getElem? h1))
    rw [h2] at h3
    exact h3
  · exact hA q (Nat.le_trans hS.1 h)
theorem fw_join {A : Nat → Prop} {D : va_G} {w w' : Wx → Nat × va_E} {H H1 : Heap} (hP : fw_P D w H) (hD : fw_D A w) {is : List Wx} (hd : ∀ x ∈ is, fw_dom x)
    (hk : ∀ q : Nat, q < H.size → ¬ va_A (is.map w) H.size q → H1[q]? = H[q]?) (hF : ∀ q, va_A (is.map w) H.size q → A q) (hP1 : va_P D classes (is.map w') H1) (hD1 : va_D (va_A (is.map w) H.size) (is.map w')) (hrest : ∀ x, fw_dom x → x ∉ is → w' x = w x) : fw_P D w' H1 ∧ fw_D A w' := by
  have apart : ∀ x, fw_dom x → x ∉ is → (w x).1 < H.size ∧ ¬ va_A (is.map w) H.size (w x).1 := by
    intro x hx hn
    have hl := (hP x hx).lt
    refine ⟨hl, fun h => ?_⟩
    rcases h with ⟨k, e, h⟩ | h
    · obtain ⟨y, h1, h2⟩ := fw_mem h
      have hm := List.mem_of_getElem? h1
      have e2 := hD.1 x y hx (hd y hm) (by rw [h2])
      subst e2
      exact hn hm
    · omega
  have inn : ∀ x, x ∈ is → ∃ k, is[k]? = some x ∧ (is.map w')[k]? = some (w' x) := fun x hx => by
    obtain ⟨k, h⟩ := List.getElem?_of_mem hx
    exact ⟨k, h, by rw [List.getElem?_map, h]; rfl⟩
  refine ⟨fun x hx => ?_, fun x y hx hy e => ?_, fun x hx => ?_⟩
  · by_cases h : x ∈ is
    · obtain ⟨k, h1, h2⟩ := inn x h
      exact hP1 k _ h2
    · rw [hrest x hx h]
      obtain ⟨g1, g2⟩ := apart x hx h
      exact (hP x hx).kept (hk _ g1 g2)
  · by_cases h : x ∈ is
    · obtain ⟨k, h1, h2⟩ := inn x h
      by_cases h' : y ∈ is
      · obtain ⟨k', h1', h2'⟩ := inn y h'
        have := hD1.1 k k' _ _ h2 h2' e
        subst this
        exact Option.some.inj (h1.symm.trans h1')
      · exfalso
        have a1 := hD1.2 k _ h2
        rw [e, hrest y hy h'] at a1
        exact (apart y hy h').2 a1
    · by_cases h' : y ∈ is
      · exfalso
        obtain ⟨k', h1', h2'⟩ := inn y h'
        have a1 := hD1.2 k' _ h2'
        rw [← e, hrest x hx h] at a1
        exact (apart x hx h).2 a1
      · rw [hrest x hx h, hrest y hy h'] at e
        exact hD.1 x y hx hy e
  · by_cases h : x ∈ is
    · obtain ⟨k, h1, h2⟩ := inn x h
      exact hF _ (hD1.2 k _ h2)
    · rw [hrest x hx h]
      exact hD.2 x hx
section FWK
variable {p : Program} {l : Launch} {e : Env} {R : Room} {s : State} {m : MethodId} {args : Array Value} {below : List Frame} {meth : Method} {c : Code} {H : Heap} {locs : List Loc} {cells slots : Nat} {Q : State → Prop}
variable {cc : ByteArray} {pc : Nat} {ls : Array Slot} {rest : List Value} {D : va_G} {A : Nat → Prop} {a : Nat} {g : G4} {w w' : Wx → Nat × va_E} {H0 : Heap} {nL : Nat} {own : String}
theorem fw_preS {wc : va_W} {av : List Value} (hK : va_K D classes (tyL g) s) (hP : fw_P D w H) (hD : fw_D A w) {is : List Wx} (hd : ∀ x ∈ is, fw_dom x) (hn : is.Nodup) (hC : is.map w = wc) : ∀ U : State, U.heap = H → s.WarmedH U.vm → sd_PW D g av H.size wc av.toArray U := fun U hU hW => ⟨rfl, by rw [hU], by rw [hU, ← hC]; exact fw_sub hP hd, va_K.moved hW.alike hK, by rw [← hC]; exact fw_subD hD hd hn⟩
theorem fw_runV {w0 : Cond} {y : MethodName} {b : ByteArray} {mL n index : Nat} {ret : Option FieldType} {rm : Room} {Qc : Array Value → State → Outcome → State → Prop} {wc : va_W} {As st0 : List Value} {lv : List (Nat × Value)} {ci : Nat} {fs : List Value} {T : u_T} {N : Nat} (S : CallFix p m c cc nL s args (w0 :: sd_tb) own) (hM : Met l y (Cond.code y b mL ret :: sd_tb) rm (sd_PW D g (.ref a :: As) H.size wc) Qc 0 0 (va_A wc H.size)) (kl : sd_LV own index y b mL ret n) (hRoom : rm.frames + 1 ≤ R.frames ∧ 8 + (mL + 11) + rm.locals ≤ R.locals) (hrm : rm.cells = 0 ∧ rm.slots = 0) (hK : va_K D classes (tyL g) s) (hP : fw_P D w H) (hD : fw_D A w) (is : List Wx) (hd : ∀ x ∈ is, fw_dom x) (hn : is.Nodup) (hC : is.map w = wc) (hst : st0 = As.reverse ++ .ref a :: rest) (hl : lv_has ls nL lv) (hdg : decode cc pc = .ok (.invokevirtual index, 3)) (hlen : As.length = n) (hro : (rest.map fun v => v.category).sum ≤ 8) (hcs : cells ≤ R.cells ∧ slots ≤ R.slots) (x0 : Nat) (hx0 : x0 < 47) (hr0 : w (.inl x0) = (a, .inr (ci, fs))) (hcl : classes[ci]? = some (y.cls, T, N)) : va_Run p l e R s m args below meth c H locs cells slots 0 0 (F0 m pc ls st0) rest (Qc (Value.ref a :: As).toArray) (va_A wc H.size) := by
  have htt := sd_tt S
  have hts := S.2.2.2.2
  have hP0 : va_P D classes ([Sum.inl x0].map w) H := fw_sub hP (fun x h => by
    rcases List.mem_cons.mp h with e | e
    · subst e; exact hx0
    · exact absurd e List.not_mem_nil)
  exact va_runV (C := y.cls) (bytes := b) (maxL := mL) (ret := ret) (n := n) S hM ⟨callB_of n hts (sd_goodc kl.2.2.2.2.1) rfl hrm.1 hrm.2 (htt _ kl.2.2.2.1) (htt _ kl.1) kl.2.2.2.2.2 hRoom, htt _ kl.2.1, htt _ kl.2.2.1⟩ ⟨sd_blind, va_recv hK hP0 hcl (q0 := 0) (congrArg some hr0), fw_preS hK hP hD hd hn hC⟩ rfl hlen hl.1 hst (lv_room hro) hdg hcs
theorem fw_ci1 {U : Type} {res : Int32 × U} {w1 : U → va_W} {wc : va_W} {av : Array Value} {st0 : List Value} (hr : va_Run p l e R s m args below meth c H locs cells slots 0 0 (F0 m pc ls st0) rest (sd_Qi1 D g res w1 (va_A wc H.size) av) (va_A wc H.size)) (hP : fw_P D w H) (hD : fw_D A w) (hS : va_S A H0 H locs) (hA : ∀ q, H0.size ≤ q → A q) (is : List Wx) (hd : ∀ x ∈ is, fw_dom x) (hC : is.map w = wc) (h1 : is.map w' = w1 res.2) (hrest : ∀ x, fw_dom x → x ∉ is → w' x = w x) (kk : ∀ (H1 : Heap) (locs1 : List Loc), fw_P D w' H1 → fw_D A w' → va_S A H0 H1 locs1 → W p l e R s m args below meth c H1 locs1 cells slots Q (F0 m (pc + 3) ls (.int res.1 :: rest))) : W p l e R s m args below meth c H locs cells slots Q (F0 m pc ls st0) := by
  subst hC
  have hF := fw_free hD hS hA hd
  refine va_calli hr hS (fun q _ h => hF q h) hF (fun r u t H1 locs1 ht hvm hw hB hz1 hk1 hS1 => ?_)
  obtain ⟨hP1, hK1, hD1⟩ := hB
  rw [ht] at hP1
  subst hw
  dsimp only at h1
  rw [← h1] at hP1 hD1
  obtain ⟨hP2, hD2⟩ := fw_join hP hD hd hk1 hF hP1 hD1 hrest
  exact kk H1 locs1 hP2 hD2 hS1
theorem fw_cl1 {U : Type} {res : Int64 × U} {w1 : U → va_W} {wc : va_W} {av : Array Value} {st0 : List Value} (hr : va_Run p l e R s m args below meth c H locs cells slots 0 0 (F0 m pc ls st0) rest (sd_Ql1 D g res w1 (va_A wc H.size) av) (va_A wc H.size)) (hP : fw_P D w H) (hD : fw_D A w) (hS : va_S A H0 H locs) (hA : ∀ q, H0.size ≤ q → A q) (is : List Wx) (hd : ∀ x ∈ is, fw_dom x) (hC : is.map w = wc) (h1 : is.map w' = w1 res.2) (hrest : ∀ x, fw_dom x → x ∉ is → w' x = w x) (kk : ∀ (H1 : Heap) (locs1 : List Loc), fw_P D w' H1 → fw_D A w' → va_S A H0 H1 locs1 → W p l e R s m args below meth c H1 locs1 cells slots Q (F0 m (pc + 3) ls (.long res.1 :: rest))) : W p l e R s m args below meth c H locs cells slots Q (F0 m pc ls st0) := by
  subst hC
  have hF := fw_free hD hS hA hd
  refine va_calll hr hS (fun q _ h => hF q h) hF (fun r u t H1 locs1 ht hvm hw hB hz1 hk1 hS1 => ?_)
  obtain ⟨hP1, hK1, hD1⟩ := hB
  rw [ht] at hP1
  subst hw
  dsimp only at h1
  rw [← h1] at hP1 hD1
  obtain ⟨hP2, hD2⟩ := fw_join hP hD hd hk1 hF hP1 hD1 hrest
  exact kk H1 locs1 hP2 hD2 hS1
theorem fw_cl1M {U V : Type} {res : Int64 × U} {w1 : U → V → va_W} {wc : va_W} {av : Array Value} {st0 : List Value} {wM : V → Wx → Nat × va_E} (hr : va_Run p l e R s m args below meth c H locs cells slots 0 0 (F0 m pc ls st0) rest (sd_Ql1M D g res w1 (va_A wc H.size) av) (va_A wc H.size)) (hP : fw_P D w H) (hD : fw_D A w) (hS : va_S A H0 H locs) (hA : ∀ q, H0.size ≤ q → A q) (is : List Wx) (hd : ∀ x ∈ is, fw_dom x) (hC : is.map w = wc) (h1 : ∀ v, is.map (wM v) = w1 res.2 v) (hrest : ∀ v x, fw_dom x → x ∉ is → wM v x = w x) (kk : ∀ (v : V) (H1 : Heap) (locs1 : List Loc), fw_P D (wM v) H1 → fw_D A (wM v) → va_S A H0 H1 locs1 → W p l e R s m args below meth c H1 locs1 cells slots Q (F0 m (pc + 3) ls (.long res.1 :: rest))) : W p l e R s m args below meth c H locs cells slots Q (F0 m pc ls st0) := by
  subst hC
  have hF := fw_free hD hS hA hd
  refine va_calll hr hS (fun q _ h => hF q h) hF (fun r u t H1 locs1 ht hvm hw hB hz1 hk1 hS1 => ?_)
  obtain ⟨hP1, hK1, hD1⟩ := hB
  rw [ht] at hP1
  subst hw
  have h2 := h1 u.2
  dsimp only at h2
  rw [← h2] at hP1 hD1
  obtain ⟨hP2, hD2⟩ := fw_join hP hD hd hk1 hF hP1 hD1 (hrest u.2)
  exact kk u.2 H1 locs1 hP2 hD2 hS1
theorem fw_ci0 {res : Int32} {w1 : va_W} {wc : va_W} {av : Array Value} {st0 : List Value} (hr : va_Run p l e R s m args below meth c H locs cells slots 0 0 (F0 m pc ls st0) rest (sd_Qi0 D g res w1 (va_A wc H.size) av) (va_A wc H.size)) (hP : fw_P D w H) (hD : fw_D A w) (hS : va_S A H0 H locs) (hA : ∀ q, H0.size ≤ q → A q) (is : List Wx) (hd : ∀ x ∈ is, fw_dom x) (hC : is.map w = wc) (h1 : is.map w = w1) (kk : ∀ (H1 : Heap) (locs1 : List Loc), fw_P D w H1 → fw_D A w → va_S A H0 H1 locs1 → W p l e R s m args below meth c H1 locs1 cells slots Q (F0 m (pc + 3) ls (.int res :: rest))) : W p l e R s m args below meth c H locs cells slots Q (F0 m pc ls st0) := by
  subst hC
  have hF := fw_free hD hS hA hd
  refine va_calli hr hS (fun q _ h => hF q h) hF (fun r u t H1 locs1 ht hvm hw hB hz1 hk1 hS1 => ?_)
  obtain ⟨hP1, hK1, hD1⟩ := hB
  rw [ht] at hP1
  subst hw
  rw [← h1] at hP1 hD1
  obtain ⟨hP2, hD2⟩ := fw_join hP hD hd hk1 hF hP1 hD1 (fun _ _ _ => rfl)
  exact kk H1 locs1 hP2 hD2 hS1
end FWK
theorem up_s {α : Type} (f : Nat → α) (k : Nat) (v : α) : va_up f k v k = v := if_pos rfl
theorem up_n {α : Type} (f : Nat → α) {k j : Nat} (v : α) (h : j ≠ k) : va_up f k v j = f j := if_neg h
theorem up_id {α : Type} (f : Nat → α) (k : Nat) : va_up f k (f k) = f := funext fun j => by
  unfold va_up
  by_cases h : j = k
  · rw [if_pos h, h]
  · rw [if_neg h]
