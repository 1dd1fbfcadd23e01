def sd_Qi1M {U V : Type} (D : va_G) (g : G4) (res : Int32 × U) (w1 : U → V → va_W) (A : Nat → Prop) : Array Value → State → Outcome → State → Prop := va_Qi (fun (r : Int32) (u : U × V) => res = (r, u.1)) (fun u t => sd_B D g A (w1 u.1 u.2) t) A
def sd_Ql1M {U V : Type} (D : va_G) (g : G4) (res : Int64 × U) (w1 : U → V → va_W) (A : Nat → Prop) : Array Value → State → Outcome → State → Prop := va_Ql (fun (r : Int64) (u : U × V) => res = (r, u.1)) (fun u t => sd_B D g A (w1 u.1 u.2) t) A
section SDM
variable {p : Program} {l : Launch} {e : Env} {R : Room} {s : State} {m : MethodId} {args : Array Value} {below : List Frame} {meth : Method} {c : Code} {H : Heap} {locs : List Loc} {cells slots : Nat} {Q : State → Prop}
variable {cc : ByteArray} {pc : Nat} {ls : Array Slot} {rest : List Value} {D : va_G} {A : Nat → Prop} {a : Nat} {g : G4} {ws : va_W} {H0 : Heap} {nL : Nat} {own : String}
theorem sd_i1Mret {U V : Type} {res : Int32 × U} {w1 : U → V → va_W} {r : Int32} {u : U} {v : V} (hQ : Q = MQ below (sd_Qi1M D g res w1 A) args s cells slots A) (hx : p.tables.exec = Jvm.exec) (hb : c.code = cc) (hr : meth.sig.returnType = some .int) (hlk : meth.locks = false) (hK : va_K D classes (tyL g) s) (hP : va_P D classes (w1 u v) H) (hD : va_D A (w1 u v)) (hS : va_S A s.heap H locs) (hq : res = (r, u)) (hdg : decode cc pc = .ok (.ireturn, 1)) : W p l e R s m args below meth c H locs cells slots Q (F0 m pc ls [.int r]) := by
  subst hQ
  exact W.iret hx hb hr (fun t ht hW => ⟨⟨r, (u, v), rfl, hq, by rw [ht]; exact hP, va_K.moved hW.alike hK, hD⟩, hS.F ht⟩) hS.2.2 hdg hlk
theorem sd_l1Mret {U V : Type} {res : Int64 × U} {w1 : U → V → va_W} {r : Int64} {u : U} {v : V} (hQ : Q = MQ below (sd_Ql1M D g res w1 A) args s cells slots A) (hx : p.tables.exec = Jvm.exec) (hb : c.code = cc) (hr : meth.sig.returnType = some .long) (hlk : meth.locks = false) (hK : va_K D classes (tyL g) s) (hP : va_P D classes (w1 u v) H) (hD : va_D A (w1 u v)) (hS : va_S A s.heap H locs) (hq : res = (r, u)) (hdg : decode cc pc = .ok (.lreturn, 1)) : W p l e R s m args below meth c H locs cells slots Q (F0 m pc ls [.long r]) := by
  subst hQ
  exact W.lret hx hb hr (fun t ht hW => ⟨⟨r, (u, v), rfl, hq, by rw [ht]; exact hP, va_K.moved hW.alike hK, hD⟩, hS.F ht⟩) hS.2.2 hdg hlk
theorem sd_z1Mret {U V : Type} {res : Int32 × U} {w1 : U → V → va_W} {r : Int32} {u : U} {v : V} (hQ : Q = MQ below (sd_Qi1M D g res w1 A) args s cells slots A) (hx : p.tables.exec = Jvm.exec) (hb : c.code = cc) (hr : meth.sig.returnType = some .boolean) (hlk : meth.locks = false) (hn : narrow .boolean (.int r) = .int r) (hK : va_K D classes (tyL g) s) (hP : va_P D classes (w1 u v) H) (hD : va_D A (w1 u v)) (hS : va_S A s.heap H locs) (hq : res = (r, u)) (hdg : decode cc pc = .ok (.ireturn, 1)) : W p l e R s m args below meth c H locs cells slots Q (F0 m pc ls [.int r]) := by
  subst hQ
  exact W.zret hx hb hr hn (fun t ht hW => ⟨⟨r, (u, v), rfl, hq, by rw [ht]; exact hP, va_K.moved hW.alike hK, hD⟩, hS.F ht⟩) hS.2.2 hdg hlk
theorem sd_ci1M {U V : Type} {res : Int32 × U} {w1 : U → V → va_W} {wc wr : va_W} {w2 : V → va_W} {av : Array Value} {st0 : List Value} (hr : va_Run p l e R s m args below meth c H locs cells slots 0 0 (F0 m pc ls st0) rest (sd_Qi1M D g res w1 (va_A wc H.size) av) (va_A wc H.size)) (hP : va_P D classes ws H) (hD : va_D A ws) (hS : va_S A H0 H locs) (hA : ∀ q, H0.size ≤ q → A q) (isC isR : List Nat) (hC : isC.map (fun i => ws[i]?) = wc.map some) (hR : isR.map (fun i => ws[i]?) = wr.map some) (hn : va_nd isR = true) (hdis : ∀ i ∈ isR, i ∉ isC) (hw2 : ∀ v, wr ++ w1 res.2 v = w2 v) (kk : ∀ (v : V) (H1 : Heap) (locs1 : List Loc), va_P D classes (w2 v) H1 → va_D A (w2 v) → va_S A H0 H1 locs1 → W p l e R s m args below meth c H1 locs1 cells slots Q (F0 m (pc + 3) ls (.int res.1 :: rest))) : W p l e R s m args below meth c H locs cells slots Q (F0 m pc ls st0) := by
  have hF := va_free (wc := wc) hD hS hA isC hC
  refine va_calli hr hS (fun q _ h => hF q h) hF (fun r u t H1 locs1 ht hvm hw hB hz1 hk1 hS1 => ?_)
  obtain ⟨hP1, hK1, hD1⟩ := hB
  rw [ht] at hP1
  subst hw
  obtain ⟨hP2, hD2⟩ := va_join hP hD isC isR hC hR hn hdis hk1 hF hP1 hD1
  have e1 := hw2 u.2
  exact kk u.2 H1 locs1 (e1 ▸ hP2) (e1 ▸ hD2) hS1
theorem sd_cl1M {U V : Type} {res : Int64 × U} {w1 : U → V → va_W} {wc wr : va_W} {w2 : V → va_W} {av : Array Value} {st0 : List Value} (hr : va_Run p l e R s m args below meth c H locs cells slots 0 0 (F0 m pc ls st0) rest (sd_Ql1M D g res w1 (va_A wc H.size) av) (va_A wc H.size)) (hP : va_P D classes ws H) (hD : va_D A ws) (hS : va_S A H0 H locs) (hA : ∀ q, H0.size ≤ q → A q) (isC isR : List Nat) (hC : isC.map (fun i => ws[i]?) = wc.map some) (hR : isR.map (fun i => ws[i]?) = wr.map some) (hn : va_nd isR = true) (hdis : ∀ i ∈ isR, i ∉ isC) (hw2 : ∀ v, wr ++ w1 res.2 v = w2 v) (kk : ∀ (v : V) (H1 : Heap) (locs1 : List Loc), va_P D classes (w2 v) H1 → va_D A (w2 v) → va_S A H0 H1 locs1 → W p l e R s m args below meth c H1 locs1 cells slots Q (F0 m (pc + 3) ls (.long res.1 :: rest))) : W p l e R s m args below meth c H locs cells slots Q (F0 m pc ls st0) := by
  have hF := va_free (wc := wc) hD hS hA isC hC
  refine va_calll hr hS (fun q _ h => hF q h) hF (fun r u t H1 locs1 ht hvm hw hB hz1 hk1 hS1 => ?_)
  obtain ⟨hP1, hK1, hD1⟩ := hB
  rw [ht] at hP1
  subst hw
  obtain ⟨hP2, hD2⟩ := va_join hP hD isC isR hC hR hn hdis hk1 hF hP1 hD1
  have e1 := hw2 u.2
  exact kk u.2 H1 locs1 (e1 ▸ hP2) (e1 ▸ hD2) hS1
end SDM
