/-! the law's fourteen cases -/
set_option maxHeartbeats 4000000 in
set_option maxRecDepth 100000 in
theorem lk_0 {p : Program} {l : Launch} {e : Env} {s : State} {m : MethodId} {below : List Frame} {meth : Method} {c : Code} {D : va_G} {g : G4} {b L : Nat} {xs : Nat → Int32} (C0 : lw_At p s m meth c b L xs) (hK : va_K D classes (tyL g) s) {i : Nat} (hi : i + 6 ≤ L) (hL : L ≤ 3072) {x0 m0 : Nat} {H : Heap} {locs : List Loc} {ls : Array Slot} (hl : lv_has ls 4 [(0, .ref b), (1, .ref x0), (2, .ref m0), (3, .int (nI i))]) (h : lw_OK D g (fun q : Nat => s.heap.size ≤ q) s.heap x0 m0 H locs) (kk : ∀ (H1 : Heap) (locs1 : List Loc), lw_OK D g (fun q : Nat => s.heap.size ≤ q) s.heap x0 m0 H1 locs1 → W p l e room_1 s m #[Value.ref b] below meth c H1 locs1 107 4637 (lw_Z below #[Value.ref b] s) (F0 m 640 ls [])) : W p l e room_1 s m #[Value.ref b] below meth c H locs 107 4637 (lw_Z below #[Value.ref b] s) (F0 m 104 ls []) := by
  obtain ⟨hx, hb, hr, hml, hown, hts, hX, hbl, hlocks, hgv⟩ := id C0
  have S := lw_S0 C0
  have htt := sd_tt S
  have hA : ∀ q : Nat, s.heap.size ≤ q → (fun q : Nat => s.heap.size ≤ q) q := fun _ h => h
  have hbA : ¬ (fun q : Nat => s.heap.size ≤ q) b := Nat.not_le.mpr hbl
  obtain ⟨F, hF⟩ : ∃ F : Nat, 18446744073709551616 ≤ F := ⟨_, Nat.le_refl _⟩
  obtain ⟨a, sa, cq, ci, cj, cp, P, vi, vj, iv, dd, pk, pd, reg, hP, hD, hS, h0, h19, hReg, hRel, hOut⟩ := h
  subst h0
  subst h19
  have in1 : vp_in (nI i + 1) L := lw_in hi hL (k := 1) (by decide) rfl
  obtain ⟨v1, hv1⟩ : ∃ y : Int32, y = xs (nI i + 1).toNatClampNeg := ⟨_, rfl⟩
  have in2 : vp_in (nI i + 2) L := lw_in hi hL (k := 2) (by decide) rfl
  obtain ⟨v2, hv2⟩ : ∃ y : Int32, y = xs (nI i + 2).toNatClampNeg := ⟨_, rfl⟩
  have in3 : vp_in (nI i + 3) L := lw_in hi hL (k := 3) (by decide) rfl
  obtain ⟨v3, hv3⟩ : ∃ y : Int32, y = xs (nI i + 3).toNatClampNeg := ⟨_, rfl⟩
  have in4 : vp_in (nI i + 4) L := lw_in hi hL (k := 4) (by decide) rfl
  obtain ⟨v4, hv4⟩ : ∃ y : Int32, y = xs (nI i + 4).toNatClampNeg := ⟨_, rfl⟩
  have in5 : vp_in (nI i + 5) L := lw_in hi hL (k := 5) (by decide) rfl
  obtain ⟨v5, hv5⟩ : ∃ y : Int32, y = xs (nI i + 5).toNatClampNeg := ⟨_, rfl⟩
  obtain ⟨n1, en1⟩ : ∃ y : Int64, y = (v2.toInt64 <<< ((32 : Int32).toInt64 &&& 63)) ||| (v3.toInt64 &&& 4294967295) := ⟨_, rfl⟩
  obtain ⟨n2, en2⟩ : ∃ y : Int64, y = (v4.toInt64 <<< ((32 : Int32).toInt64 &&& 63)) ||| (v5.toInt64 &&& 4294967295) := ⟨_, rfl⟩
  obtain ⟨x, res, md', cn', cd', cr', cnt', oM, P', hz, hI, hm, eP, nP, hM, hRel'⟩ := st_load hF hReg hRel v1 n1 n2 (vi 2) (vi 3) (vi 4) (vi 5) (cj 24) (cj 25) (cj 26)
  refine lv_aload_n hx hb d_law_104 rfl (lv_at hl 1 rfl) ?_
  refine lv_aload_n hx hb d_law_105 rfl (lv_at hl 0 rfl) ?_
  refine lv_iload_n hx hb d_law_106 rfl (lv_at hl 3 rfl) ?_
  refine lv_iconst (v := 1) hx hb d_law_107 (by decide) ?_
  refine lv_iadd hx hb d_law_108 ?_
  refine va_sld hx hb hX hbl hbA hS in1 d_law_109 ?_
  refine sd_topi hv1 ?_
  refine lv_aload_n hx hb d_law_110 rfl (lv_at hl 0 rfl) ?_
  refine lv_iload_n hx hb d_law_111 rfl (lv_at hl 3 rfl) ?_
  refine lv_iconst (v := 2) hx hb d_law_112 (by decide) ?_
  refine lv_iadd hx hb d_law_113 ?_
  refine va_sld hx hb hX hbl hbA hS in2 d_law_114 ?_
  refine sd_topi hv2 ?_
  refine lv_i2l hx hb d_law_115 rfl ?_
  refine lv_bipush (v := (32 : Int32)) hx hb d_law_116 (by decide) ?_
  refine lv_lshl hx hb d_law_118 rfl ?_
  refine lv_aload_n hx hb d_law_119 rfl (lv_at hl 0 rfl) ?_
  refine lv_iload_n hx hb d_law_120 rfl (lv_at hl 3 rfl) ?_
  refine lv_iconst (v := 3) hx hb d_law_121 (by decide) ?_
  refine lv_iadd hx hb d_law_122 ?_
  refine va_sld hx hb hX hbl hbA hS in3 d_law_123 ?_
  refine sd_topi hv3 ?_
  refine lv_i2l hx hb d_law_124 rfl ?_
  refine sd_ldc2 (v := (4294967295 : Int64)) hx hb hown (htt _ km_law_13) d_law_125 ?_
  refine lv_land hx hb d_law_128 ?_
  refine lv_lor hx hb d_law_129 ?_
  refine sd_topj en1 ?_
  refine lv_aload_n hx hb d_law_130 rfl (lv_at hl 0 rfl) ?_
  refine lv_iload_n hx hb d_law_131 rfl (lv_at hl 3 rfl) ?_
  refine lv_iconst (v := 4) hx hb d_law_132 (by decide) ?_
  refine lv_iadd hx hb d_law_133 ?_
  refine va_sld hx hb hX hbl hbA hS in4 d_law_134 ?_
  refine sd_topi hv4 ?_
  refine lv_i2l hx hb d_law_135 rfl ?_
  refine lv_bipush (v := (32 : Int32)) hx hb d_law_136 (by decide) ?_
  refine lv_lshl hx hb d_law_138 rfl ?_
  refine lv_aload_n hx hb d_law_139 rfl (lv_at hl 0 rfl) ?_
  refine lv_iload_n hx hb d_law_140 rfl (lv_at hl 3 rfl) ?_
  refine lv_iconst (v := 5) hx hb d_law_141 (by decide) ?_
  refine lv_iadd hx hb d_law_142 ?_
  refine va_sld hx hb hX hbl hbA hS in5 d_law_143 ?_
  refine sd_topi hv5 ?_
  refine lv_i2l hx hb d_law_144 rfl ?_
  refine sd_ldc2 (v := (4294967295 : Int64)) hx hb hown (htt _ km_law_13) d_law_145 ?_
  refine lv_land hx hb d_law_148 ?_
  refine lv_lor hx hb d_law_149 ?_
  refine sd_topj en2 ?_
  refine lc_Desk_load S hK hP hD hS hA hz hm hI eP nP kl_law_15 (by decide) hl d_law_150 (Nat.le_of_ble_eq_true rfl) (by decide) (fun H locs hP hD hS => ?_)
  refine W.eq (g2 := F0 m 153 ls [.int res.1]) rfl ?_
  refine lv_aload_n hx hb d_law_153 rfl (lv_at hl 2 rfl) ?_
  refine lv_aload_n hx hb d_law_154 rfl (lv_at hl 0 rfl) ?_
  refine lv_iload_n hx hb d_law_155 rfl (lv_at hl 3 rfl) ?_
  refine lv_iconst (v := 1) hx hb d_law_156 (by decide) ?_
  refine lv_iadd hx hb d_law_157 ?_
  refine va_sld hx hb hX hbl hbA hS in1 d_law_158 ?_
  refine sd_topi hv1 ?_
  refine lv_aload_n hx hb d_law_159 rfl (lv_at hl 0 rfl) ?_
  refine lv_iload_n hx hb d_law_160 rfl (lv_at hl 3 rfl) ?_
  refine lv_iconst (v := 2) hx hb d_law_161 (by decide) ?_
  refine lv_iadd hx hb d_law_162 ?_
  refine va_sld hx hb hX hbl hbA hS in2 d_law_163 ?_
  refine sd_topi hv2 ?_
  refine lv_i2l hx hb d_law_164 rfl ?_
  refine lv_bipush (v := (32 : Int32)) hx hb d_law_165 (by decide) ?_
  refine lv_lshl hx hb d_law_167 rfl ?_
  refine lv_aload_n hx hb d_law_168 rfl (lv_at hl 0 rfl) ?_
  refine lv_iload_n hx hb d_law_169 rfl (lv_at hl 3 rfl) ?_
  refine lv_iconst (v := 3) hx hb d_law_170 (by decide) ?_
  refine lv_iadd hx hb d_law_171 ?_
  refine va_sld hx hb hX hbl hbA hS in3 d_law_172 ?_
  refine sd_topi hv3 ?_
  refine lv_i2l hx hb d_law_173 rfl ?_
  refine sd_ldc2 (v := (4294967295 : Int64)) hx hb hown (htt _ km_law_13) d_law_174 ?_
  refine lv_land hx hb d_law_177 ?_
  refine lv_lor hx hb d_law_178 ?_
  refine sd_topj en1 ?_
  refine lv_aload_n hx hb d_law_179 rfl (lv_at hl 0 rfl) ?_
  refine lv_iload_n hx hb d_law_180 rfl (lv_at hl 3 rfl) ?_
  refine lv_iconst (v := 4) hx hb d_law_181 (by decide) ?_
  refine lv_iadd hx hb d_law_182 ?_
  refine va_sld hx hb hX hbl hbA hS in4 d_law_183 ?_
  refine sd_topi hv4 ?_
  refine lv_i2l hx hb d_law_184 rfl ?_
  refine lv_bipush (v := (32 : Int32)) hx hb d_law_185 (by decide) ?_
  refine lv_lshl hx hb d_law_187 rfl ?_
  refine lv_aload_n hx hb d_law_188 rfl (lv_at hl 0 rfl) ?_
  refine lv_iload_n hx hb d_law_189 rfl (lv_at hl 3 rfl) ?_
  refine lv_iconst (v := 5) hx hb d_law_190 (by decide) ?_
  refine lv_iadd hx hb d_law_191 ?_
  refine va_sld hx hb hX hbl hbA hS in5 d_law_192 ?_
  refine sd_topi hv5 ?_
  refine lv_i2l hx hb d_law_193 rfl ?_
  refine sd_ldc2 (v := (4294967295 : Int64)) hx hb hown (htt _ km_law_13) d_law_194 ?_
  refine lv_land hx hb d_law_197 ?_
  refine lv_lor hx hb d_law_198 ?_
  refine sd_topj en2 ?_
  refine lc_Model_load (res := (res.1, md', cn', cd', cr', cnt', oM)) S hK hP hD hS hA hM kl_law_19 (by decide) hl d_law_199 (Nat.le_of_ble_eq_true rfl) (by decide) (fun H locs hP hD hS => ?_)
  refine W.eq (g2 := F0 m 202 ls [.int res.1, .int res.1]) rfl ?_
  refine lv_icmp_eq (tgt := 640) hx hb d_law_202 (by decide) (fun _ => ?_) (fun hc => absurd rfl hc)
  exact kk H locs ⟨_, _, _, _, _, _, _, _, _, _, _, _, _, reg, hP, hD, hS, rfl, rfl, hReg, hRel', hOut⟩
set_option maxHeartbeats 4000000 in
set_option maxRecDepth 100000 in
theorem lk_1 {p : Program} {l : Launch} {e : Env} {s : State} {m : MethodId} {below : List Frame} {meth : Method} {c : Code} {D : va_G} {g : G4} {b L : Nat} {xs : Nat → Int32} (C0 : lw_At p s m meth c b L xs) (hK : va_K D classes (tyL g) s) {i : Nat} (hi : i + 6 ≤ L) (hL : L ≤ 3072) {x0 m0 : Nat} {H : Heap} {locs : List Loc} {ls : Array Slot} (hl : lv_has ls 4 [(0, .ref b), (1, .ref x0), (2, .ref m0), (3, .int (nI i))]) (h : lw_OK D g (fun q : Nat => s.heap.size ≤ q) s.heap x0 m0 H locs) (kk : ∀ (H1 : Heap) (locs1 : List Loc), lw_OK D g (fun q : Nat => s.heap.size ≤ q) s.heap x0 m0 H1 locs1 → W p l e room_1 s m #[Value.ref b] below meth c H1 locs1 107 4637 (lw_Z below #[Value.ref b] s) (F0 m 640 ls [])) : W p l e room_1 s m #[Value.ref b] below meth c H locs 107 4637 (lw_Z below #[Value.ref b] s) (F0 m 207 ls []) := by
  obtain ⟨hx, hb, hr, hml, hown, hts, hX, hbl, hlocks, hgv⟩ := id C0
  have S := lw_S0 C0
  have htt := sd_tt S
  have hA : ∀ q : Nat, s.heap.size ≤ q → (fun q : Nat => s.heap.size ≤ q) q := fun _ h => h
  have hbA : ¬ (fun q : Nat => s.heap.size ≤ q) b := Nat.not_le.mpr hbl
  obtain ⟨F, hF⟩ : ∃ F : Nat, 18446744073709551616 ≤ F := ⟨_, Nat.le_refl _⟩
  obtain ⟨a, sa, cq, ci, cj, cp, P, vi, vj, iv, dd, pk, pd, reg, hP, hD, hS, h0, h19, hReg, hRel, hOut⟩ := h
  subst h0
  subst h19
  have in1 : vp_in (nI i + 1) L := lw_in hi hL (k := 1) (by decide) rfl
  obtain ⟨v1, hv1⟩ : ∃ y : Int32, y = xs (nI i + 1).toNatClampNeg := ⟨_, rfl⟩
  have in2 : vp_in (nI i + 2) L := lw_in hi hL (k := 2) (by decide) rfl
  obtain ⟨v2, hv2⟩ : ∃ y : Int32, y = xs (nI i + 2).toNatClampNeg := ⟨_, rfl⟩
  rcases st_root hF hReg hRel v1 v2 (vi 2) (vi 3) (vi 4) (vi 5) (cj 24) (cj 25) (cj 26) with ⟨x, y, res, md', cn', cd', cr', cnt', oM, P', hz, hz2, hxy, hI, hJ, hm, eP, nP, hM, hRel'⟩ | ⟨x, res, md', cn', cd', cr', cnt', oM, P', hz, hI, hJ, hm, eP, nP, hM, hRel'⟩
  · skip
    refine lv_aload_n hx hb d_law_207 rfl (lv_at hl 1 rfl) ?_
    refine lv_aload_n hx hb d_law_208 rfl (lv_at hl 0 rfl) ?_
    refine lv_iload_n hx hb d_law_209 rfl (lv_at hl 3 rfl) ?_
    refine lv_iconst (v := 1) hx hb d_law_210 (by decide) ?_
    refine lv_iadd hx hb d_law_211 ?_
    refine va_sld hx hb hX hbl hbA hS in1 d_law_212 ?_
    refine sd_topi hv1 ?_
    refine lv_aload_n hx hb d_law_213 rfl (lv_at hl 0 rfl) ?_
    refine lv_iload_n hx hb d_law_214 rfl (lv_at hl 3 rfl) ?_
    refine lv_iconst (v := 2) hx hb d_law_215 (by decide) ?_
    refine lv_iadd hx hb d_law_216 ?_
    refine va_sld hx hb hX hbl hbA hS in2 d_law_217 ?_
    refine sd_topi hv2 ?_
    refine lc_Desk_root S hK hP hD hS hA hz hz2 hxy hm hI hJ eP nP kl_law_20 (by decide) hl d_law_218 (Nat.le_of_ble_eq_true rfl) (by decide) (fun H locs hP hD hS => ?_)
    refine W.eq (g2 := F0 m 221 ls [.int res.1]) rfl ?_
    refine lv_aload_n hx hb d_law_221 rfl (lv_at hl 2 rfl) ?_
    refine lv_aload_n hx hb d_law_222 rfl (lv_at hl 0 rfl) ?_
    refine lv_iload_n hx hb d_law_223 rfl (lv_at hl 3 rfl) ?_
    refine lv_iconst (v := 1) hx hb d_law_224 (by decide) ?_
    refine lv_iadd hx hb d_law_225 ?_
    refine va_sld hx hb hX hbl hbA hS in1 d_law_226 ?_
    refine sd_topi hv1 ?_
    refine lv_aload_n hx hb d_law_227 rfl (lv_at hl 0 rfl) ?_
    refine lv_iload_n hx hb d_law_228 rfl (lv_at hl 3 rfl) ?_
    refine lv_iconst (v := 2) hx hb d_law_229 (by decide) ?_
    refine lv_iadd hx hb d_law_230 ?_
    refine va_sld hx hb hX hbl hbA hS in2 d_law_231 ?_
    refine sd_topi hv2 ?_
    refine lc_Model_root (res := (res.1, md', cn', cd', cr', cnt', oM)) S hK hP hD hS hA hM kl_law_24 (by decide) hl d_law_232 (Nat.le_of_ble_eq_true rfl) (by decide) (fun H locs hP hD hS => ?_)
    refine W.eq (g2 := F0 m 235 ls [.int res.1, .int res.1]) rfl ?_
    refine lv_icmp_eq (tgt := 640) hx hb d_law_235 (by decide) (fun _ => ?_) (fun hc => absurd rfl hc)
    exact kk H locs ⟨_, _, _, _, _, _, _, _, _, _, _, _, _, reg, hP, hD, hS, rfl, rfl, hReg, hRel', hOut⟩
  · skip
    refine lv_aload_n hx hb d_law_207 rfl (lv_at hl 1 rfl) ?_
    refine lv_aload_n hx hb d_law_208 rfl (lv_at hl 0 rfl) ?_
    refine lv_iload_n hx hb d_law_209 rfl (lv_at hl 3 rfl) ?_
    refine lv_iconst (v := 1) hx hb d_law_210 (by decide) ?_
    refine lv_iadd hx hb d_law_211 ?_
    refine va_sld hx hb hX hbl hbA hS in1 d_law_212 ?_
    refine sd_topi hv1 ?_
    refine lv_aload_n hx hb d_law_213 rfl (lv_at hl 0 rfl) ?_
    refine lv_iload_n hx hb d_law_214 rfl (lv_at hl 3 rfl) ?_
    refine lv_iconst (v := 2) hx hb d_law_215 (by decide) ?_
    refine lv_iadd hx hb d_law_216 ?_
    refine va_sld hx hb hX hbl hbA hS in2 d_law_217 ?_
    refine sd_topi hv2 ?_
    refine lc_Desk_root2 S hK hP hD hS hA hz hm hI hJ eP nP kl_law_20 (by decide) hl d_law_218 (Nat.le_of_ble_eq_true rfl) (by decide) (fun H locs hP hD hS => ?_)
    refine W.eq (g2 := F0 m 221 ls [.int res.1]) rfl ?_
    refine lv_aload_n hx hb d_law_221 rfl (lv_at hl 2 rfl) ?_
    refine lv_aload_n hx hb d_law_222 rfl (lv_at hl 0 rfl) ?_
    refine lv_iload_n hx hb d_law_223 rfl (lv_at hl 3 rfl) ?_
    refine lv_iconst (v := 1) hx hb d_law_224 (by decide) ?_
    refine lv_iadd hx hb d_law_225 ?_
    refine va_sld hx hb hX hbl hbA hS in1 d_law_226 ?_
    refine sd_topi hv1 ?_
    refine lv_aload_n hx hb d_law_227 rfl (lv_at hl 0 rfl) ?_
    refine lv_iload_n hx hb d_law_228 rfl (lv_at hl 3 rfl) ?_
    refine lv_iconst (v := 2) hx hb d_law_229 (by decide) ?_
    refine lv_iadd hx hb d_law_230 ?_
    refine va_sld hx hb hX hbl hbA hS in2 d_law_231 ?_
    refine sd_topi hv2 ?_
    refine lc_Model_root (res := (res.1, md', cn', cd', cr', cnt', oM)) S hK hP hD hS hA hM kl_law_24 (by decide) hl d_law_232 (Nat.le_of_ble_eq_true rfl) (by decide) (fun H locs hP hD hS => ?_)
    refine W.eq (g2 := F0 m 235 ls [.int res.1, .int res.1]) rfl ?_
    refine lv_icmp_eq (tgt := 640) hx hb d_law_235 (by decide) (fun _ => ?_) (fun hc => absurd rfl hc)
    exact kk H locs ⟨_, _, _, _, _, _, _, _, _, _, _, _, _, reg, hP, hD, hS, rfl, rfl, hReg, hRel', hOut⟩
set_option maxHeartbeats 4000000 in
set_option maxRecDepth 100000 in
theorem lk_2 {p : Program} {l : Launch} {e : Env} {s : State} {m : MethodId} {below : List Frame} {meth : Method} {c : Code} {D : va_G} {g : G4} {b L : Nat} {xs : Nat → Int32} (C0 : lw_At p s m meth c b L xs) (hK : va_K D classes (tyL g) s) {i : Nat} (hi : i + 6 ≤ L) (hL : L ≤ 3072) {x0 m0 : Nat} {H : Heap} {locs : List Loc} {ls : Array Slot} (hl : lv_has ls 4 [(0, .ref b), (1, .ref x0), (2, .ref m0), (3, .int (nI i))]) (h : lw_OK D g (fun q : Nat => s.heap.size ≤ q) s.heap x0 m0 H locs) (kk : ∀ (H1 : Heap) (locs1 : List Loc), lw_OK D g (fun q : Nat => s.heap.size ≤ q) s.heap x0 m0 H1 locs1 → W p l e room_1 s m #[Value.ref b] below meth c H1 locs1 107 4637 (lw_Z below #[Value.ref b] s) (F0 m 640 ls [])) : W p l e room_1 s m #[Value.ref b] below meth c H locs 107 4637 (lw_Z below #[Value.ref b] s) (F0 m 240 ls []) := by
  obtain ⟨hx, hb, hr, hml, hown, hts, hX, hbl, hlocks, hgv⟩ := id C0
  have S := lw_S0 C0
  have htt := sd_tt S
  have hA : ∀ q : Nat, s.heap.size ≤ q → (fun q : Nat => s.heap.size ≤ q) q := fun _ h => h
  have hbA : ¬ (fun q : Nat => s.heap.size ≤ q) b := Nat.not_le.mpr hbl
  obtain ⟨F, hF⟩ : ∃ F : Nat, 18446744073709551616 ≤ F := ⟨_, Nat.le_refl _⟩
  obtain ⟨a, sa, cq, ci, cj, cp, P, vi, vj, iv, dd, pk, pd, reg, hP, hD, hS, h0, h19, hReg, hRel, hOut⟩ := h
  subst h0
  subst h19
  have in1 : vp_in (nI i + 1) L := lw_in hi hL (k := 1) (by decide) rfl
  obtain ⟨v1, hv1⟩ : ∃ y : Int32, y = xs (nI i + 1).toNatClampNeg := ⟨_, rfl⟩
  have in2 : vp_in (nI i + 2) L := lw_in hi hL (k := 2) (by decide) rfl
  obtain ⟨v2, hv2⟩ : ∃ y : Int32, y = xs (nI i + 2).toNatClampNeg := ⟨_, rfl⟩
  have in3 : vp_in (nI i + 3) L := lw_in hi hL (k := 3) (by decide) rfl
  obtain ⟨v3, hv3⟩ : ∃ y : Int32, y = xs (nI i + 3).toNatClampNeg := ⟨_, rfl⟩
  have in4 : vp_in (nI i + 4) L := lw_in hi hL (k := 4) (by decide) rfl
  obtain ⟨v4, hv4⟩ : ∃ y : Int32, y = xs (nI i + 4).toNatClampNeg := ⟨_, rfl⟩
  rcases st_reckon hF hReg hRel v1 v2 v3 v4 (vi 2) (vi 3) (vi 4) (vi 5) (cj 24) (cj 25) (cj 26) with ⟨x, y, o, res, md', cn', cd', cr', cnt', oM, P', dd2, reg', hz, hz2, hd1, hd2, hxy, hKk, hI, hJ, hm, eA, eP, nP, hM, hReg', hRel'⟩ | ⟨x, o, res, md', cn', cd', cr', cnt', oM, P', dd2, reg', hz, hd1, hKk, hI, hJ, hm, eA, eP, nP, hM, hReg', hRel'⟩
  · skip
    refine lv_aload_n hx hb d_law_240 rfl (lv_at hl 1 rfl) ?_
    refine lv_aload_n hx hb d_law_241 rfl (lv_at hl 0 rfl) ?_
    refine lv_iload_n hx hb d_law_242 rfl (lv_at hl 3 rfl) ?_
    refine lv_iconst (v := 1) hx hb d_law_243 (by decide) ?_
    refine lv_iadd hx hb d_law_244 ?_
    refine va_sld hx hb hX hbl hbA hS in1 d_law_245 ?_
    refine sd_topi hv1 ?_
    refine lv_aload_n hx hb d_law_246 rfl (lv_at hl 0 rfl) ?_
    refine lv_iload_n hx hb d_law_247 rfl (lv_at hl 3 rfl) ?_
    refine lv_iconst (v := 2) hx hb d_law_248 (by decide) ?_
    refine lv_iadd hx hb d_law_249 ?_
    refine va_sld hx hb hX hbl hbA hS in2 d_law_250 ?_
    refine sd_topi hv2 ?_
    refine lv_aload_n hx hb d_law_251 rfl (lv_at hl 0 rfl) ?_
    refine lv_iload_n hx hb d_law_252 rfl (lv_at hl 3 rfl) ?_
    refine lv_iconst (v := 3) hx hb d_law_253 (by decide) ?_
    refine lv_iadd hx hb d_law_254 ?_
    refine va_sld hx hb hX hbl hbA hS in3 d_law_255 ?_
    refine sd_topi hv3 ?_
    refine lv_aload_n hx hb d_law_256 rfl (lv_at hl 0 rfl) ?_
    refine lv_iload_n hx hb d_law_257 rfl (lv_at hl 3 rfl) ?_
    refine lv_iconst (v := 4) hx hb d_law_258 (by decide) ?_
    refine lv_iadd hx hb d_law_259 ?_
    refine va_sld hx hb hX hbl hbA hS in4 d_law_260 ?_
    refine sd_topi hv4 ?_
    refine lc_Desk_reckon S hK hP hD hS hA hReg.2.2.2.1 hz hz2 hd1 hd2 hxy hm hKk hI hJ eP nP eA kl_law_25 (by decide) hl d_law_261 (Nat.le_of_ble_eq_true rfl) (by decide) (fun H locs hP hD hS => ?_)
    refine W.eq (g2 := F0 m 264 ls [.int res.1]) rfl ?_
    refine lv_aload_n hx hb d_law_264 rfl (lv_at hl 2 rfl) ?_
    refine lv_aload_n hx hb d_law_265 rfl (lv_at hl 0 rfl) ?_
    refine lv_iload_n hx hb d_law_266 rfl (lv_at hl 3 rfl) ?_
    refine lv_iconst (v := 1) hx hb d_law_267 (by decide) ?_
    refine lv_iadd hx hb d_law_268 ?_
    refine va_sld hx hb hX hbl hbA hS in1 d_law_269 ?_
    refine sd_topi hv1 ?_
    refine lv_aload_n hx hb d_law_270 rfl (lv_at hl 0 rfl) ?_
    refine lv_iload_n hx hb d_law_271 rfl (lv_at hl 3 rfl) ?_
    refine lv_iconst (v := 2) hx hb d_law_272 (by decide) ?_
    refine lv_iadd hx hb d_law_273 ?_
    refine va_sld hx hb hX hbl hbA hS in2 d_law_274 ?_
    refine sd_topi hv2 ?_
    refine lv_aload_n hx hb d_law_275 rfl (lv_at hl 0 rfl) ?_
    refine lv_iload_n hx hb d_law_276 rfl (lv_at hl 3 rfl) ?_
    refine lv_iconst (v := 3) hx hb d_law_277 (by decide) ?_
    refine lv_iadd hx hb d_law_278 ?_
    refine va_sld hx hb hX hbl hbA hS in3 d_law_279 ?_
    refine sd_topi hv3 ?_
    refine lv_aload_n hx hb d_law_280 rfl (lv_at hl 0 rfl) ?_
    refine lv_iload_n hx hb d_law_281 rfl (lv_at hl 3 rfl) ?_
    refine lv_iconst (v := 4) hx hb d_law_282 (by decide) ?_
    refine lv_iadd hx hb d_law_283 ?_
    refine va_sld hx hb hX hbl hbA hS in4 d_law_284 ?_
    refine sd_topi hv4 ?_
    refine lc_Model_reckon (res := (res.1, md', cn', cd', cr', cnt', oM)) S hK hP hD hS hA hM kl_law_29 (by decide) hl d_law_285 (Nat.le_of_ble_eq_true rfl) (by decide) (fun H locs hP hD hS => ?_)
    refine W.eq (g2 := F0 m 288 ls [.int res.1, .int res.1]) rfl ?_
    refine lv_icmp_eq (tgt := 640) hx hb d_law_288 (by decide) (fun _ => ?_) (fun hc => absurd rfl hc)
    exact kk H locs ⟨_, _, _, _, _, _, _, _, _, _, _, _, _, reg', hP, hD, hS, rfl, rfl, hReg', hRel', hOut⟩
  · skip
    refine lv_aload_n hx hb d_law_240 rfl (lv_at hl 1 rfl) ?_
    refine lv_aload_n hx hb d_law_241 rfl (lv_at hl 0 rfl) ?_
    refine lv_iload_n hx hb d_law_242 rfl (lv_at hl 3 rfl) ?_
    refine lv_iconst (v := 1) hx hb d_law_243 (by decide) ?_
    refine lv_iadd hx hb d_law_244 ?_
    refine va_sld hx hb hX hbl hbA hS in1 d_law_245 ?_
    refine sd_topi hv1 ?_
    refine lv_aload_n hx hb d_law_246 rfl (lv_at hl 0 rfl) ?_
    refine lv_iload_n hx hb d_law_247 rfl (lv_at hl 3 rfl) ?_
    refine lv_iconst (v := 2) hx hb d_law_248 (by decide) ?_
    refine lv_iadd hx hb d_law_249 ?_
    refine va_sld hx hb hX hbl hbA hS in2 d_law_250 ?_
    refine sd_topi hv2 ?_
    refine lv_aload_n hx hb d_law_251 rfl (lv_at hl 0 rfl) ?_
    refine lv_iload_n hx hb d_law_252 rfl (lv_at hl 3 rfl) ?_
    refine lv_iconst (v := 3) hx hb d_law_253 (by decide) ?_
    refine lv_iadd hx hb d_law_254 ?_
    refine va_sld hx hb hX hbl hbA hS in3 d_law_255 ?_
    refine sd_topi hv3 ?_
    refine lv_aload_n hx hb d_law_256 rfl (lv_at hl 0 rfl) ?_
    refine lv_iload_n hx hb d_law_257 rfl (lv_at hl 3 rfl) ?_
    refine lv_iconst (v := 4) hx hb d_law_258 (by decide) ?_
    refine lv_iadd hx hb d_law_259 ?_
    refine va_sld hx hb hX hbl hbA hS in4 d_law_260 ?_
    refine sd_topi hv4 ?_
    refine lc_Desk_reckon2 S hK hP hD hS hA hReg.2.2.2.1 hz hd1 hm hKk hI hJ eP nP eA kl_law_25 (by decide) hl d_law_261 (Nat.le_of_ble_eq_true rfl) (by decide) (fun H locs hP hD hS => ?_)
    refine W.eq (g2 := F0 m 264 ls [.int res.1]) rfl ?_
    refine lv_aload_n hx hb d_law_264 rfl (lv_at hl 2 rfl) ?_
    refine lv_aload_n hx hb d_law_265 rfl (lv_at hl 0 rfl) ?_
    refine lv_iload_n hx hb d_law_266 rfl (lv_at hl 3 rfl) ?_
    refine lv_iconst (v := 1) hx hb d_law_267 (by decide) ?_
    refine lv_iadd hx hb d_law_268 ?_
    refine va_sld hx hb hX hbl hbA hS in1 d_law_269 ?_
    refine sd_topi hv1 ?_
    refine lv_aload_n hx hb d_law_270 rfl (lv_at hl 0 rfl) ?_
    refine lv_iload_n hx hb d_law_271 rfl (lv_at hl 3 rfl) ?_
    refine lv_iconst (v := 2) hx hb d_law_272 (by decide) ?_
    refine lv_iadd hx hb d_law_273 ?_
    refine va_sld hx hb hX hbl hbA hS in2 d_law_274 ?_
    refine sd_topi hv2 ?_
    refine lv_aload_n hx hb d_law_275 rfl (lv_at hl 0 rfl) ?_
    refine lv_iload_n hx hb d_law_276 rfl (lv_at hl 3 rfl) ?_
    refine lv_iconst (v := 3) hx hb d_law_277 (by decide) ?_
    refine lv_iadd hx hb d_law_278 ?_
    refine va_sld hx hb hX hbl hbA hS in3 d_law_279 ?_
    refine sd_topi hv3 ?_
    refine lv_aload_n hx hb d_law_280 rfl (lv_at hl 0 rfl) ?_
    refine lv_iload_n hx hb d_law_281 rfl (lv_at hl 3 rfl) ?_
    refine lv_iconst (v := 4) hx hb d_law_282 (by decide) ?_
    refine lv_iadd hx hb d_law_283 ?_
    refine va_sld hx hb hX hbl hbA hS in4 d_law_284 ?_
    refine sd_topi hv4 ?_
    refine lc_Model_reckon (res := (res.1, md', cn', cd', cr', cnt', oM)) S hK hP hD hS hA hM kl_law_29 (by decide) hl d_law_285 (Nat.le_of_ble_eq_true rfl) (by decide) (fun H locs hP hD hS => ?_)
    refine W.eq (g2 := F0 m 288 ls [.int res.1, .int res.1]) rfl ?_
    refine lv_icmp_eq (tgt := 640) hx hb d_law_288 (by decide) (fun _ => ?_) (fun hc => absurd rfl hc)
    exact kk H locs ⟨_, _, _, _, _, _, _, _, _, _, _, _, _, reg', hP, hD, hS, rfl, rfl, hReg', hRel', hOut⟩
set_option maxHeartbeats 4000000 in
set_option maxRecDepth 100000 in
theorem lk_3 {p : Program} {l : Launch} {e : Env} {s : State} {m : MethodId} {below : List Frame} {meth : Method} {c : Code} {D : va_G} {g : G4} {b L : Nat} {xs : Nat → Int32} (C0 : lw_At p s m meth c b L xs) (hK : va_K D classes (tyL g) s) {i : Nat} (hi : i + 6 ≤ L) (hL : L ≤ 3072) {x0 m0 : Nat} {H : Heap} {locs : List Loc} {ls : Array Slot} (hl : lv_has ls 4 [(0, .ref b), (1, .ref x0), (2, .ref m0), (3, .int (nI i))]) (h : lw_OK D g (fun q : Nat => s.heap.size ≤ q) s.heap x0 m0 H locs) (kk : ∀ (H1 : Heap) (locs1 : List Loc), lw_OK D g (fun q : Nat => s.heap.size ≤ q) s.heap x0 m0 H1 locs1 → W p l e room_1 s m #[Value.ref b] below meth c H1 locs1 107 4637 (lw_Z below #[Value.ref b] s) (F0 m 640 ls [])) : W p l e room_1 s m #[Value.ref b] below meth c H locs 107 4637 (lw_Z below #[Value.ref b] s) (F0 m 293 ls []) := by
  obtain ⟨hx, hb, hr, hml, hown, hts, hX, hbl, hlocks, hgv⟩ := id C0
  have S := lw_S0 C0
  have htt := sd_tt S
  have hA : ∀ q : Nat, s.heap.size ≤ q → (fun q : Nat => s.heap.size ≤ q) q := fun _ h => h
  have hbA : ¬ (fun q : Nat => s.heap.size ≤ q) b := Nat.not_le.mpr hbl
  obtain ⟨F, hF⟩ : ∃ F : Nat, 18446744073709551616 ≤ F := ⟨_, Nat.le_refl _⟩
  obtain ⟨a, sa, cq, ci, cj, cp, P, vi, vj, iv, dd, pk, pd, reg, hP, hD, hS, h0, h19, hReg, hRel, hOut⟩ := h
  subst h0
  subst h19
  have in1 : vp_in (nI i + 1) L := lw_in hi hL (k := 1) (by decide) rfl
  obtain ⟨v1, hv1⟩ : ∃ y : Int32, y = xs (nI i + 1).toNatClampNeg := ⟨_, rfl⟩
  have in2 : vp_in (nI i + 2) L := lw_in hi hL (k := 2) (by decide) rfl
  obtain ⟨v2, hv2⟩ : ∃ y : Int32, y = xs (nI i + 2).toNatClampNeg := ⟨_, rfl⟩
  have in3 : vp_in (nI i + 3) L := lw_in hi hL (k := 3) (by decide) rfl
  obtain ⟨v3, hv3⟩ : ∃ y : Int32, y = xs (nI i + 3).toNatClampNeg := ⟨_, rfl⟩
  rcases st_divide hF hReg hRel v1 v2 v3 (vi 2) (vi 3) (vi 4) (vi 5) (cj 24) (cj 25) (cj 26) with ⟨x, y, o, res, md', cn', cd', cr', cnt', oM, P', dd2, reg', hz, hz2, hd1, hd2, hi1, hi2, hxy, hKk, hI, hJ, hm, eA, eP, eP2, nP, hM, hReg', hRel'⟩ | ⟨x, o, res, md', cn', cd', cr', cnt', oM, P', dd2, reg', hz, hd1, hi1, hKk, hI, hJ, hm, eA, eP, eP2, nP, hM, hReg', hRel'⟩
  · skip
    refine lv_aload_n hx hb d_law_293 rfl (lv_at hl 1 rfl) ?_
    refine lv_aload_n hx hb d_law_294 rfl (lv_at hl 0 rfl) ?_
    refine lv_iload_n hx hb d_law_295 rfl (lv_at hl 3 rfl) ?_
    refine lv_iconst (v := 1) hx hb d_law_296 (by decide) ?_
    refine lv_iadd hx hb d_law_297 ?_
    refine va_sld hx hb hX hbl hbA hS in1 d_law_298 ?_
    refine sd_topi hv1 ?_
    refine lv_aload_n hx hb d_law_299 rfl (lv_at hl 0 rfl) ?_
    refine lv_iload_n hx hb d_law_300 rfl (lv_at hl 3 rfl) ?_
    refine lv_iconst (v := 2) hx hb d_law_301 (by decide) ?_
    refine lv_iadd hx hb d_law_302 ?_
    refine va_sld hx hb hX hbl hbA hS in2 d_law_303 ?_
    refine sd_topi hv2 ?_
    refine lv_aload_n hx hb d_law_304 rfl (lv_at hl 0 rfl) ?_
    refine lv_iload_n hx hb d_law_305 rfl (lv_at hl 3 rfl) ?_
    refine lv_iconst (v := 3) hx hb d_law_306 (by decide) ?_
    refine lv_iadd hx hb d_law_307 ?_
    refine va_sld hx hb hX hbl hbA hS in3 d_law_308 ?_
    refine sd_topi hv3 ?_
    refine lc_Desk_divide S hK hP hD hS hA hReg.2.2.2.1 hReg.2.2.1 hz hz2 hReg.2.2.2.2 hd1 hd2 hi1 hi2 hxy hm hKk hI hJ eP eP2 nP eA kl_law_30 (by decide) hl d_law_309 (Nat.le_of_ble_eq_true rfl) (by decide) (fun H locs hP hD hS => ?_)
    refine W.eq (g2 := F0 m 312 ls [.int res.1]) rfl ?_
    refine lv_aload_n hx hb d_law_312 rfl (lv_at hl 2 rfl) ?_
    refine lv_aload_n hx hb d_law_313 rfl (lv_at hl 0 rfl) ?_
    refine lv_iload_n hx hb d_law_314 rfl (lv_at hl 3 rfl) ?_
    refine lv_iconst (v := 1) hx hb d_law_315 (by decide) ?_
    refine lv_iadd hx hb d_law_316 ?_
    refine va_sld hx hb hX hbl hbA hS in1 d_law_317 ?_
    refine sd_topi hv1 ?_
    refine lv_aload_n hx hb d_law_318 rfl (lv_at hl 0 rfl) ?_
    refine lv_iload_n hx hb d_law_319 rfl (lv_at hl 3 rfl) ?_
    refine lv_iconst (v := 2) hx hb d_law_320 (by decide) ?_
    refine lv_iadd hx hb d_law_321 ?_
    refine va_sld hx hb hX hbl hbA hS in2 d_law_322 ?_
    refine sd_topi hv2 ?_
    refine lv_aload_n hx hb d_law_323 rfl (lv_at hl 0 rfl) ?_
    refine lv_iload_n hx hb d_law_324 rfl (lv_at hl 3 rfl) ?_
    refine lv_iconst (v := 3) hx hb d_law_325 (by decide) ?_
    refine lv_iadd hx hb d_law_326 ?_
    refine va_sld hx hb hX hbl hbA hS in3 d_law_327 ?_
    refine sd_topi hv3 ?_
    refine lc_Model_divide (res := (res.1, md', cn', cd', cr', cnt', oM)) S hK hP hD hS hA hM kl_law_34 (by decide) hl d_law_328 (Nat.le_of_ble_eq_true rfl) (by decide) (fun H locs hP hD hS => ?_)
    refine W.eq (g2 := F0 m 331 ls [.int res.1, .int res.1]) rfl ?_
    refine lv_icmp_eq (tgt := 640) hx hb d_law_331 (by decide) (fun _ => ?_) (fun hc => absurd rfl hc)
    exact kk H locs ⟨_, _, _, _, _, _, _, _, _, _, _, _, _, reg', hP, hD, hS, rfl, rfl, hReg', hRel', hOut⟩
  · skip
    refine lv_aload_n hx hb d_law_293 rfl (lv_at hl 1 rfl) ?_
    refine lv_aload_n hx hb d_law_294 rfl (lv_at hl 0 rfl) ?_
    refine lv_iload_n hx hb d_law_295 rfl (lv_at hl 3 rfl) ?_
    refine lv_iconst (v := 1) hx hb d_law_296 (by decide) ?_
    refine lv_iadd hx hb d_law_297 ?_
    refine va_sld hx hb hX hbl hbA hS in1 d_law_298 ?_
    refine sd_topi hv1 ?_
    refine lv_aload_n hx hb d_law_299 rfl (lv_at hl 0 rfl) ?_
    refine lv_iload_n hx hb d_law_300 rfl (lv_at hl 3 rfl) ?_
    refine lv_iconst (v := 2) hx hb d_law_301 (by decide) ?_
    refine lv_iadd hx hb d_law_302 ?_
    refine va_sld hx hb hX hbl hbA hS in2 d_law_303 ?_
    refine sd_topi hv2 ?_
    refine lv_aload_n hx hb d_law_304 rfl (lv_at hl 0 rfl) ?_
    refine lv_iload_n hx hb d_law_305 rfl (lv_at hl 3 rfl) ?_
    refine lv_iconst (v := 3) hx hb d_law_306 (by decide) ?_
    refine lv_iadd hx hb d_law_307 ?_
    refine va_sld hx hb hX hbl hbA hS in3 d_law_308 ?_
    refine sd_topi hv3 ?_
    refine lc_Desk_divide2 S hK hP hD hS hA hReg.2.2.2.1 hReg.2.2.1 hz hReg.2.2.2.2 hd1 hi1 hm hKk hI hJ eP eP2 nP eA kl_law_30 (by decide) hl d_law_309 (Nat.le_of_ble_eq_true rfl) (by decide) (fun H locs hP hD hS => ?_)
    refine W.eq (g2 := F0 m 312 ls [.int res.1]) rfl ?_
    refine lv_aload_n hx hb d_law_312 rfl (lv_at hl 2 rfl) ?_
    refine lv_aload_n hx hb d_law_313 rfl (lv_at hl 0 rfl) ?_
    refine lv_iload_n hx hb d_law_314 rfl (lv_at hl 3 rfl) ?_
    refine lv_iconst (v := 1) hx hb d_law_315 (by decide) ?_
    refine lv_iadd hx hb d_law_316 ?_
    refine va_sld hx hb hX hbl hbA hS in1 d_law_317 ?_
    refine sd_topi hv1 ?_
    refine lv_aload_n hx hb d_law_318 rfl (lv_at hl 0 rfl) ?_
    refine lv_iload_n hx hb d_law_319 rfl (lv_at hl 3 rfl) ?_
    refine lv_iconst (v := 2) hx hb d_law_320 (by decide) ?_
    refine lv_iadd hx hb d_law_321 ?_
    refine va_sld hx hb hX hbl hbA hS in2 d_law_322 ?_
    refine sd_topi hv2 ?_
    refine lv_aload_n hx hb d_law_323 rfl (lv_at hl 0 rfl) ?_
    refine lv_iload_n hx hb d_law_324 rfl (lv_at hl 3 rfl) ?_
    refine lv_iconst (v := 3) hx hb d_law_325 (by decide) ?_
    refine lv_iadd hx hb d_law_326 ?_
    refine va_sld hx hb hX hbl hbA hS in3 d_law_327 ?_
    refine sd_topi hv3 ?_
    refine lc_Model_divide (res := (res.1, md', cn', cd', cr', cnt', oM)) S hK hP hD hS hA hM kl_law_34 (by decide) hl d_law_328 (Nat.le_of_ble_eq_true rfl) (by decide) (fun H locs hP hD hS => ?_)
    refine W.eq (g2 := F0 m 331 ls [.int res.1, .int res.1]) rfl ?_
    refine lv_icmp_eq (tgt := 640) hx hb d_law_331 (by decide) (fun _ => ?_) (fun hc => absurd rfl hc)
    exact kk H locs ⟨_, _, _, _, _, _, _, _, _, _, _, _, _, reg', hP, hD, hS, rfl, rfl, hReg', hRel', hOut⟩
set_option maxHeartbeats 4000000 in
set_option maxRecDepth 100000 in
theorem lk_4 {p : Program} {l : Launch} {e : Env} {s : State} {m : MethodId} {below : List Frame} {meth : Method} {c : Code} {D : va_G} {g : G4} {b L : Nat} {xs : Nat → Int32} (C0 : lw_At p s m meth c b L xs) (hK : va_K D classes (tyL g) s) {i : Nat} (hi : i + 6 ≤ L) (hL : L ≤ 3072) {x0 m0 : Nat} {H : Heap} {locs : List Loc} {ls : Array Slot} (hl : lv_has ls 4 [(0, .ref b), (1, .ref x0), (2, .ref m0), (3, .int (nI i))]) (h : lw_OK D g (fun q : Nat => s.heap.size ≤ q) s.heap x0 m0 H locs) (kk : ∀ (H1 : Heap) (locs1 : List Loc), lw_OK D g (fun q : Nat => s.heap.size ≤ q) s.heap x0 m0 H1 locs1 → W p l e room_1 s m #[Value.ref b] below meth c H1 locs1 107 4637 (lw_Z below #[Value.ref b] s) (F0 m 640 ls [])) : W p l e room_1 s m #[Value.ref b] below meth c H locs 107 4637 (lw_Z below #[Value.ref b] s) (F0 m 336 ls []) := by
  obtain ⟨hx, hb, hr, hml, hown, hts, hX, hbl, hlocks, hgv⟩ := id C0
  have S := lw_S0 C0
  have htt := sd_tt S
  have hA : ∀ q : Nat, s.heap.size ≤ q → (fun q : Nat => s.heap.size ≤ q) q := fun _ h => h
  have hbA : ¬ (fun q : Nat => s.heap.size ≤ q) b := Nat.not_le.mpr hbl
  obtain ⟨F, hF⟩ : ∃ F : Nat, 18446744073709551616 ≤ F := ⟨_, Nat.le_refl _⟩
  obtain ⟨a, sa, cq, ci, cj, cp, P, vi, vj, iv, dd, pk, pd, reg, hP, hD, hS, h0, h19, hReg, hRel, hOut⟩ := h
  subst h0
  subst h19
  have in1 : vp_in (nI i + 1) L := lw_in hi hL (k := 1) (by decide) rfl
  obtain ⟨v1, hv1⟩ : ∃ y : Int32, y = xs (nI i + 1).toNatClampNeg := ⟨_, rfl⟩
  have in2 : vp_in (nI i + 2) L := lw_in hi hL (k := 2) (by decide) rfl
  obtain ⟨v2, hv2⟩ : ∃ y : Int32, y = xs (nI i + 2).toNatClampNeg := ⟨_, rfl⟩
  rcases st_compare hF hReg hRel v1 v2 (vj 0) (vj 1) (ci 3) (ci 4) (ci 5) (vi 2) (vi 3) (vi 4) (vi 5) (cj 28) (cj 29) (cj 30) (cj 31) (cj 32) (cj 33) (cj 34) (cj 35) (cj 36) (cj 38) (cj 39) with ⟨x, y, res, oM, P', hz, hz2, hxy, hI, hJ, hm, eP, eP2, nP, hM, hRel'⟩ | ⟨x, res, oM, P', hz, hI, hJ, hm, eP, nP, hM, hRel'⟩
  · skip
    refine lv_aload_n hx hb d_law_336 rfl (lv_at hl 1 rfl) ?_
    refine lv_aload_n hx hb d_law_337 rfl (lv_at hl 0 rfl) ?_
    refine lv_iload_n hx hb d_law_338 rfl (lv_at hl 3 rfl) ?_
    refine lv_iconst (v := 1) hx hb d_law_339 (by decide) ?_
    refine lv_iadd hx hb d_law_340 ?_
    refine va_sld hx hb hX hbl hbA hS in1 d_law_341 ?_
    refine sd_topi hv1 ?_
    refine lv_aload_n hx hb d_law_342 rfl (lv_at hl 0 rfl) ?_
    refine lv_iload_n hx hb d_law_343 rfl (lv_at hl 3 rfl) ?_
    refine lv_iconst (v := 2) hx hb d_law_344 (by decide) ?_
    refine lv_iadd hx hb d_law_345 ?_
    refine va_sld hx hb hX hbl hbA hS in2 d_law_346 ?_
    refine sd_topi hv2 ?_
    refine lc_Desk_compare S hK hP hD hS hA hz hz2 hxy hm hI hJ eP eP2 nP kl_law_35 (by decide) hl d_law_347 (Nat.le_of_ble_eq_true rfl) (by decide) (fun H locs hP hD hS => ?_)
    refine W.eq (g2 := F0 m 350 ls [.int res.1]) rfl ?_
    refine lv_aload_n hx hb d_law_350 rfl (lv_at hl 2 rfl) ?_
    refine lv_aload_n hx hb d_law_351 rfl (lv_at hl 0 rfl) ?_
    refine lv_iload_n hx hb d_law_352 rfl (lv_at hl 3 rfl) ?_
    refine lv_iconst (v := 1) hx hb d_law_353 (by decide) ?_
    refine lv_iadd hx hb d_law_354 ?_
    refine va_sld hx hb hX hbl hbA hS in1 d_law_355 ?_
    refine sd_topi hv1 ?_
    refine lv_aload_n hx hb d_law_356 rfl (lv_at hl 0 rfl) ?_
    refine lv_iload_n hx hb d_law_357 rfl (lv_at hl 3 rfl) ?_
    refine lv_iconst (v := 2) hx hb d_law_358 (by decide) ?_
    refine lv_iadd hx hb d_law_359 ?_
    refine va_sld hx hb hX hbl hbA hS in2 d_law_360 ?_
    refine sd_topi hv2 ?_
    refine lc_Model_compare (res := (res.1, oM)) S hK hP hD hS hA hM kl_law_38 (by decide) hl d_law_361 (Nat.le_of_ble_eq_true rfl) (by decide) (fun H locs hP hD hS => ?_)
    refine W.eq (g2 := F0 m 364 ls [.int res.1, .int res.1]) rfl ?_
    refine lv_icmp_eq (tgt := 640) hx hb d_law_364 (by decide) (fun _ => ?_) (fun hc => absurd rfl hc)
    exact kk H locs ⟨_, _, _, _, _, _, _, _, _, _, _, _, _, reg, hP, hD, hS, rfl, rfl, hReg, hRel', hOut⟩
  · skip
    refine lv_aload_n hx hb d_law_336 rfl (lv_at hl 1 rfl) ?_
    refine lv_aload_n hx hb d_law_337 rfl (lv_at hl 0 rfl) ?_
    refine lv_iload_n hx hb d_law_338 rfl (lv_at hl 3 rfl) ?_
    refine lv_iconst (v := 1) hx hb d_law_339 (by decide) ?_
    refine lv_iadd hx hb d_law_340 ?_
    refine va_sld hx hb hX hbl hbA hS in1 d_law_341 ?_
    refine sd_topi hv1 ?_
    refine lv_aload_n hx hb d_law_342 rfl (lv_at hl 0 rfl) ?_
    refine lv_iload_n hx hb d_law_343 rfl (lv_at hl 3 rfl) ?_
    refine lv_iconst (v := 2) hx hb d_law_344 (by decide) ?_
    refine lv_iadd hx hb d_law_345 ?_
    refine va_sld hx hb hX hbl hbA hS in2 d_law_346 ?_
    refine sd_topi hv2 ?_
    refine lc_Desk_compare2 S hK hP hD hS hA hz hm hI hJ eP nP kl_law_35 (by decide) hl d_law_347 (Nat.le_of_ble_eq_true rfl) (by decide) (fun H locs hP hD hS => ?_)
    refine W.eq (g2 := F0 m 350 ls [.int res.1]) rfl ?_
    refine lv_aload_n hx hb d_law_350 rfl (lv_at hl 2 rfl) ?_
    refine lv_aload_n hx hb d_law_351 rfl (lv_at hl 0 rfl) ?_
    refine lv_iload_n hx hb d_law_352 rfl (lv_at hl 3 rfl) ?_
    refine lv_iconst (v := 1) hx hb d_law_353 (by decide) ?_
    refine lv_iadd hx hb d_law_354 ?_
    refine va_sld hx hb hX hbl hbA hS in1 d_law_355 ?_
    refine sd_topi hv1 ?_
    refine lv_aload_n hx hb d_law_356 rfl (lv_at hl 0 rfl) ?_
    refine lv_iload_n hx hb d_law_357 rfl (lv_at hl 3 rfl) ?_
    refine lv_iconst (v := 2) hx hb d_law_358 (by decide) ?_
    refine lv_iadd hx hb d_law_359 ?_
    refine va_sld hx hb hX hbl hbA hS in2 d_law_360 ?_
    refine sd_topi hv2 ?_
    refine lc_Model_compare (res := (res.1, oM)) S hK hP hD hS hA hM kl_law_38 (by decide) hl d_law_361 (Nat.le_of_ble_eq_true rfl) (by decide) (fun H locs hP hD hS => ?_)
    refine W.eq (g2 := F0 m 364 ls [.int res.1, .int res.1]) rfl ?_
    refine lv_icmp_eq (tgt := 640) hx hb d_law_364 (by decide) (fun _ => ?_) (fun hc => absurd rfl hc)
    exact kk H locs ⟨_, _, _, _, _, _, _, _, _, _, _, _, _, reg, hP, hD, hS, rfl, rfl, hReg, hRel', hOut⟩
set_option maxHeartbeats 4000000 in
set_option maxRecDepth 100000 in
theorem lk_5 {p : Program} {l : Launch} {e : Env} {s : State} {m : MethodId} {below : List Frame} {meth : Method} {c : Code} {D : va_G} {g : G4} {b L : Nat} {xs : Nat → Int32} (C0 : lw_At p s m meth c b L xs) (hK : va_K D classes (tyL g) s) {i : Nat} (hi : i + 6 ≤ L) (hL : L ≤ 3072) {x0 m0 : Nat} {H : Heap} {locs : List Loc} {ls : Array Slot} (hl : lv_has ls 4 [(0, .ref b), (1, .ref x0), (2, .ref m0), (3, .int (nI i))]) (h : lw_OK D g (fun q : Nat => s.heap.size ≤ q) s.heap x0 m0 H locs) (kk : ∀ (H1 : Heap) (locs1 : List Loc), lw_OK D g (fun q : Nat => s.heap.size ≤ q) s.heap x0 m0 H1 locs1 → W p l e room_1 s m #[Value.ref b] below meth c H1 locs1 107 4637 (lw_Z below #[Value.ref b] s) (F0 m 640 ls [])) : W p l e room_1 s m #[Value.ref b] below meth c H locs 107 4637 (lw_Z below #[Value.ref b] s) (F0 m 369 ls []) := by
  obtain ⟨hx, hb, hr, hml, hown, hts, hX, hbl, hlocks, hgv⟩ := id C0
  have S := lw_S0 C0
  have htt := sd_tt S
  have hA : ∀ q : Nat, s.heap.size ≤ q → (fun q : Nat => s.heap.size ≤ q) q := fun _ h => h
  have hbA : ¬ (fun q : Nat => s.heap.size ≤ q) b := Nat.not_le.mpr hbl
  obtain ⟨F, hF⟩ : ∃ F : Nat, 18446744073709551616 ≤ F := ⟨_, Nat.le_refl _⟩
  obtain ⟨a, sa, cq, ci, cj, cp, P, vi, vj, iv, dd, pk, pd, reg, hP, hD, hS, h0, h19, hReg, hRel, hOut⟩ := h
  subst h0
  subst h19
  have in1 : vp_in (nI i + 1) L := lw_in hi hL (k := 1) (by decide) rfl
  obtain ⟨v1, hv1⟩ : ∃ y : Int32, y = xs (nI i + 1).toNatClampNeg := ⟨_, rfl⟩
  obtain ⟨x, res, oM, P', hz, hI, hm, eP, nP, hM, hRel'⟩ := st_floor hF hReg hRel v1 (vj 0) (vj 1) (ci 3) (ci 4) (ci 5) (vi 2) (vi 3) (vi 4) (vi 5) (cj 28) (cj 29) (cj 30) (cj 31) (cj 32) (cj 33) (cj 34) (cj 35) (cj 36) (cj 37) (cj 41) (cj 43)
  refine lv_aload_n hx hb d_law_369 rfl (lv_at hl 1 rfl) ?_
  refine lv_aload_n hx hb d_law_370 rfl (lv_at hl 0 rfl) ?_
  refine lv_iload_n hx hb d_law_371 rfl (lv_at hl 3 rfl) ?_
  refine lv_iconst (v := 1) hx hb d_law_372 (by decide) ?_
  refine lv_iadd hx hb d_law_373 ?_
  refine va_sld hx hb hX hbl hbA hS in1 d_law_374 ?_
  refine sd_topi hv1 ?_
  refine lc_Desk_floor S hK hP hD hS hA hz hm hI eP nP kl_law_39 (by decide) hl d_law_375 (Nat.le_of_ble_eq_true rfl) (by decide) (fun H locs hP hD hS => ?_)
  refine W.eq (g2 := F0 m 378 ls [.long res.1]) rfl ?_
  refine lv_aload_n hx hb d_law_378 rfl (lv_at hl 2 rfl) ?_
  refine lv_aload_n hx hb d_law_379 rfl (lv_at hl 0 rfl) ?_
  refine lv_iload_n hx hb d_law_380 rfl (lv_at hl 3 rfl) ?_
  refine lv_iconst (v := 1) hx hb d_law_381 (by decide) ?_
  refine lv_iadd hx hb d_law_382 ?_
  refine va_sld hx hb hX hbl hbA hS in1 d_law_383 ?_
  refine sd_topi hv1 ?_
  refine lc_Model_floor (res := (res.1, oM)) S hK hP hD hS hA hM kl_law_43 (by decide) hl d_law_384 (Nat.le_of_ble_eq_true rfl) (by decide) (fun H locs hP hD hS => ?_)
  refine W.eq (g2 := F0 m 387 ls [.long res.1, .long res.1]) rfl ?_
  refine sd_leq (tgt := 640) hx hb d_law_387 d_law_388 (by decide) (fun _ => ?_) (fun hc => absurd rfl hc)
  exact kk H locs ⟨_, _, _, _, _, _, _, _, _, _, _, _, _, reg, hP, hD, hS, rfl, rfl, hReg, hRel', hOut⟩
set_option maxHeartbeats 4000000 in
set_option maxRecDepth 100000 in
theorem lk_6 {p : Program} {l : Launch} {e : Env} {s : State} {m : MethodId} {below : List Frame} {meth : Method} {c : Code} {D : va_G} {g : G4} {b L : Nat} {xs : Nat → Int32} (C0 : lw_At p s m meth c b L xs) (hK : va_K D classes (tyL g) s) {i : Nat} (hi : i + 6 ≤ L) (hL : L ≤ 3072) {x0 m0 : Nat} {H : Heap} {locs : List Loc} {ls : Array Slot} (hl : lv_has ls 4 [(0, .ref b), (1, .ref x0), (2, .ref m0), (3, .int (nI i))]) (h : lw_OK D g (fun q : Nat => s.heap.size ≤ q) s.heap x0 m0 H locs) (kk : ∀ (H1 : Heap) (locs1 : List Loc), lw_OK D g (fun q : Nat => s.heap.size ≤ q) s.heap x0 m0 H1 locs1 → W p l e room_1 s m #[Value.ref b] below meth c H1 locs1 107 4637 (lw_Z below #[Value.ref b] s) (F0 m 640 ls [])) : W p l e room_1 s m #[Value.ref b] below meth c H locs 107 4637 (lw_Z below #[Value.ref b] s) (F0 m 393 ls []) := by
  obtain ⟨hx, hb, hr, hml, hown, hts, hX, hbl, hlocks, hgv⟩ := id C0
  have S := lw_S0 C0
  have htt := sd_tt S
  have hA : ∀ q : Nat, s.heap.size ≤ q → (fun q : Nat => s.heap.size ≤ q) q := fun _ h => h
  have hbA : ¬ (fun q : Nat => s.heap.size ≤ q) b := Nat.not_le.mpr hbl
  obtain ⟨F, hF⟩ : ∃ F : Nat, 18446744073709551616 ≤ F := ⟨_, Nat.le_refl _⟩
  obtain ⟨a, sa, cq, ci, cj, cp, P, vi, vj, iv, dd, pk, pd, reg, hP, hD, hS, h0, h19, hReg, hRel, hOut⟩ := h
  subst h0
  subst h19
  have in1 : vp_in (nI i + 1) L := lw_in hi hL (k := 1) (by decide) rfl
  obtain ⟨v1, hv1⟩ : ∃ y : Int32, y = xs (nI i + 1).toNatClampNeg := ⟨_, rfl⟩
  have in2 : vp_in (nI i + 2) L := lw_in hi hL (k := 2) (by decide) rfl
  obtain ⟨v2, hv2⟩ : ∃ y : Int32, y = xs (nI i + 2).toNatClampNeg := ⟨_, rfl⟩
  obtain ⟨hpp, n, n0, n3, hOS⟩ := id hOut
  rcases hpp with ⟨rfl, rfl⟩ | ⟨rfl, rfl⟩
  · obtain ⟨x, res, oc', s1, s2, out', oM, P', hz, hI, hm, eP, nP, hM, hw, hRel'⟩ := st_write hF hReg hRel v1 v2 (vj 0) (vj 1) (ci 3) (ci 4) (ci 5) (cp 16) (ci 17) (ci 18) (vi 0) (vi 1) (vi 2) (vi 3) (vi 4) (vi 5) (cj 28) (cj 29) (cj 30) (cj 31) (cj 32) (cj 33) (cj 34) (cj 35) (cj 36) (cj 37) (cj 41) (cj 43) (ci 27) (ci 40) (a 15) (a 16)
    rcases hw with ⟨w1, w2, n2, w3, w4, w5⟩ | ⟨w1, w2, w3, w4, w5⟩
    · skip
      refine lv_aload_n hx hb d_law_393 rfl (lv_at hl 1 rfl) ?_
      refine lv_aload_n hx hb d_law_394 rfl (lv_at hl 0 rfl) ?_
      refine lv_iload_n hx hb d_law_395 rfl (lv_at hl 3 rfl) ?_
      refine lv_iconst (v := 1) hx hb d_law_396 (by decide) ?_
      refine lv_iadd hx hb d_law_397 ?_
      refine va_sld hx hb hX hbl hbA hS in1 d_law_398 ?_
      refine sd_topi hv1 ?_
      refine lv_aload_n hx hb d_law_399 rfl (lv_at hl 0 rfl) ?_
      refine lv_iload_n hx hb d_law_400 rfl (lv_at hl 3 rfl) ?_
      refine lv_iconst (v := 2) hx hb d_law_401 (by decide) ?_
      refine lv_iadd hx hb d_law_402 ?_
      refine va_sld hx hb hX hbl hbA hS in2 d_law_403 ?_
      refine sd_topi hv2 ?_
      refine lc_Desk_writeA S hK hP hD hS hA hz hm hI eP nP w1 w2 kl_law_44 (by decide) hl d_law_404 (Nat.le_of_ble_eq_true rfl) (by decide) (fun H locs hP hD hS => ?_)
      refine W.eq (g2 := F0 m 407 ls [.int res.1]) rfl ?_
      refine lv_aload_n hx hb d_law_407 rfl (lv_at hl 2 rfl) ?_
      refine lv_aload_n hx hb d_law_408 rfl (lv_at hl 0 rfl) ?_
      refine lv_iload_n hx hb d_law_409 rfl (lv_at hl 3 rfl) ?_
      refine lv_iconst (v := 1) hx hb d_law_410 (by decide) ?_
      refine lv_iadd hx hb d_law_411 ?_
      refine va_sld hx hb hX hbl hbA hS in1 d_law_412 ?_
      refine sd_topi hv1 ?_
      refine lv_aload_n hx hb d_law_413 rfl (lv_at hl 0 rfl) ?_
      refine lv_iload_n hx hb d_law_414 rfl (lv_at hl 3 rfl) ?_
      refine lv_iconst (v := 2) hx hb d_law_415 (by decide) ?_
      refine lv_iadd hx hb d_law_416 ?_
      refine va_sld hx hb hX hbl hbA hS in2 d_law_417 ?_
      refine sd_topi hv2 ?_
      refine lc_Model_write (res := (res.1, oc', s1, s2, out', oM)) S hK hP hD hS hA hM kl_law_47 (by decide) hl d_law_418 (Nat.le_of_ble_eq_true rfl) (by decide) (fun H locs hP hD hS => ?_)
      refine W.eq (g2 := F0 m 421 ls [.int res.1, .int res.1]) rfl ?_
      refine lv_icmp_eq (tgt := 640) hx hb d_law_421 (by decide) (fun _ => ?_) (fun hc => absurd rfl hc)
      exact kk H locs ⟨_, _, _, _, _, _, _, _, _, _, _, _, _, reg, hP, hD, hS, rfl, rfl, hReg, hRel', ⟨Or.inr ⟨rfl, rfl⟩, n2, w3, w4, w5⟩⟩
    · skip
      refine lv_aload_n hx hb d_law_393 rfl (lv_at hl 1 rfl) ?_
      refine lv_aload_n hx hb d_law_394 rfl (lv_at hl 0 rfl) ?_
      refine lv_iload_n hx hb d_law_395 rfl (lv_at hl 3 rfl) ?_
      refine lv_iconst (v := 1) hx hb d_law_396 (by decide) ?_
      refine lv_iadd hx hb d_law_397 ?_
      refine va_sld hx hb hX hbl hbA hS in1 d_law_398 ?_
      refine sd_topi hv1 ?_
      refine lv_aload_n hx hb d_law_399 rfl (lv_at hl 0 rfl) ?_
      refine lv_iload_n hx hb d_law_400 rfl (lv_at hl 3 rfl) ?_
      refine lv_iconst (v := 2) hx hb d_law_401 (by decide) ?_
      refine lv_iadd hx hb d_law_402 ?_
      refine va_sld hx hb hX hbl hbA hS in2 d_law_403 ?_
      refine sd_topi hv2 ?_
      refine lc_Desk_writeA S hK hP hD hS hA hz hm hI eP nP w1 w2 kl_law_44 (by decide) hl d_law_404 (Nat.le_of_ble_eq_true rfl) (by decide) (fun H locs hP hD hS => ?_)
      refine W.eq (g2 := F0 m 407 ls [.int res.1]) rfl ?_
      refine lv_aload_n hx hb d_law_407 rfl (lv_at hl 2 rfl) ?_
      refine lv_aload_n hx hb d_law_408 rfl (lv_at hl 0 rfl) ?_
      refine lv_iload_n hx hb d_law_409 rfl (lv_at hl 3 rfl) ?_
      refine lv_iconst (v := 1) hx hb d_law_410 (by decide) ?_
      refine lv_iadd hx hb d_law_411 ?_
      refine va_sld hx hb hX hbl hbA hS in1 d_law_412 ?_
      refine sd_topi hv1 ?_
      refine lv_aload_n hx hb d_law_413 rfl (lv_at hl 0 rfl) ?_
      refine lv_iload_n hx hb d_law_414 rfl (lv_at hl 3 rfl) ?_
      refine lv_iconst (v := 2) hx hb d_law_415 (by decide) ?_
      refine lv_iadd hx hb d_law_416 ?_
      refine va_sld hx hb hX hbl hbA hS in2 d_law_417 ?_
      refine sd_topi hv2 ?_
      refine lc_Model_write (res := (res.1, oc', s1, s2, out', oM)) S hK hP hD hS hA hM kl_law_47 (by decide) hl d_law_418 (Nat.le_of_ble_eq_true rfl) (by decide) (fun H locs hP hD hS => ?_)
      refine W.eq (g2 := F0 m 421 ls [.int res.1, .int res.1]) rfl ?_
      refine lv_icmp_eq (tgt := 640) hx hb d_law_421 (by decide) (fun _ => ?_) (fun hc => absurd rfl hc)
      exact kk H locs ⟨_, _, _, _, _, _, _, _, _, _, _, _, _, reg, hP, hD, hS, rfl, rfl, hReg, hRel', ⟨Or.inl ⟨rfl, rfl⟩, n, w3.trans n0, w4.trans n3, by rw [← w5] at hOS; exact hOS⟩⟩
  · obtain ⟨x, res, oc', s1, s2, out', oM, P', hz, hI, hm, eP, nP, hM, hw, hRel'⟩ := st_write hF hReg hRel v1 v2 (vj 0) (vj 1) (ci 3) (ci 4) (ci 5) (cp 15) (ci 17) (ci 18) (vi 0) (vi 1) (vi 2) (vi 3) (vi 4) (vi 5) (cj 28) (cj 29) (cj 30) (cj 31) (cj 32) (cj 33) (cj 34) (cj 35) (cj 36) (cj 37) (cj 41) (cj 43) (ci 27) (ci 40) (a 16) (a 15)
    rcases hw with ⟨w1, w2, n2, w3, w4, w5⟩ | ⟨w1, w2, w3, w4, w5⟩
    · skip
      refine lv_aload_n hx hb d_law_393 rfl (lv_at hl 1 rfl) ?_
      refine lv_aload_n hx hb d_law_394 rfl (lv_at hl 0 rfl) ?_
      refine lv_iload_n hx hb d_law_395 rfl (lv_at hl 3 rfl) ?_
      refine lv_iconst (v := 1) hx hb d_law_396 (by decide) ?_
      refine lv_iadd hx hb d_law_397 ?_
      refine va_sld hx hb hX hbl hbA hS in1 d_law_398 ?_
      refine sd_topi hv1 ?_
      refine lv_aload_n hx hb d_law_399 rfl (lv_at hl 0 rfl) ?_
      refine lv_iload_n hx hb d_law_400 rfl (lv_at hl 3 rfl) ?_
      refine lv_iconst (v := 2) hx hb d_law_401 (by decide) ?_
      refine lv_iadd hx hb d_law_402 ?_
      refine va_sld hx hb hX hbl hbA hS in2 d_law_403 ?_
      refine sd_topi hv2 ?_
      refine lc_Desk_writeB S hK hP hD hS hA hz hm hI eP nP w1 w2 kl_law_44 (by decide) hl d_law_404 (Nat.le_of_ble_eq_true rfl) (by decide) (fun H locs hP hD hS => ?_)
      refine W.eq (g2 := F0 m 407 ls [.int res.1]) rfl ?_
      refine lv_aload_n hx hb d_law_407 rfl (lv_at hl 2 rfl) ?_
      refine lv_aload_n hx hb d_law_408 rfl (lv_at hl 0 rfl) ?_
      refine lv_iload_n hx hb d_law_409 rfl (lv_at hl 3 rfl) ?_
      refine lv_iconst (v := 1) hx hb d_law_410 (by decide) ?_
      refine lv_iadd hx hb d_law_411 ?_
      refine va_sld hx hb hX hbl hbA hS in1 d_law_412 ?_
      refine sd_topi hv1 ?_
      refine lv_aload_n hx hb d_law_413 rfl (lv_at hl 0 rfl) ?_
      refine lv_iload_n hx hb d_law_414 rfl (lv_at hl 3 rfl) ?_
      refine lv_iconst (v := 2) hx hb d_law_415 (by decide) ?_
      refine lv_iadd hx hb d_law_416 ?_
      refine va_sld hx hb hX hbl hbA hS in2 d_law_417 ?_
      refine sd_topi hv2 ?_
      refine lc_Model_write (res := (res.1, oc', s1, s2, out', oM)) S hK hP hD hS hA hM kl_law_47 (by decide) hl d_law_418 (Nat.le_of_ble_eq_true rfl) (by decide) (fun H locs hP hD hS => ?_)
      refine W.eq (g2 := F0 m 421 ls [.int res.1, .int res.1]) rfl ?_
      refine lv_icmp_eq (tgt := 640) hx hb d_law_421 (by decide) (fun _ => ?_) (fun hc => absurd rfl hc)
      exact kk H locs ⟨_, _, _, _, _, _, _, _, _, _, _, _, _, reg, hP, hD, hS, rfl, rfl, hReg, hRel', ⟨Or.inl ⟨rfl, rfl⟩, n2, w3, w4, w5⟩⟩
    · skip
      refine lv_aload_n hx hb d_law_393 rfl (lv_at hl 1 rfl) ?_
      refine lv_aload_n hx hb d_law_394 rfl (lv_at hl 0 rfl) ?_
      refine lv_iload_n hx hb d_law_395 rfl (lv_at hl 3 rfl) ?_
      refine lv_iconst (v := 1) hx hb d_law_396 (by decide) ?_
      refine lv_iadd hx hb d_law_397 ?_
      refine va_sld hx hb hX hbl hbA hS in1 d_law_398 ?_
      refine sd_topi hv1 ?_
      refine lv_aload_n hx hb d_law_399 rfl (lv_at hl 0 rfl) ?_
      refine lv_iload_n hx hb d_law_400 rfl (lv_at hl 3 rfl) ?_
      refine lv_iconst (v := 2) hx hb d_law_401 (by decide) ?_
      refine lv_iadd hx hb d_law_402 ?_
      refine va_sld hx hb hX hbl hbA hS in2 d_law_403 ?_
      refine sd_topi hv2 ?_
      refine lc_Desk_writeB S hK hP hD hS hA hz hm hI eP nP w1 w2 kl_law_44 (by decide) hl d_law_404 (Nat.le_of_ble_eq_true rfl) (by decide) (fun H locs hP hD hS => ?_)
      refine W.eq (g2 := F0 m 407 ls [.int res.1]) rfl ?_
      refine lv_aload_n hx hb d_law_407 rfl (lv_at hl 2 rfl) ?_
      refine lv_aload_n hx hb d_law_408 rfl (lv_at hl 0 rfl) ?_
      refine lv_iload_n hx hb d_law_409 rfl (lv_at hl 3 rfl) ?_
      refine lv_iconst (v := 1) hx hb d_law_410 (by decide) ?_
      refine lv_iadd hx hb d_law_411 ?_
      refine va_sld hx hb hX hbl hbA hS in1 d_law_412 ?_
      refine sd_topi hv1 ?_
      refine lv_aload_n hx hb d_law_413 rfl (lv_at hl 0 rfl) ?_
      refine lv_iload_n hx hb d_law_414 rfl (lv_at hl 3 rfl) ?_
      refine lv_iconst (v := 2) hx hb d_law_415 (by decide) ?_
      refine lv_iadd hx hb d_law_416 ?_
      refine va_sld hx hb hX hbl hbA hS in2 d_law_417 ?_
      refine sd_topi hv2 ?_
      refine lc_Model_write (res := (res.1, oc', s1, s2, out', oM)) S hK hP hD hS hA hM kl_law_47 (by decide) hl d_law_418 (Nat.le_of_ble_eq_true rfl) (by decide) (fun H locs hP hD hS => ?_)
      refine W.eq (g2 := F0 m 421 ls [.int res.1, .int res.1]) rfl ?_
      refine lv_icmp_eq (tgt := 640) hx hb d_law_421 (by decide) (fun _ => ?_) (fun hc => absurd rfl hc)
      exact kk H locs ⟨_, _, _, _, _, _, _, _, _, _, _, _, _, reg, hP, hD, hS, rfl, rfl, hReg, hRel', ⟨Or.inr ⟨rfl, rfl⟩, n, w3.trans n0, w4.trans n3, by rw [← w5] at hOS; exact hOS⟩⟩
set_option maxHeartbeats 4000000 in
set_option maxRecDepth 100000 in
theorem lk_7 {p : Program} {l : Launch} {e : Env} {s : State} {m : MethodId} {below : List Frame} {meth : Method} {c : Code} {D : va_G} {g : G4} {b L : Nat} {xs : Nat → Int32} (C0 : lw_At p s m meth c b L xs) (hK : va_K D classes (tyL g) s) {i : Nat} (hi : i + 6 ≤ L) (hL : L ≤ 3072) {x0 m0 : Nat} {H : Heap} {locs : List Loc} {ls : Array Slot} (hl : lv_has ls 4 [(0, .ref b), (1, .ref x0), (2, .ref m0), (3, .int (nI i))]) (h : lw_OK D g (fun q : Nat => s.heap.size ≤ q) s.heap x0 m0 H locs) (kk : ∀ (H1 : Heap) (locs1 : List Loc), lw_OK D g (fun q : Nat => s.heap.size ≤ q) s.heap x0 m0 H1 locs1 → W p l e room_1 s m #[Value.ref b] below meth c H1 locs1 107 4637 (lw_Z below #[Value.ref b] s) (F0 m 640 ls [])) : W p l e room_1 s m #[Value.ref b] below meth c H locs 107 4637 (lw_Z below #[Value.ref b] s) (F0 m 426 ls []) := by
  obtain ⟨hx, hb, hr, hml, hown, hts, hX, hbl, hlocks, hgv⟩ := id C0
  have S := lw_S0 C0
  have htt := sd_tt S
  have hA : ∀ q : Nat, s.heap.size ≤ q → (fun q : Nat => s.heap.size ≤ q) q := fun _ h => h
  have hbA : ¬ (fun q : Nat => s.heap.size ≤ q) b := Nat.not_le.mpr hbl
  obtain ⟨F, hF⟩ : ∃ F : Nat, 18446744073709551616 ≤ F := ⟨_, Nat.le_refl _⟩
  obtain ⟨a, sa, cq, ci, cj, cp, P, vi, vj, iv, dd, pk, pd, reg, hP, hD, hS, h0, h19, hReg, hRel, hOut⟩ := h
  subst h0
  subst h19
  have in1 : vp_in (nI i + 1) L := lw_in hi hL (k := 1) (by decide) rfl
  obtain ⟨v1, hv1⟩ : ∃ y : Int32, y = xs (nI i + 1).toNatClampNeg := ⟨_, rfl⟩
  obtain ⟨hpp, n, n0, n3, hOS⟩ := id hOut
  rcases hpp with ⟨rfl, rfl⟩ | ⟨rfl, rfl⟩
  · obtain ⟨res, hm, hM⟩ := octet_both (F := F) v1 cq (vi 1) (vi 2) (vi 4) (vi 5) (cp 15) (ci 27) hOS
    rw [← n0] at hm
    rw [← n3] at hM
    refine lv_aload_n hx hb d_law_426 rfl (lv_at hl 1 rfl) ?_
    refine lv_aload_n hx hb d_law_427 rfl (lv_at hl 0 rfl) ?_
    refine lv_iload_n hx hb d_law_428 rfl (lv_at hl 3 rfl) ?_
    refine lv_iconst (v := 1) hx hb d_law_429 (by decide) ?_
    refine lv_iadd hx hb d_law_430 ?_
    refine va_sld hx hb hX hbl hbA hS in1 d_law_431 ?_
    refine sd_topi hv1 ?_
    refine lc_Desk_octetA S hK hP hD hS hA hm kl_law_48 (by decide) hl d_law_432 (Nat.le_of_ble_eq_true rfl) (by decide) (fun H locs hP hD hS => ?_)
    refine W.eq (g2 := F0 m 435 ls [.int res]) rfl ?_
    refine lv_aload_n hx hb d_law_435 rfl (lv_at hl 2 rfl) ?_
    refine lv_aload_n hx hb d_law_436 rfl (lv_at hl 0 rfl) ?_
    refine lv_iload_n hx hb d_law_437 rfl (lv_at hl 3 rfl) ?_
    refine lv_iconst (v := 1) hx hb d_law_438 (by decide) ?_
    refine lv_iadd hx hb d_law_439 ?_
    refine va_sld hx hb hX hbl hbA hS in1 d_law_440 ?_
    refine sd_topi hv1 ?_
    refine lc_Model_octet (res := res) S hK hP hD hS hA hM kl_law_52 (by decide) hl d_law_441 (Nat.le_of_ble_eq_true rfl) (by decide) (fun H locs hP hD hS => ?_)
    refine W.eq (g2 := F0 m 444 ls [.int res, .int res]) rfl ?_
    refine lv_icmp_eq (tgt := 640) hx hb d_law_444 (by decide) (fun _ => ?_) (fun hc => absurd rfl hc)
    exact kk H locs ⟨_, _, _, _, _, _, _, _, _, _, _, _, _, reg, hP, hD, hS, rfl, rfl, hReg, hRel, hOut⟩
  · obtain ⟨res, hm, hM⟩ := octet_both (F := F) v1 cq (vi 1) (vi 2) (vi 4) (vi 5) (cp 16) (ci 27) hOS
    rw [← n0] at hm
    rw [← n3] at hM
    refine lv_aload_n hx hb d_law_426 rfl (lv_at hl 1 rfl) ?_
    refine lv_aload_n hx hb d_law_427 rfl (lv_at hl 0 rfl) ?_
    refine lv_iload_n hx hb d_law_428 rfl (lv_at hl 3 rfl) ?_
    refine lv_iconst (v := 1) hx hb d_law_429 (by decide) ?_
    refine lv_iadd hx hb d_law_430 ?_
    refine va_sld hx hb hX hbl hbA hS in1 d_law_431 ?_
    refine sd_topi hv1 ?_
    refine lc_Desk_octetB S hK hP hD hS hA hm kl_law_48 (by decide) hl d_law_432 (Nat.le_of_ble_eq_true rfl) (by decide) (fun H locs hP hD hS => ?_)
    refine W.eq (g2 := F0 m 435 ls [.int res]) rfl ?_
    refine lv_aload_n hx hb d_law_435 rfl (lv_at hl 2 rfl) ?_
    refine lv_aload_n hx hb d_law_436 rfl (lv_at hl 0 rfl) ?_
    refine lv_iload_n hx hb d_law_437 rfl (lv_at hl 3 rfl) ?_
    refine lv_iconst (v := 1) hx hb d_law_438 (by decide) ?_
    refine lv_iadd hx hb d_law_439 ?_
    refine va_sld hx hb hX hbl hbA hS in1 d_law_440 ?_
    refine sd_topi hv1 ?_
    refine lc_Model_octet (res := res) S hK hP hD hS hA hM kl_law_52 (by decide) hl d_law_441 (Nat.le_of_ble_eq_true rfl) (by decide) (fun H locs hP hD hS => ?_)
    refine W.eq (g2 := F0 m 444 ls [.int res, .int res]) rfl ?_
    refine lv_icmp_eq (tgt := 640) hx hb d_law_444 (by decide) (fun _ => ?_) (fun hc => absurd rfl hc)
    exact kk H locs ⟨_, _, _, _, _, _, _, _, _, _, _, _, _, reg, hP, hD, hS, rfl, rfl, hReg, hRel, hOut⟩
set_option maxHeartbeats 4000000 in
set_option maxRecDepth 100000 in
theorem lk_8 {p : Program} {l : Launch} {e : Env} {s : State} {m : MethodId} {below : List Frame} {meth : Method} {c : Code} {D : va_G} {g : G4} {b L : Nat} {xs : Nat → Int32} (C0 : lw_At p s m meth c b L xs) (hK : va_K D classes (tyL g) s) {i : Nat} (hi : i + 6 ≤ L) (hL : L ≤ 3072) {x0 m0 : Nat} {H : Heap} {locs : List Loc} {ls : Array Slot} (hl : lv_has ls 4 [(0, .ref b), (1, .ref x0), (2, .ref m0), (3, .int (nI i))]) (h : lw_OK D g (fun q : Nat => s.heap.size ≤ q) s.heap x0 m0 H locs) (kk : ∀ (H1 : Heap) (locs1 : List Loc), lw_OK D g (fun q : Nat => s.heap.size ≤ q) s.heap x0 m0 H1 locs1 → W p l e room_1 s m #[Value.ref b] below meth c H1 locs1 107 4637 (lw_Z below #[Value.ref b] s) (F0 m 640 ls [])) : W p l e room_1 s m #[Value.ref b] below meth c H locs 107 4637 (lw_Z below #[Value.ref b] s) (F0 m 449 ls []) := by
  obtain ⟨hx, hb, hr, hml, hown, hts, hX, hbl, hlocks, hgv⟩ := id C0
  have S := lw_S0 C0
  have htt := sd_tt S
  have hA : ∀ q : Nat, s.heap.size ≤ q → (fun q : Nat => s.heap.size ≤ q) q := fun _ h => h
  have hbA : ¬ (fun q : Nat => s.heap.size ≤ q) b := Nat.not_le.mpr hbl
  obtain ⟨F, hF⟩ : ∃ F : Nat, 18446744073709551616 ≤ F := ⟨_, Nat.le_refl _⟩
  obtain ⟨a, sa, cq, ci, cj, cp, P, vi, vj, iv, dd, pk, pd, reg, hP, hD, hS, h0, h19, hReg, hRel, hOut⟩ := h
  subst h0
  subst h19
  have in1 : vp_in (nI i + 1) L := lw_in hi hL (k := 1) (by decide) rfl
  obtain ⟨v1, hv1⟩ : ∃ y : Int32, y = xs (nI i + 1).toNatClampNeg := ⟨_, rfl⟩
  have in2 : vp_in (nI i + 2) L := lw_in hi hL (k := 2) (by decide) rfl
  obtain ⟨v2, hv2⟩ : ∃ y : Int32, y = xs (nI i + 2).toNatClampNeg := ⟨_, rfl⟩
  obtain ⟨x, res, oM, P', hz, hI, hm, eP, nP, hM, hRel'⟩ := st_partial hF hReg hRel v1 v2 (vj 0) (vj 1) (ci 3) (ci 4) (ci 5) (ci 7) (ci 8) (ci 9) (ci 11) (ci 12) (ci 13) (vi 2) (vi 3) (vi 4) (vi 5) (cj 28) (cj 29) (cj 30) (cj 31) (cj 32) (cj 33) (cj 34) (cj 35) (cj 36) (cj 37) (cj 41) (cj 42) (cj 43) (cj 44) (cj 45) (cj 46)
  obtain ⟨hpp, hnn⟩ := id hOut
  rcases hpp with ⟨rfl, rfl⟩ | ⟨rfl, rfl⟩
  · skip
    refine lv_aload_n hx hb d_law_449 rfl (lv_at hl 1 rfl) ?_
    refine lv_aload_n hx hb d_law_450 rfl (lv_at hl 0 rfl) ?_
    refine lv_iload_n hx hb d_law_451 rfl (lv_at hl 3 rfl) ?_
    refine lv_iconst (v := 1) hx hb d_law_452 (by decide) ?_
    refine lv_iadd hx hb d_law_453 ?_
    refine va_sld hx hb hX hbl hbA hS in1 d_law_454 ?_
    refine sd_topi hv1 ?_
    refine lv_aload_n hx hb d_law_455 rfl (lv_at hl 0 rfl) ?_
    refine lv_iload_n hx hb d_law_456 rfl (lv_at hl 3 rfl) ?_
    refine lv_iconst (v := 2) hx hb d_law_457 (by decide) ?_
    refine lv_iadd hx hb d_law_458 ?_
    refine va_sld hx hb hX hbl hbA hS in2 d_law_459 ?_
    refine sd_topi hv2 ?_
    refine lc_Desk_partialA S hK hP hD hS hA hz hm hI eP nP kl_law_53 (by decide) hl d_law_460 (Nat.le_of_ble_eq_true rfl) (by decide) (fun v H locs hP hD hS => ?_)
    refine W.eq (g2 := F0 m 463 ls [.long res.1]) rfl ?_
    refine lv_aload_n hx hb d_law_463 rfl (lv_at hl 2 rfl) ?_
    refine lv_aload_n hx hb d_law_464 rfl (lv_at hl 0 rfl) ?_
    refine lv_iload_n hx hb d_law_465 rfl (lv_at hl 3 rfl) ?_
    refine lv_iconst (v := 1) hx hb d_law_466 (by decide) ?_
    refine lv_iadd hx hb d_law_467 ?_
    refine va_sld hx hb hX hbl hbA hS in1 d_law_468 ?_
    refine sd_topi hv1 ?_
    refine lv_aload_n hx hb d_law_469 rfl (lv_at hl 0 rfl) ?_
    refine lv_iload_n hx hb d_law_470 rfl (lv_at hl 3 rfl) ?_
    refine lv_iconst (v := 2) hx hb d_law_471 (by decide) ?_
    refine lv_iadd hx hb d_law_472 ?_
    refine va_sld hx hb hX hbl hbA hS in2 d_law_473 ?_
    refine sd_topi hv2 ?_
    refine lc_Model_partial (a := va_up (va_up (va_up (va_up a 7 v.1) 8 v.2.1) 11 v.2.2.1) 12 v.2.2.2) (res := (res.1, oM)) S hK hP hD hS hA hM kl_law_57 (by decide) hl d_law_474 (Nat.le_of_ble_eq_true rfl) (by decide) (fun H locs hP hD hS => ?_)
    refine W.eq (g2 := F0 m 477 ls [.long res.1, .long res.1]) rfl ?_
    refine sd_leq (tgt := 640) hx hb d_law_477 d_law_478 (by decide) (fun _ => ?_) (fun hc => absurd rfl hc)
    exact kk H locs ⟨_, _, _, _, _, _, _, _, _, _, _, _, _, reg, hP, hD, hS, rfl, rfl, hReg, hRel', hOut⟩
  · skip
    refine lv_aload_n hx hb d_law_449 rfl (lv_at hl 1 rfl) ?_
    refine lv_aload_n hx hb d_law_450 rfl (lv_at hl 0 rfl) ?_
    refine lv_iload_n hx hb d_law_451 rfl (lv_at hl 3 rfl) ?_
    refine lv_iconst (v := 1) hx hb d_law_452 (by decide) ?_
    refine lv_iadd hx hb d_law_453 ?_
    refine va_sld hx hb hX hbl hbA hS in1 d_law_454 ?_
    refine sd_topi hv1 ?_
    refine lv_aload_n hx hb d_law_455 rfl (lv_at hl 0 rfl) ?_
    refine lv_iload_n hx hb d_law_456 rfl (lv_at hl 3 rfl) ?_
    refine lv_iconst (v := 2) hx hb d_law_457 (by decide) ?_
    refine lv_iadd hx hb d_law_458 ?_
    refine va_sld hx hb hX hbl hbA hS in2 d_law_459 ?_
    refine sd_topi hv2 ?_
    refine lc_Desk_partialB S hK hP hD hS hA hz hm hI eP nP kl_law_53 (by decide) hl d_law_460 (Nat.le_of_ble_eq_true rfl) (by decide) (fun v H locs hP hD hS => ?_)
    refine W.eq (g2 := F0 m 463 ls [.long res.1]) rfl ?_
    refine lv_aload_n hx hb d_law_463 rfl (lv_at hl 2 rfl) ?_
    refine lv_aload_n hx hb d_law_464 rfl (lv_at hl 0 rfl) ?_
    refine lv_iload_n hx hb d_law_465 rfl (lv_at hl 3 rfl) ?_
    refine lv_iconst (v := 1) hx hb d_law_466 (by decide) ?_
    refine lv_iadd hx hb d_law_467 ?_
    refine va_sld hx hb hX hbl hbA hS in1 d_law_468 ?_
    refine sd_topi hv1 ?_
    refine lv_aload_n hx hb d_law_469 rfl (lv_at hl 0 rfl) ?_
    refine lv_iload_n hx hb d_law_470 rfl (lv_at hl 3 rfl) ?_
    refine lv_iconst (v := 2) hx hb d_law_471 (by decide) ?_
    refine lv_iadd hx hb d_law_472 ?_
    refine va_sld hx hb hX hbl hbA hS in2 d_law_473 ?_
    refine sd_topi hv2 ?_
    refine lc_Model_partial (a := va_up (va_up (va_up (va_up a 7 v.1) 8 v.2.1) 11 v.2.2.1) 12 v.2.2.2) (res := (res.1, oM)) S hK hP hD hS hA hM kl_law_57 (by decide) hl d_law_474 (Nat.le_of_ble_eq_true rfl) (by decide) (fun H locs hP hD hS => ?_)
    refine W.eq (g2 := F0 m 477 ls [.long res.1, .long res.1]) rfl ?_
    refine sd_leq (tgt := 640) hx hb d_law_477 d_law_478 (by decide) (fun _ => ?_) (fun hc => absurd rfl hc)
    exact kk H locs ⟨_, _, _, _, _, _, _, _, _, _, _, _, _, reg, hP, hD, hS, rfl, rfl, hReg, hRel', hOut⟩
set_option maxHeartbeats 4000000 in
set_option maxRecDepth 100000 in
theorem lk_9 {p : Program} {l : Launch} {e : Env} {s : State} {m : MethodId} {below : List Frame} {meth : Method} {c : Code} {D : va_G} {g : G4} {b L : Nat} {xs : Nat → Int32} (C0 : lw_At p s m meth c b L xs) (hK : va_K D classes (tyL g) s) {i : Nat} (hi : i + 6 ≤ L) (hL : L ≤ 3072) {x0 m0 : Nat} {H : Heap} {locs : List Loc} {ls : Array Slot} (hl : lv_has ls 4 [(0, .ref b), (1, .ref x0), (2, .ref m0), (3, .int (nI i))]) (h : lw_OK D g (fun q : Nat => s.heap.size ≤ q) s.heap x0 m0 H locs) (kk : ∀ (H1 : Heap) (locs1 : List Loc), lw_OK D g (fun q : Nat => s.heap.size ≤ q) s.heap x0 m0 H1 locs1 → W p l e room_1 s m #[Value.ref b] below meth c H1 locs1 107 4637 (lw_Z below #[Value.ref b] s) (F0 m 640 ls [])) : W p l e room_1 s m #[Value.ref b] below meth c H locs 107 4637 (lw_Z below #[Value.ref b] s) (F0 m 483 ls []) := by
  obtain ⟨hx, hb, hr, hml, hown, hts, hX, hbl, hlocks, hgv⟩ := id C0
  have S := lw_S0 C0
  have htt := sd_tt S
  have hA : ∀ q : Nat, s.heap.size ≤ q → (fun q : Nat => s.heap.size ≤ q) q := fun _ h => h
  have hbA : ¬ (fun q : Nat => s.heap.size ≤ q) b := Nat.not_le.mpr hbl
  obtain ⟨F, hF⟩ : ∃ F : Nat, 18446744073709551616 ≤ F := ⟨_, Nat.le_refl _⟩
  obtain ⟨a, sa, cq, ci, cj, cp, P, vi, vj, iv, dd, pk, pd, reg, hP, hD, hS, h0, h19, hReg, hRel, hOut⟩ := h
  subst h0
  subst h19
  have in1 : vp_in (nI i + 1) L := lw_in hi hL (k := 1) (by decide) rfl
  obtain ⟨v1, hv1⟩ : ∃ y : Int32, y = xs (nI i + 1).toNatClampNeg := ⟨_, rfl⟩
  obtain ⟨x, res, oM, P', hz, hI, hm, eP, nP, hM, hRel'⟩ := st_nearest hF hReg hRel v1 (vj 0) (vj 1) (ci 3) (ci 4) (ci 5) (ci 17) (ci 18) (vi 2) (vi 3) (vi 4) (vi 5) (cj 28) (cj 29) (cj 30) (cj 31) (cj 32) (cj 33) (cj 34) (cj 35) (cj 36)
  refine lv_aload_n hx hb d_law_483 rfl (lv_at hl 1 rfl) ?_
  refine lv_aload_n hx hb d_law_484 rfl (lv_at hl 0 rfl) ?_
  refine lv_iload_n hx hb d_law_485 rfl (lv_at hl 3 rfl) ?_
  refine lv_iconst (v := 1) hx hb d_law_486 (by decide) ?_
  refine lv_iadd hx hb d_law_487 ?_
  refine va_sld hx hb hX hbl hbA hS in1 d_law_488 ?_
  refine sd_topi hv1 ?_
  refine lc_Desk_nearest S hK hP hD hS hA hz hm hI eP nP kl_law_58 (by decide) hl d_law_489 (Nat.le_of_ble_eq_true rfl) (by decide) (fun H locs hP hD hS => ?_)
  refine W.eq (g2 := F0 m 492 ls [.long res.1]) rfl ?_
  refine lv_aload_n hx hb d_law_492 rfl (lv_at hl 2 rfl) ?_
  refine lv_aload_n hx hb d_law_493 rfl (lv_at hl 0 rfl) ?_
  refine lv_iload_n hx hb d_law_494 rfl (lv_at hl 3 rfl) ?_
  refine lv_iconst (v := 1) hx hb d_law_495 (by decide) ?_
  refine lv_iadd hx hb d_law_496 ?_
  refine va_sld hx hb hX hbl hbA hS in1 d_law_497 ?_
  refine sd_topi hv1 ?_
  refine lc_Model_nearest (res := (res.1, oM)) S hK hP hD hS hA hM kl_law_61 (by decide) hl d_law_498 (Nat.le_of_ble_eq_true rfl) (by decide) (fun H locs hP hD hS => ?_)
  refine W.eq (g2 := F0 m 501 ls [.long res.1, .long res.1]) rfl ?_
  refine sd_leq (tgt := 640) hx hb d_law_501 d_law_502 (by decide) (fun _ => ?_) (fun hc => absurd rfl hc)
  exact kk H locs ⟨_, _, _, _, _, _, _, _, _, _, _, _, _, reg, hP, hD, hS, rfl, rfl, hReg, hRel', hOut⟩
set_option maxHeartbeats 4000000 in
set_option maxRecDepth 100000 in
theorem lk_10 {p : Program} {l : Launch} {e : Env} {s : State} {m : MethodId} {below : List Frame} {meth : Method} {c : Code} {D : va_G} {g : G4} {b L : Nat} {xs : Nat → Int32} (C0 : lw_At p s m meth c b L xs) (hK : va_K D classes (tyL g) s) {i : Nat} (hi : i + 6 ≤ L) (hL : L ≤ 3072) {x0 m0 : Nat} {H : Heap} {locs : List Loc} {ls : Array Slot} (hl : lv_has ls 4 [(0, .ref b), (1, .ref x0), (2, .ref m0), (3, .int (nI i))]) (h : lw_OK D g (fun q : Nat => s.heap.size ≤ q) s.heap x0 m0 H locs) (kk : ∀ (H1 : Heap) (locs1 : List Loc), lw_OK D g (fun q : Nat => s.heap.size ≤ q) s.heap x0 m0 H1 locs1 → W p l e room_1 s m #[Value.ref b] below meth c H1 locs1 107 4637 (lw_Z below #[Value.ref b] s) (F0 m 640 ls [])) : W p l e room_1 s m #[Value.ref b] below meth c H locs 107 4637 (lw_Z below #[Value.ref b] s) (F0 m 507 ls []) := by
  obtain ⟨hx, hb, hr, hml, hown, hts, hX, hbl, hlocks, hgv⟩ := id C0
  have S := lw_S0 C0
  have htt := sd_tt S
  have hA : ∀ q : Nat, s.heap.size ≤ q → (fun q : Nat => s.heap.size ≤ q) q := fun _ h => h
  have hbA : ¬ (fun q : Nat => s.heap.size ≤ q) b := Nat.not_le.mpr hbl
  obtain ⟨F, hF⟩ : ∃ F : Nat, 18446744073709551616 ≤ F := ⟨_, Nat.le_refl _⟩
  obtain ⟨a, sa, cq, ci, cj, cp, P, vi, vj, iv, dd, pk, pd, reg, hP, hD, hS, h0, h19, hReg, hRel, hOut⟩ := h
  subst h0
  subst h19
  have in1 : vp_in (nI i + 1) L := lw_in hi hL (k := 1) (by decide) rfl
  obtain ⟨v1, hv1⟩ : ∃ y : Int32, y = xs (nI i + 1).toNatClampNeg := ⟨_, rfl⟩
  have in2 : vp_in (nI i + 2) L := lw_in hi hL (k := 2) (by decide) rfl
  obtain ⟨v2, hv2⟩ : ∃ y : Int32, y = xs (nI i + 2).toNatClampNeg := ⟨_, rfl⟩
  rcases st_between hF hReg hRel v1 v2 (vj 0) (vj 1) (ci 3) (ci 4) (ci 5) (vi 2) (vi 3) (vi 4) (vi 5) (cj 28) (cj 29) (cj 30) (cj 31) (cj 32) (cj 33) (cj 34) (cj 35) (cj 36) (cj 37) (cj 41) (cj 43) with ⟨x, y, res, oM, P', hz, hz2, hxy, hI, hJ, hm, eP, eP2, nP, hM, hRel'⟩ | ⟨x, res, oM, P', hz, hI, hJ, hm, eP, nP, hM, hRel'⟩
  · skip
    refine lv_aload_n hx hb d_law_507 rfl (lv_at hl 1 rfl) ?_
    refine lv_aload_n hx hb d_law_508 rfl (lv_at hl 0 rfl) ?_
    refine lv_iload_n hx hb d_law_509 rfl (lv_at hl 3 rfl) ?_
    refine lv_iconst (v := 1) hx hb d_law_510 (by decide) ?_
    refine lv_iadd hx hb d_law_511 ?_
    refine va_sld hx hb hX hbl hbA hS in1 d_law_512 ?_
    refine sd_topi hv1 ?_
    refine lv_aload_n hx hb d_law_513 rfl (lv_at hl 0 rfl) ?_
    refine lv_iload_n hx hb d_law_514 rfl (lv_at hl 3 rfl) ?_
    refine lv_iconst (v := 2) hx hb d_law_515 (by decide) ?_
    refine lv_iadd hx hb d_law_516 ?_
    refine va_sld hx hb hX hbl hbA hS in2 d_law_517 ?_
    refine sd_topi hv2 ?_
    refine lc_Desk_between S hK hP hD hS hA hz hz2 hxy hm hI hJ eP eP2 nP kl_law_62 (by decide) hl d_law_518 (Nat.le_of_ble_eq_true rfl) (by decide) (fun H locs hP hD hS => ?_)
    refine W.eq (g2 := F0 m 521 ls [.long res.1]) rfl ?_
    refine lv_aload_n hx hb d_law_521 rfl (lv_at hl 2 rfl) ?_
    refine lv_aload_n hx hb d_law_522 rfl (lv_at hl 0 rfl) ?_
    refine lv_iload_n hx hb d_law_523 rfl (lv_at hl 3 rfl) ?_
    refine lv_iconst (v := 1) hx hb d_law_524 (by decide) ?_
    refine lv_iadd hx hb d_law_525 ?_
    refine va_sld hx hb hX hbl hbA hS in1 d_law_526 ?_
    refine sd_topi hv1 ?_
    refine lv_aload_n hx hb d_law_527 rfl (lv_at hl 0 rfl) ?_
    refine lv_iload_n hx hb d_law_528 rfl (lv_at hl 3 rfl) ?_
    refine lv_iconst (v := 2) hx hb d_law_529 (by decide) ?_
    refine lv_iadd hx hb d_law_530 ?_
    refine va_sld hx hb hX hbl hbA hS in2 d_law_531 ?_
    refine sd_topi hv2 ?_
    refine lc_Model_between (res := (res.1, oM)) S hK hP hD hS hA hM kl_law_65 (by decide) hl d_law_532 (Nat.le_of_ble_eq_true rfl) (by decide) (fun H locs hP hD hS => ?_)
    refine W.eq (g2 := F0 m 535 ls [.long res.1, .long res.1]) rfl ?_
    refine sd_leq (tgt := 640) hx hb d_law_535 d_law_536 (by decide) (fun _ => ?_) (fun hc => absurd rfl hc)
    exact kk H locs ⟨_, _, _, _, _, _, _, _, _, _, _, _, _, reg, hP, hD, hS, rfl, rfl, hReg, hRel', hOut⟩
  · skip
    refine lv_aload_n hx hb d_law_507 rfl (lv_at hl 1 rfl) ?_
    refine lv_aload_n hx hb d_law_508 rfl (lv_at hl 0 rfl) ?_
    refine lv_iload_n hx hb d_law_509 rfl (lv_at hl 3 rfl) ?_
    refine lv_iconst (v := 1) hx hb d_law_510 (by decide) ?_
    refine lv_iadd hx hb d_law_511 ?_
    refine va_sld hx hb hX hbl hbA hS in1 d_law_512 ?_
    refine sd_topi hv1 ?_
    refine lv_aload_n hx hb d_law_513 rfl (lv_at hl 0 rfl) ?_
    refine lv_iload_n hx hb d_law_514 rfl (lv_at hl 3 rfl) ?_
    refine lv_iconst (v := 2) hx hb d_law_515 (by decide) ?_
    refine lv_iadd hx hb d_law_516 ?_
    refine va_sld hx hb hX hbl hbA hS in2 d_law_517 ?_
    refine sd_topi hv2 ?_
    refine lc_Desk_between2 S hK hP hD hS hA hz hm hI hJ eP nP kl_law_62 (by decide) hl d_law_518 (Nat.le_of_ble_eq_true rfl) (by decide) (fun H locs hP hD hS => ?_)
    refine W.eq (g2 := F0 m 521 ls [.long res.1]) rfl ?_
    refine lv_aload_n hx hb d_law_521 rfl (lv_at hl 2 rfl) ?_
    refine lv_aload_n hx hb d_law_522 rfl (lv_at hl 0 rfl) ?_
    refine lv_iload_n hx hb d_law_523 rfl (lv_at hl 3 rfl) ?_
    refine lv_iconst (v := 1) hx hb d_law_524 (by decide) ?_
    refine lv_iadd hx hb d_law_525 ?_
    refine va_sld hx hb hX hbl hbA hS in1 d_law_526 ?_
    refine sd_topi hv1 ?_
    refine lv_aload_n hx hb d_law_527 rfl (lv_at hl 0 rfl) ?_
    refine lv_iload_n hx hb d_law_528 rfl (lv_at hl 3 rfl) ?_
    refine lv_iconst (v := 2) hx hb d_law_529 (by decide) ?_
    refine lv_iadd hx hb d_law_530 ?_
    refine va_sld hx hb hX hbl hbA hS in2 d_law_531 ?_
    refine sd_topi hv2 ?_
    refine lc_Model_between (res := (res.1, oM)) S hK hP hD hS hA hM kl_law_65 (by decide) hl d_law_532 (Nat.le_of_ble_eq_true rfl) (by decide) (fun H locs hP hD hS => ?_)
    refine W.eq (g2 := F0 m 535 ls [.long res.1, .long res.1]) rfl ?_
    refine sd_leq (tgt := 640) hx hb d_law_535 d_law_536 (by decide) (fun _ => ?_) (fun hc => absurd rfl hc)
    exact kk H locs ⟨_, _, _, _, _, _, _, _, _, _, _, _, _, reg, hP, hD, hS, rfl, rfl, hReg, hRel', hOut⟩
set_option maxHeartbeats 4000000 in
set_option maxRecDepth 100000 in
theorem lk_11 {p : Program} {l : Launch} {e : Env} {s : State} {m : MethodId} {below : List Frame} {meth : Method} {c : Code} {D : va_G} {g : G4} {b L : Nat} {xs : Nat → Int32} (C0 : lw_At p s m meth c b L xs) (hK : va_K D classes (tyL g) s) {i : Nat} (hi : i + 6 ≤ L) (hL : L ≤ 3072) {x0 m0 : Nat} {H : Heap} {locs : List Loc} {ls : Array Slot} (hl : lv_has ls 4 [(0, .ref b), (1, .ref x0), (2, .ref m0), (3, .int (nI i))]) (h : lw_OK D g (fun q : Nat => s.heap.size ≤ q) s.heap x0 m0 H locs) (kk : ∀ (H1 : Heap) (locs1 : List Loc), lw_OK D g (fun q : Nat => s.heap.size ≤ q) s.heap x0 m0 H1 locs1 → W p l e room_1 s m #[Value.ref b] below meth c H1 locs1 107 4637 (lw_Z below #[Value.ref b] s) (F0 m 640 ls [])) : W p l e room_1 s m #[Value.ref b] below meth c H locs 107 4637 (lw_Z below #[Value.ref b] s) (F0 m 541 ls []) := by
  obtain ⟨hx, hb, hr, hml, hown, hts, hX, hbl, hlocks, hgv⟩ := id C0
  have S := lw_S0 C0
  have htt := sd_tt S
  have hA : ∀ q : Nat, s.heap.size ≤ q → (fun q : Nat => s.heap.size ≤ q) q := fun _ h => h
  have hbA : ¬ (fun q : Nat => s.heap.size ≤ q) b := Nat.not_le.mpr hbl
  obtain ⟨F, hF⟩ : ∃ F : Nat, 18446744073709551616 ≤ F := ⟨_, Nat.le_refl _⟩
  obtain ⟨a, sa, cq, ci, cj, cp, P, vi, vj, iv, dd, pk, pd, reg, hP, hD, hS, h0, h19, hReg, hRel, hOut⟩ := h
  subst h0
  subst h19
  have in1 : vp_in (nI i + 1) L := lw_in hi hL (k := 1) (by decide) rfl
  obtain ⟨v1, hv1⟩ : ∃ y : Int32, y = xs (nI i + 1).toNatClampNeg := ⟨_, rfl⟩
  have in2 : vp_in (nI i + 2) L := lw_in hi hL (k := 2) (by decide) rfl
  obtain ⟨v2, hv2⟩ : ∃ y : Int32, y = xs (nI i + 2).toNatClampNeg := ⟨_, rfl⟩
  have in3 : vp_in (nI i + 3) L := lw_in hi hL (k := 3) (by decide) rfl
  obtain ⟨v3, hv3⟩ : ∃ y : Int32, y = xs (nI i + 3).toNatClampNeg := ⟨_, rfl⟩
  obtain ⟨x, res, hz, hI, hm, hM⟩ := st_term (F := F) hReg hRel v1 v2 v3 (vi 2) (vi 3) (vi 4) (vi 5)
  refine lv_aload_n hx hb d_law_541 rfl (lv_at hl 1 rfl) ?_
  refine lv_aload_n hx hb d_law_542 rfl (lv_at hl 0 rfl) ?_
  refine lv_iload_n hx hb d_law_543 rfl (lv_at hl 3 rfl) ?_
  refine lv_iconst (v := 1) hx hb d_law_544 (by decide) ?_
  refine lv_iadd hx hb d_law_545 ?_
  refine va_sld hx hb hX hbl hbA hS in1 d_law_546 ?_
  refine sd_topi hv1 ?_
  refine lv_aload_n hx hb d_law_547 rfl (lv_at hl 0 rfl) ?_
  refine lv_iload_n hx hb d_law_548 rfl (lv_at hl 3 rfl) ?_
  refine lv_iconst (v := 2) hx hb d_law_549 (by decide) ?_
  refine lv_iadd hx hb d_law_550 ?_
  refine va_sld hx hb hX hbl hbA hS in2 d_law_551 ?_
  refine sd_topi hv2 ?_
  refine lv_aload_n hx hb d_law_552 rfl (lv_at hl 0 rfl) ?_
  refine lv_iload_n hx hb d_law_553 rfl (lv_at hl 3 rfl) ?_
  refine lv_iconst (v := 3) hx hb d_law_554 (by decide) ?_
  refine lv_iadd hx hb d_law_555 ?_
  refine va_sld hx hb hX hbl hbA hS in3 d_law_556 ?_
  refine sd_topi hv3 ?_
  refine lc_Desk_term S hK hP hD hS hA hz hm hI kl_law_66 (by decide) hl d_law_557 (Nat.le_of_ble_eq_true rfl) (by decide) (fun H locs hP hD hS => ?_)
  refine W.eq (g2 := F0 m 560 ls [.int res]) rfl ?_
  refine lv_aload_n hx hb d_law_560 rfl (lv_at hl 2 rfl) ?_
  refine lv_aload_n hx hb d_law_561 rfl (lv_at hl 0 rfl) ?_
  refine lv_iload_n hx hb d_law_562 rfl (lv_at hl 3 rfl) ?_
  refine lv_iconst (v := 1) hx hb d_law_563 (by decide) ?_
  refine lv_iadd hx hb d_law_564 ?_
  refine va_sld hx hb hX hbl hbA hS in1 d_law_565 ?_
  refine sd_topi hv1 ?_
  refine lv_aload_n hx hb d_law_566 rfl (lv_at hl 0 rfl) ?_
  refine lv_iload_n hx hb d_law_567 rfl (lv_at hl 3 rfl) ?_
  refine lv_iconst (v := 2) hx hb d_law_568 (by decide) ?_
  refine lv_iadd hx hb d_law_569 ?_
  refine va_sld hx hb hX hbl hbA hS in2 d_law_570 ?_
  refine sd_topi hv2 ?_
  refine lv_aload_n hx hb d_law_571 rfl (lv_at hl 0 rfl) ?_
  refine lv_iload_n hx hb d_law_572 rfl (lv_at hl 3 rfl) ?_
  refine lv_iconst (v := 3) hx hb d_law_573 (by decide) ?_
  refine lv_iadd hx hb d_law_574 ?_
  refine va_sld hx hb hX hbl hbA hS in3 d_law_575 ?_
  refine sd_topi hv3 ?_
  refine lc_Model_term (res := res) S hK hP hD hS hA hM kl_law_69 (by decide) hl d_law_576 (Nat.le_of_ble_eq_true rfl) (by decide) (fun H locs hP hD hS => ?_)
  refine W.eq (g2 := F0 m 579 ls [.int res, .int res]) rfl ?_
  refine lv_icmp_eq (tgt := 640) hx hb d_law_579 (by decide) (fun _ => ?_) (fun hc => absurd rfl hc)
  exact kk H locs ⟨_, _, _, _, _, _, _, _, _, _, _, _, _, reg, hP, hD, hS, rfl, rfl, hReg, hRel, hOut⟩
set_option maxHeartbeats 4000000 in
set_option maxRecDepth 100000 in
theorem lk_12 {p : Program} {l : Launch} {e : Env} {s : State} {m : MethodId} {below : List Frame} {meth : Method} {c : Code} {D : va_G} {g : G4} {b L : Nat} {xs : Nat → Int32} (C0 : lw_At p s m meth c b L xs) (hK : va_K D classes (tyL g) s) {i : Nat} (hi : i + 6 ≤ L) (hL : L ≤ 3072) {x0 m0 : Nat} {H : Heap} {locs : List Loc} {ls : Array Slot} (hl : lv_has ls 4 [(0, .ref b), (1, .ref x0), (2, .ref m0), (3, .int (nI i))]) (h : lw_OK D g (fun q : Nat => s.heap.size ≤ q) s.heap x0 m0 H locs) (kk : ∀ (H1 : Heap) (locs1 : List Loc), lw_OK D g (fun q : Nat => s.heap.size ≤ q) s.heap x0 m0 H1 locs1 → W p l e room_1 s m #[Value.ref b] below meth c H1 locs1 107 4637 (lw_Z below #[Value.ref b] s) (F0 m 640 ls [])) : W p l e room_1 s m #[Value.ref b] below meth c H locs 107 4637 (lw_Z below #[Value.ref b] s) (F0 m 584 ls []) := by
  obtain ⟨hx, hb, hr, hml, hown, hts, hX, hbl, hlocks, hgv⟩ := id C0
  have S := lw_S0 C0
  have htt := sd_tt S
  have hA : ∀ q : Nat, s.heap.size ≤ q → (fun q : Nat => s.heap.size ≤ q) q := fun _ h => h
  have hbA : ¬ (fun q : Nat => s.heap.size ≤ q) b := Nat.not_le.mpr hbl
  obtain ⟨F, hF⟩ : ∃ F : Nat, 18446744073709551616 ≤ F := ⟨_, Nat.le_refl _⟩
  obtain ⟨a, sa, cq, ci, cj, cp, P, vi, vj, iv, dd, pk, pd, reg, hP, hD, hS, h0, h19, hReg, hRel, hOut⟩ := h
  subst h0
  subst h19
  have in1 : vp_in (nI i + 1) L := lw_in hi hL (k := 1) (by decide) rfl
  obtain ⟨v1, hv1⟩ : ∃ y : Int32, y = xs (nI i + 1).toNatClampNeg := ⟨_, rfl⟩
  obtain ⟨x, res, hz, hI, hm, hM⟩ := st_terms (F := F) hReg hRel v1 (vi 2) (vi 3) (vi 4) (vi 5)
  refine lv_aload_n hx hb d_law_584 rfl (lv_at hl 1 rfl) ?_
  refine lv_aload_n hx hb d_law_585 rfl (lv_at hl 0 rfl) ?_
  refine lv_iload_n hx hb d_law_586 rfl (lv_at hl 3 rfl) ?_
  refine lv_iconst (v := 1) hx hb d_law_587 (by decide) ?_
  refine lv_iadd hx hb d_law_588 ?_
  refine va_sld hx hb hX hbl hbA hS in1 d_law_589 ?_
  refine sd_topi hv1 ?_
  refine lc_Desk_terms S hK hP hD hS hA hz hm hI kl_law_70 (by decide) hl d_law_590 (Nat.le_of_ble_eq_true rfl) (by decide) (fun H locs hP hD hS => ?_)
  refine W.eq (g2 := F0 m 593 ls [.int res]) rfl ?_
  refine lv_aload_n hx hb d_law_593 rfl (lv_at hl 2 rfl) ?_
  refine lv_aload_n hx hb d_law_594 rfl (lv_at hl 0 rfl) ?_
  refine lv_iload_n hx hb d_law_595 rfl (lv_at hl 3 rfl) ?_
  refine lv_iconst (v := 1) hx hb d_law_596 (by decide) ?_
  refine lv_iadd hx hb d_law_597 ?_
  refine va_sld hx hb hX hbl hbA hS in1 d_law_598 ?_
  refine sd_topi hv1 ?_
  refine lc_Model_terms (res := res) S hK hP hD hS hA hM kl_law_73 (by decide) hl d_law_599 (Nat.le_of_ble_eq_true rfl) (by decide) (fun H locs hP hD hS => ?_)
  refine W.eq (g2 := F0 m 602 ls [.int res, .int res]) rfl ?_
  refine lv_icmp_eq (tgt := 640) hx hb d_law_602 (by decide) (fun _ => ?_) (fun hc => absurd rfl hc)
  exact kk H locs ⟨_, _, _, _, _, _, _, _, _, _, _, _, _, reg, hP, hD, hS, rfl, rfl, hReg, hRel, hOut⟩
set_option maxHeartbeats 4000000 in
set_option maxRecDepth 100000 in
theorem lk_13 {p : Program} {l : Launch} {e : Env} {s : State} {m : MethodId} {below : List Frame} {meth : Method} {c : Code} {D : va_G} {g : G4} {b L : Nat} {xs : Nat → Int32} (C0 : lw_At p s m meth c b L xs) (hK : va_K D classes (tyL g) s) {i : Nat} (hi : i + 6 ≤ L) (hL : L ≤ 3072) {x0 m0 : Nat} {H : Heap} {locs : List Loc} {ls : Array Slot} (hl : lv_has ls 4 [(0, .ref b), (1, .ref x0), (2, .ref m0), (3, .int (nI i))]) (h : lw_OK D g (fun q : Nat => s.heap.size ≤ q) s.heap x0 m0 H locs) (kk : ∀ (H1 : Heap) (locs1 : List Loc), lw_OK D g (fun q : Nat => s.heap.size ≤ q) s.heap x0 m0 H1 locs1 → W p l e room_1 s m #[Value.ref b] below meth c H1 locs1 107 4637 (lw_Z below #[Value.ref b] s) (F0 m 640 ls [])) : W p l e room_1 s m #[Value.ref b] below meth c H locs 107 4637 (lw_Z below #[Value.ref b] s) (F0 m 607 ls []) := by
  obtain ⟨hx, hb, hr, hml, hown, hts, hX, hbl, hlocks, hgv⟩ := id C0
  have S := lw_S0 C0
  have htt := sd_tt S
  have hA : ∀ q : Nat, s.heap.size ≤ q → (fun q : Nat => s.heap.size ≤ q) q := fun _ h => h
  have hbA : ¬ (fun q : Nat => s.heap.size ≤ q) b := Nat.not_le.mpr hbl
  obtain ⟨F, hF⟩ : ∃ F : Nat, 18446744073709551616 ≤ F := ⟨_, Nat.le_refl _⟩
  obtain ⟨a, sa, cq, ci, cj, cp, P, vi, vj, iv, dd, pk, pd, reg, hP, hD, hS, h0, h19, hReg, hRel, hOut⟩ := h
  subst h0
  subst h19
  have in1 : vp_in (nI i + 1) L := lw_in hi hL (k := 1) (by decide) rfl
  obtain ⟨v1, hv1⟩ : ∃ y : Int32, y = xs (nI i + 1).toNatClampNeg := ⟨_, rfl⟩
  have in2 : vp_in (nI i + 2) L := lw_in hi hL (k := 2) (by decide) rfl
  obtain ⟨v2, hv2⟩ : ∃ y : Int32, y = xs (nI i + 2).toNatClampNeg := ⟨_, rfl⟩
  rcases st_same hF hReg hRel v1 v2 (vi 2) (vi 3) (vi 4) (vi 5) with ⟨x, y, res, hz, hz2, hxy, hI, hJ, hm, hM⟩ | ⟨x, res, hz, hI, hJ, hm, hM⟩
  · skip
    refine lv_aload_n hx hb d_law_607 rfl (lv_at hl 1 rfl) ?_
    refine lv_aload_n hx hb d_law_608 rfl (lv_at hl 0 rfl) ?_
    refine lv_iload_n hx hb d_law_609 rfl (lv_at hl 3 rfl) ?_
    refine lv_iconst (v := 1) hx hb d_law_610 (by decide) ?_
    refine lv_iadd hx hb d_law_611 ?_
    refine va_sld hx hb hX hbl hbA hS in1 d_law_612 ?_
    refine sd_topi hv1 ?_
    refine lv_aload_n hx hb d_law_613 rfl (lv_at hl 0 rfl) ?_
    refine lv_iload_n hx hb d_law_614 rfl (lv_at hl 3 rfl) ?_
    refine lv_iconst (v := 2) hx hb d_law_615 (by decide) ?_
    refine lv_iadd hx hb d_law_616 ?_
    refine va_sld hx hb hX hbl hbA hS in2 d_law_617 ?_
    refine sd_topi hv2 ?_
    refine lc_Desk_same S hK hP hD hS hA hz hz2 hxy hm hI hJ kl_law_74 (by decide) hl d_law_618 (Nat.le_of_ble_eq_true rfl) (by decide) (fun H locs hP hD hS => ?_)
    refine W.eq (g2 := F0 m 621 ls [.int res]) rfl ?_
    refine lv_aload_n hx hb d_law_621 rfl (lv_at hl 2 rfl) ?_
    refine lv_aload_n hx hb d_law_622 rfl (lv_at hl 0 rfl) ?_
    refine lv_iload_n hx hb d_law_623 rfl (lv_at hl 3 rfl) ?_
    refine lv_iconst (v := 1) hx hb d_law_624 (by decide) ?_
    refine lv_iadd hx hb d_law_625 ?_
    refine va_sld hx hb hX hbl hbA hS in1 d_law_626 ?_
    refine sd_topi hv1 ?_
    refine lv_aload_n hx hb d_law_627 rfl (lv_at hl 0 rfl) ?_
    refine lv_iload_n hx hb d_law_628 rfl (lv_at hl 3 rfl) ?_
    refine lv_iconst (v := 2) hx hb d_law_629 (by decide) ?_
    refine lv_iadd hx hb d_law_630 ?_
    refine va_sld hx hb hX hbl hbA hS in2 d_law_631 ?_
    refine sd_topi hv2 ?_
    refine lc_Model_same (res := res) S hK hP hD hS hA hM kl_law_78 (by decide) hl d_law_632 (Nat.le_of_ble_eq_true rfl) (by decide) (fun H locs hP hD hS => ?_)
    refine W.eq (g2 := F0 m 635 ls [.int res, .int res]) rfl ?_
    refine lv_icmp_eq (tgt := 640) hx hb d_law_635 (by decide) (fun _ => ?_) (fun hc => absurd rfl hc)
    exact kk H locs ⟨_, _, _, _, _, _, _, _, _, _, _, _, _, reg, hP, hD, hS, rfl, rfl, hReg, hRel, hOut⟩
  · skip
    refine lv_aload_n hx hb d_law_607 rfl (lv_at hl 1 rfl) ?_
    refine lv_aload_n hx hb d_law_608 rfl (lv_at hl 0 rfl) ?_
    refine lv_iload_n hx hb d_law_609 rfl (lv_at hl 3 rfl) ?_
    refine lv_iconst (v := 1) hx hb d_law_610 (by decide) ?_
    refine lv_iadd hx hb d_law_611 ?_
    refine va_sld hx hb hX hbl hbA hS in1 d_law_612 ?_
    refine sd_topi hv1 ?_
    refine lv_aload_n hx hb d_law_613 rfl (lv_at hl 0 rfl) ?_
    refine lv_iload_n hx hb d_law_614 rfl (lv_at hl 3 rfl) ?_
    refine lv_iconst (v := 2) hx hb d_law_615 (by decide) ?_
    refine lv_iadd hx hb d_law_616 ?_
    refine va_sld hx hb hX hbl hbA hS in2 d_law_617 ?_
    refine sd_topi hv2 ?_
    refine lc_Desk_same2 S hK hP hD hS hA hz hm hI hJ kl_law_74 (by decide) hl d_law_618 (Nat.le_of_ble_eq_true rfl) (by decide) (fun H locs hP hD hS => ?_)
    refine W.eq (g2 := F0 m 621 ls [.int res]) rfl ?_
    refine lv_aload_n hx hb d_law_621 rfl (lv_at hl 2 rfl) ?_
    refine lv_aload_n hx hb d_law_622 rfl (lv_at hl 0 rfl) ?_
    refine lv_iload_n hx hb d_law_623 rfl (lv_at hl 3 rfl) ?_
    refine lv_iconst (v := 1) hx hb d_law_624 (by decide) ?_
    refine lv_iadd hx hb d_law_625 ?_
    refine va_sld hx hb hX hbl hbA hS in1 d_law_626 ?_
    refine sd_topi hv1 ?_
    refine lv_aload_n hx hb d_law_627 rfl (lv_at hl 0 rfl) ?_
    refine lv_iload_n hx hb d_law_628 rfl (lv_at hl 3 rfl) ?_
    refine lv_iconst (v := 2) hx hb d_law_629 (by decide) ?_
    refine lv_iadd hx hb d_law_630 ?_
    refine va_sld hx hb hX hbl hbA hS in2 d_law_631 ?_
    refine sd_topi hv2 ?_
    refine lc_Model_same (res := res) S hK hP hD hS hA hM kl_law_78 (by decide) hl d_law_632 (Nat.le_of_ble_eq_true rfl) (by decide) (fun H locs hP hD hS => ?_)
    refine W.eq (g2 := F0 m 635 ls [.int res, .int res]) rfl ?_
    refine lv_icmp_eq (tgt := 640) hx hb d_law_635 (by decide) (fun _ => ?_) (fun hc => absurd rfl hc)
    exact kk H locs ⟨_, _, _, _, _, _, _, _, _, _, _, _, _, reg, hP, hD, hS, rfl, rfl, hReg, hRel, hOut⟩
