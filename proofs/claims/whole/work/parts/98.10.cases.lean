/-! the law's cases (by program) -/
set_option maxHeartbeats 4000000 in
set_option maxRecDepth 100000 in
theorem zL_0 {p : Program} {l : Launch} {e : Env} {s : State} {m : MethodId} {below : List Frame} {meth : Method} {c : Code} {b L : Nat} {xs : Nat → Int32} (hL : L ≤ 2048) (hl9 : l.stackTraces = false) (C0 : lw_At p s m meth c b L xs) {g : zg} (hK : zk_K zNF zNM g s) (hX : zx_K s.heap.size g s s.heap) {B i j : Nat} (hi : i + 4 ≤ L) (hj : i = 4 * j) {S : zS} {M : zm_M} {H : Heap} {locs : List Loc} {ls : Array Slot} (hw : zW s.heap.size g s H locs M) (hW : zLw g.2 B M S) (hl : lv_has ls 8 [(0, .ref b), (1, .ref B), (2, .ref (B + 168)), (3, .ref (B + 178)), (4, .int (nI i))])
    (nx : ∀ (S : zS) (M : zm_M) (H : Heap) (locs : List Loc) (ls : Array Slot), zW s.heap.size g s H locs M → zLw g.2 B M S → lv_has ls 8 [(0, .ref b), (1, .ref B), (2, .ref (B + 168)), (3, .ref (B + 178)), (4, .int (nI i))] → W p l e room_1 s m #[Value.ref b] below meth c H locs (200 + (j + 1)) (20000 + 6 * (j + 1)) (lw_Z below #[Value.ref b] s) (F0 m 1318 ls [])) : W p l e room_1 s m #[Value.ref b] below meth c H locs (200 + j) (20000 + 6 * j) (lw_Z below #[Value.ref b] s) (F0 m 156 ls []) := by
  obtain ⟨hx, hb, hr, hml, hown, hts0, hXs, hbl, hlocks, -⟩ := id C0
  have hown : s.vm.findClass RL = some m.cls := hown
  have hbA : ¬ zA s.heap.size b := Nat.not_le.mpr hbl
  have hts : ∀ w ∈ zU, w.before #[Value.ref b] s = true := fun w hw => hts0 w (List.mem_filter.mp hw).1
  have Sx : CallFix p m c cL_law 8 s #[Value.ref b] zU RL := ⟨hx, hb, hml, hown, hts⟩
  have h1 : vp_in (nI i + (1 : Int32)) L := zl_in hL (k := 1) hi (by decide)
  have h2 : vp_in (nI i + (2 : Int32)) L := zl_in hL (k := 2) hi (by decide)
  have h3 : vp_in (nI i + (3 : Int32)) L := zl_in hL (k := 3) hi (by decide)
  refine lv_aload_n hx hb dL_law_156 rfl (lv_at hl 1 rfl) ?_
  refine lv_aload_n hx hb dL_law_157 rfl (lv_at hl 0 rfl) ?_
  refine lv_iload hx hb dL_law_158 (lv_at hl 4 rfl) ?_
  refine lv_iconst (v := (1 : Int32)) hx hb dL_law_160 (by decide) ?_
  refine lv_iadd hx hb dL_law_161 ?_
  refine va_sld hx hb hXs hbl hbA hw.2 h1 dL_law_162 ?_
  refine lv_i2l hx hb dL_law_163 rfl ?_
  refine lv_bipush (v := (32 : Int32)) hx hb dL_law_164 (by decide) ?_
  refine lv_lshl hx hb dL_law_166 rfl ?_
  refine lv_aload_n hx hb dL_law_167 rfl (lv_at hl 0 rfl) ?_
  refine lv_iload hx hb dL_law_168 (lv_at hl 4 rfl) ?_
  refine lv_iconst (v := (2 : Int32)) hx hb dL_law_170 (by decide) ?_
  refine lv_iadd hx hb dL_law_171 ?_
  refine va_sld hx hb hXs hbl hbA hw.2 h2 dL_law_172 ?_
  refine lv_i2l hx hb dL_law_173 rfl ?_
  refine lv_ldc2 (v := (4294967295 : Int64)) hx hb hown (hts _ zy_0) dL_law_174 ?_
  refine lv_land hx hb dL_law_177 ?_
  refine lv_lor hx hb dL_law_178 ?_
  refine zr_Vi (As := [.long (((xs ((nI i) + (1 : Int32)).toNatClampNeg).toInt64 <<< ((32 : Int32).toInt64 &&& 63)) ||| ((xs ((nI i) + (2 : Int32)).toNatClampNeg).toInt64 &&& (4294967295 : Int64)))]) (rest := []) Sx hK hw (kX6_whole l s.heap.size g M B (((xs ((nI i) + (1 : Int32)).toNatClampNeg).toInt64 <<< ((32 : Int32).toInt64 &&& 63)) ||| ((xs ((nI i) + (2 : Int32)).toNatClampNeg).toInt64 &&& (4294967295 : Int64))) (fun r M1 => r = (zo_whole S (((xs ((nI i) + (1 : Int32)).toNatClampNeg).toInt64 <<< ((32 : Int32).toInt64 &&& 63)) ||| ((xs ((nI i) + (2 : Int32)).toNatClampNeg).toInt64 &&& (4294967295 : Int64)))).1 ∧ zRC g.2 B M M1 (zo_whole S (((xs ((nI i) + (1 : Int32)).toNatClampNeg).toInt64 <<< ((32 : Int32).toInt64 &&& 63)) ||| ((xs ((nI i) + (2 : Int32)).toNatClampNeg).toInt64 &&& (4294967295 : Int64)))).2) (c6_whole hW.1 (fun M1 h1 => ⟨rfl, h1⟩))) (cwV 1 hts (zg_V zy_1 zy_2 zy_3 zu_303 zy_4) rfl rfl rfl (by decide +kernel) ⟨Nat.le_of_ble_eq_true rfl, Nat.le_of_ble_eq_true rfl⟩) (ci := 9) rfl (zRC_ob hW.1) rfl hl.1 rfl (Nat.le_of_ble_eq_true rfl) dL_law_179 ⟨by show _ ≤ 603072; omega, by show _ ≤ 7223402; omega⟩ (fun r1 M1 H locs hw h => ?_)
  obtain ⟨e1, hC⟩ := h
  obtain ⟨t1, hM⟩ := zLw_1 hW hC
  refine lv_aload_n hx hb dL_law_182 rfl (lv_at hl 2 rfl) ?_
  refine lv_aload_n hx hb dL_law_183 rfl (lv_at hl 0 rfl) ?_
  refine lv_iload hx hb dL_law_184 (lv_at hl 4 rfl) ?_
  refine lv_iconst (v := (1 : Int32)) hx hb dL_law_186 (by decide) ?_
  refine lv_iadd hx hb dL_law_187 ?_
  refine va_sld hx hb hXs hbl hbA hw.2 h1 dL_law_188 ?_
  refine lv_i2l hx hb dL_law_189 rfl ?_
  refine lv_bipush (v := (32 : Int32)) hx hb dL_law_190 (by decide) ?_
  refine lv_lshl hx hb dL_law_192 rfl ?_
  refine lv_aload_n hx hb dL_law_193 rfl (lv_at hl 0 rfl) ?_
  refine lv_iload hx hb dL_law_194 (lv_at hl 4 rfl) ?_
  refine lv_iconst (v := (2 : Int32)) hx hb dL_law_196 (by decide) ?_
  refine lv_iadd hx hb dL_law_197 ?_
  refine va_sld hx hb hXs hbl hbA hw.2 h2 dL_law_198 ?_
  refine lv_i2l hx hb dL_law_199 rfl ?_
  refine lv_ldc2 (v := (4294967295 : Int64)) hx hb hown (hts _ zy_0) dL_law_200 ?_
  refine lv_land hx hb dL_law_203 ?_
  refine lv_lor hx hb dL_law_204 ?_
  refine zr_Vi (As := [.long (((xs ((nI i) + (1 : Int32)).toNatClampNeg).toInt64 <<< ((32 : Int32).toInt64 &&& 63)) ||| ((xs ((nI i) + (2 : Int32)).toNatClampNeg).toInt64 &&& (4294967295 : Int64)))]) (rest := [.int r1]) Sx hK hw (kX7_whole l s.heap.size g M1 (B + 168) (((xs ((nI i) + (1 : Int32)).toNatClampNeg).toInt64 <<< ((32 : Int32).toInt64 &&& 63)) ||| ((xs ((nI i) + (2 : Int32)).toNatClampNeg).toInt64 &&& (4294967295 : Int64))) (fun r M2 => r = (zo_whole S (((xs ((nI i) + (1 : Int32)).toNatClampNeg).toInt64 <<< ((32 : Int32).toInt64 &&& 63)) ||| ((xs ((nI i) + (2 : Int32)).toNatClampNeg).toInt64 &&& (4294967295 : Int64)))).1 ∧ zRM g.2 (B + 168) M1 M2 (zo_whole S (((xs ((nI i) + (1 : Int32)).toNatClampNeg).toInt64 <<< ((32 : Int32).toInt64 &&& 63)) ||| ((xs ((nI i) + (2 : Int32)).toNatClampNeg).toInt64 &&& (4294967295 : Int64)))).2 0) (m7_whole hM (fun M2 h2 => ⟨rfl, h2⟩))) (cwV 1 hts (zg_V zy_5 zy_6 zy_7 zu_450 zy_8) rfl rfl rfl (by decide +kernel) ⟨Nat.le_of_ble_eq_true rfl, Nat.le_of_ble_eq_true rfl⟩) (ci := 10) rfl (zRM_ob hM) rfl hl.1 rfl (Nat.le_of_ble_eq_true rfl) dL_law_205 ⟨by show _ ≤ 603072; omega, by show _ ≤ 7223402; omega⟩ (fun r2 M2 H locs hw h => ?_)
  obtain ⟨e2, hM2⟩ := h
  refine lv_icmp_eq (tgt := 1318) hx hb dL_law_208 (by decide) (fun hc => ?_) (fun hc => absurd (by rw [e1, e2]) hc)
  refine W.widen (k := 200 + (j + 1)) (n := 20000 + 6 * (j + 1)) (by omega) (by omega) ?_
  exact nx _ _ _ _ _ hw (zLw_2 hW hC hM2) hl
set_option maxHeartbeats 4000000 in
set_option maxRecDepth 100000 in
theorem zL_1 {p : Program} {l : Launch} {e : Env} {s : State} {m : MethodId} {below : List Frame} {meth : Method} {c : Code} {b L : Nat} {xs : Nat → Int32} (hL : L ≤ 2048) (hl9 : l.stackTraces = false) (C0 : lw_At p s m meth c b L xs) {g : zg} (hK : zk_K zNF zNM g s) (hX : zx_K s.heap.size g s s.heap) {B i j : Nat} (hi : i + 4 ≤ L) (hj : i = 4 * j) {S : zS} {M : zm_M} {H : Heap} {locs : List Loc} {ls : Array Slot} (hw : zW s.heap.size g s H locs M) (hW : zLw g.2 B M S) (hl : lv_has ls 8 [(0, .ref b), (1, .ref B), (2, .ref (B + 168)), (3, .ref (B + 178)), (4, .int (nI i))])
    (nx : ∀ (S : zS) (M : zm_M) (H : Heap) (locs : List Loc) (ls : Array Slot), zW s.heap.size g s H locs M → zLw g.2 B M S → lv_has ls 8 [(0, .ref b), (1, .ref B), (2, .ref (B + 168)), (3, .ref (B + 178)), (4, .int (nI i))] → W p l e room_1 s m #[Value.ref b] below meth c H locs (200 + (j + 1)) (20000 + 6 * (j + 1)) (lw_Z below #[Value.ref b] s) (F0 m 1318 ls [])) : W p l e room_1 s m #[Value.ref b] below meth c H locs (200 + j) (20000 + 6 * j) (lw_Z below #[Value.ref b] s) (F0 m 213 ls []) := by
  obtain ⟨hx, hb, hr, hml, hown, hts0, hXs, hbl, hlocks, -⟩ := id C0
  have hown : s.vm.findClass RL = some m.cls := hown
  have hbA : ¬ zA s.heap.size b := Nat.not_le.mpr hbl
  have hts : ∀ w ∈ zU, w.before #[Value.ref b] s = true := fun w hw => hts0 w (List.mem_filter.mp hw).1
  have Sx : CallFix p m c cL_law 8 s #[Value.ref b] zU RL := ⟨hx, hb, hml, hown, hts⟩
  have h1 : vp_in (nI i + (1 : Int32)) L := zl_in hL (k := 1) hi (by decide)
  have h2 : vp_in (nI i + (2 : Int32)) L := zl_in hL (k := 2) hi (by decide)
  have h3 : vp_in (nI i + (3 : Int32)) L := zl_in hL (k := 3) hi (by decide)
  refine lv_aload_n hx hb dL_law_213 rfl (lv_at hl 1 rfl) ?_
  refine lv_aload_n hx hb dL_law_214 rfl (lv_at hl 0 rfl) ?_
  refine lv_iload hx hb dL_law_215 (lv_at hl 4 rfl) ?_
  refine lv_iconst (v := (1 : Int32)) hx hb dL_law_217 (by decide) ?_
  refine lv_iadd hx hb dL_law_218 ?_
  refine va_sld hx hb hXs hbl hbA hw.2 h1 dL_law_219 ?_
  refine lv_aload_n hx hb dL_law_220 rfl (lv_at hl 3 rfl) ?_
  refine zr_SXi (hh := [(0, 9, 12, 13)]) (As := [.ref B, .int (xs ((nI i) + (1 : Int32)).toNatClampNeg), .ref (B + 178)]) (rest := []) Sx hK hX hw (kL_shifted l hl9 s.heap.size g M B (xs ((nI i) + (1 : Int32)).toNatClampNeg) (B + 178) (fun r M1 => zLh g.2 B M1 S (zo_shifted S (xs ((nI i) + (1 : Int32)).toNatClampNeg)).2 ((zo_shifted S (xs ((nI i) + (1 : Int32)).toNatClampNeg)).1.map Int32.toInt64) r) ⟨zRC_ob hW.1, c6_shifted hW.1 (zLh_i hW).1 (zLh_i hW).2⟩) (vx_cwSW 3 hts (zg_S zy_9 zy_10 zy_11 zy_12) rfl rfl rfl (by decide +kernel) ⟨Nat.le_of_ble_eq_true rfl, Nat.le_of_ble_eq_true rfl⟩) rfl hl.1 rfl (Nat.le_of_ble_eq_true rfl) dL_law_221 ⟨by show _ ≤ 603072; omega, by show _ ≤ 7223402; omega⟩ (fun r1 M1 H locs hw h => ?_)
  have hH := h
  obtain ⟨e1, -, ⟨t1, hM⟩, -⟩ := h
  refine lv_istore (lv' := [(5, .int r1), (0, .ref b), (1, .ref B), (2, .ref (B + 168)), (3, .ref (B + 178)), (4, .int (nI i))]) hx hb dL_law_224 hl (by decide) rfl (fun ls hl => ?_)
  refine lv_aload_n hx hb dL_law_226 rfl (lv_at hl 3 rfl) ?_
  refine lv_aload_n hx hb dL_law_227 rfl (lv_at hl 1 rfl) ?_
  refine lv_iload hx hb dL_law_228 (lv_at hl 5 rfl) ?_
  refine lv_iconst (v := (1 : Int32)) hx hb dL_law_230 (by decide) ?_
  refine lv_iadd hx hb dL_law_231 ?_
  refine va_sld hx hb hXs hbl hbA hw.2 h1 dL_law_232 ?_
  refine zr_Vi (As := [.int (xs ((nI i) + (1 : Int32)).toNatClampNeg)]) (rest := []) Sx hK hw (kX7_shifted l s.heap.size g M1 (B + 168) (xs ((nI i) + (1 : Int32)).toNatClampNeg) (fun r M2 => r = (zo_shifted S (xs ((nI i) + (1 : Int32)).toNatClampNeg)).1.getD 0 ∧ zRM g.2 (B + 168) M1 M2 (zo_shifted S (xs ((nI i) + (1 : Int32)).toNatClampNeg)).2 (zth (zo_shifted S (xs ((nI i) + (1 : Int32)).toNatClampNeg)).1)) (m7_shifted hM (fun M2 h2 => ⟨rfl, h2⟩))) (cwV 1 hts (zg_V zy_13 zy_14 zy_15 zu_450 zy_16) rfl rfl rfl (by decide +kernel) ⟨Nat.le_of_ble_eq_true rfl, Nat.le_of_ble_eq_true rfl⟩) (ci := 10) rfl (zRM_ob hM) rfl hl.1 rfl (Nat.le_of_ble_eq_true rfl) dL_law_233 ⟨by show _ ≤ 603072; omega, by show _ ≤ 7223402; omega⟩ (fun r2 M2 H locs hw h => ?_)
  obtain ⟨e2, hM2⟩ := h
  refine lv_istore (lv' := [(6, .int r2), (5, .int r1), (0, .ref b), (1, .ref B), (2, .ref (B + 168)), (3, .ref (B + 178)), (4, .int (nI i))]) hx hb dL_law_236 hl (by decide) rfl (fun ls hl => ?_)
  refine lv_aload_n hx hb dL_law_238 rfl (lv_at hl 4 rfl) ?_
  refine zr_Vi (As := []) (rest := []) Sx hK hw (kX7_thrown l s.heap.size g M2 (B + 168) (fun r M3 => r = zth (zo_shifted S (xs ((nI i) + (1 : Int32)).toNatClampNeg)).1 ∧ M3 = M2) (m7_thrown hM2 ⟨rfl, rfl⟩)) (cwV 0 hts (zg_V zy_17 zy_18 zy_19 zu_450 zy_20) rfl rfl rfl (by decide +kernel) ⟨Nat.le_of_ble_eq_true rfl, Nat.le_of_ble_eq_true rfl⟩) (ci := 10) rfl (zRM_ob hM2) rfl hl.1 rfl (Nat.le_of_ble_eq_true rfl) dL_law_239 ⟨by show _ ≤ 603072; omega, by show _ ≤ 7223402; omega⟩ (fun r3 M3 H locs hw h => ?_)
  obtain ⟨e3, hM3⟩ := h
  rw [hM3] at hw
  obtain ⟨hW2, f9, hf9, hv9⟩ := zLh_2 hH hM2
  refine lv_iload hx hb dL_law_242 (lv_at hl 1 rfl) ?_
  refine lv_icmp_eq (tgt := 249) hx hb dL_law_244 (by decide) (fun hc => ?_) (fun hc => absurd (by rw [e3, e1, zth_m]) hc)
  refine lv_iload hx hb dL_law_249 (lv_at hl 1 rfl) ?_
  refine lv_if_ne (tgt := 266) hx hb dL_law_251 (by decide) (fun hn => ?_) (fun hn => ?_)
  · refine lv_goto (tgt := 1318) hx hb dL_law_266 (by decide) ?_
    refine W.widen (k := 200 + (j + 1)) (n := 20000 + 6 * (j + 1)) (by omega) (by omega) ?_
    exact nx _ _ _ _ _ hw hW2 (lv_sub hl [2, 3, 4, 5, 6] rfl)
  · refine lv_aload_n hx hb dL_law_254 rfl (lv_at hl 5 rfl) ?_
    refine lv_iconst (v := (0 : Int32)) hx hb dL_law_255 (by decide) ?_
    have hq : zw_ll (g.2 3) M2 (B + 178) (0 : Int32) (fun x => x = f9 0) := ⟨1, f9, hf9, vp_in_nI (n := 0) (N := 1) (by decide) (by decide), rfl⟩
    refine zr_lald Sx hK hw dL_law_256 hq (fun x9 e9 => ?_)
    refine lv_iload hx hb dL_law_257 (lv_at hl 0 rfl) ?_
    refine lv_i2l hx hb dL_law_259 rfl ?_
    refine W.lcmp hx hb dL_law_260 ?_
    have hs : x9 = r2.toInt64 := by
      obtain ⟨v, hv⟩ := zth_0 ((zth_m.symm.trans e1.symm).trans hn)
      rw [e9, hv9 v.toInt64 (by rw [hv]; rfl), e2, hv]
      rfl
    refine lv_if_eq (tgt := 266) hx hb dL_law_261 (by decide) (fun hc => ?_) (fun hc => absurd (zc_eq.mpr hs) hc)
    refine lv_goto (tgt := 1318) hx hb dL_law_266 (by decide) ?_
    refine W.widen (k := 200 + (j + 1)) (n := 20000 + 6 * (j + 1)) (by omega) (by omega) ?_
    exact nx _ _ _ _ _ hw hW2 (lv_sub hl [2, 3, 4, 5, 6] rfl)
set_option maxHeartbeats 4000000 in
set_option maxRecDepth 100000 in
theorem zL_2 {p : Program} {l : Launch} {e : Env} {s : State} {m : MethodId} {below : List Frame} {meth : Method} {c : Code} {b L : Nat} {xs : Nat → Int32} (hL : L ≤ 2048) (hl9 : l.stackTraces = false) (C0 : lw_At p s m meth c b L xs) {g : zg} (hK : zk_K zNF zNM g s) (hX : zx_K s.heap.size g s s.heap) {B i j : Nat} (hi : i + 4 ≤ L) (hj : i = 4 * j) {S : zS} {M : zm_M} {H : Heap} {locs : List Loc} {ls : Array Slot} (hw : zW s.heap.size g s H locs M) (hW : zLw g.2 B M S) (hl : lv_has ls 8 [(0, .ref b), (1, .ref B), (2, .ref (B + 168)), (3, .ref (B + 178)), (4, .int (nI i))])
    (nx : ∀ (S : zS) (M : zm_M) (H : Heap) (locs : List Loc) (ls : Array Slot), zW s.heap.size g s H locs M → zLw g.2 B M S → lv_has ls 8 [(0, .ref b), (1, .ref B), (2, .ref (B + 168)), (3, .ref (B + 178)), (4, .int (nI i))] → W p l e room_1 s m #[Value.ref b] below meth c H locs (200 + (j + 1)) (20000 + 6 * (j + 1)) (lw_Z below #[Value.ref b] s) (F0 m 1318 ls [])) : W p l e room_1 s m #[Value.ref b] below meth c H locs (200 + j) (20000 + 6 * j) (lw_Z below #[Value.ref b] s) (F0 m 269 ls []) := by
  obtain ⟨hx, hb, hr, hml, hown, hts0, hXs, hbl, hlocks, -⟩ := id C0
  have hown : s.vm.findClass RL = some m.cls := hown
  have hbA : ¬ zA s.heap.size b := Nat.not_le.mpr hbl
  have hts : ∀ w ∈ zU, w.before #[Value.ref b] s = true := fun w hw => hts0 w (List.mem_filter.mp hw).1
  have Sx : CallFix p m c cL_law 8 s #[Value.ref b] zU RL := ⟨hx, hb, hml, hown, hts⟩
  have h1 : vp_in (nI i + (1 : Int32)) L := zl_in hL (k := 1) hi (by decide)
  have h2 : vp_in (nI i + (2 : Int32)) L := zl_in hL (k := 2) hi (by decide)
  have h3 : vp_in (nI i + (3 : Int32)) L := zl_in hL (k := 3) hi (by decide)
  refine lv_aload_n hx hb dL_law_269 rfl (lv_at hl 1 rfl) ?_
  refine lv_aload_n hx hb dL_law_270 rfl (lv_at hl 0 rfl) ?_
  refine lv_iload hx hb dL_law_271 (lv_at hl 4 rfl) ?_
  refine lv_iconst (v := (1 : Int32)) hx hb dL_law_273 (by decide) ?_
  refine lv_iadd hx hb dL_law_274 ?_
  refine va_sld hx hb hXs hbl hbA hw.2 h1 dL_law_275 ?_
  refine lv_aload_n hx hb dL_law_276 rfl (lv_at hl 0 rfl) ?_
  refine lv_iload hx hb dL_law_277 (lv_at hl 4 rfl) ?_
  refine lv_iconst (v := (2 : Int32)) hx hb dL_law_279 (by decide) ?_
  refine lv_iadd hx hb dL_law_280 ?_
  refine va_sld hx hb hXs hbl hbA hw.2 h2 dL_law_281 ?_
  refine lv_aload_n hx hb dL_law_282 rfl (lv_at hl 3 rfl) ?_
  refine zr_SXi (hh := [(0, 10, 13, 19)]) (As := [.ref B, .int (xs ((nI i) + (1 : Int32)).toNatClampNeg), .int (xs ((nI i) + (2 : Int32)).toNatClampNeg), .ref (B + 178)]) (rest := []) Sx hK hX hw (kL_over l hl9 s.heap.size g M B (xs ((nI i) + (1 : Int32)).toNatClampNeg) (xs ((nI i) + (2 : Int32)).toNatClampNeg) (B + 178) (fun r M1 => zLh g.2 B M1 S (zo_over S (xs ((nI i) + (1 : Int32)).toNatClampNeg) (xs ((nI i) + (2 : Int32)).toNatClampNeg)).2 ((zo_over S (xs ((nI i) + (1 : Int32)).toNatClampNeg) (xs ((nI i) + (2 : Int32)).toNatClampNeg)).1.map Int32.toInt64) r) ⟨zRC_ob hW.1, c6_over hW.1 (zLh_i hW).1 (zLh_i hW).2⟩) (vx_cwSW 4 hts (zg_S zy_21 zy_22 zy_11 zy_23) rfl rfl rfl (by decide +kernel) ⟨Nat.le_of_ble_eq_true rfl, Nat.le_of_ble_eq_true rfl⟩) rfl hl.1 rfl (Nat.le_of_ble_eq_true rfl) dL_law_283 ⟨by show _ ≤ 603072; omega, by show _ ≤ 7223402; omega⟩ (fun r1 M1 H locs hw h => ?_)
  have hH := h
  obtain ⟨e1, -, ⟨t1, hM⟩, -⟩ := h
  refine lv_istore (lv' := [(5, .int r1), (0, .ref b), (1, .ref B), (2, .ref (B + 168)), (3, .ref (B + 178)), (4, .int (nI i))]) hx hb dL_law_286 hl (by decide) rfl (fun ls hl => ?_)
  refine lv_aload_n hx hb dL_law_288 rfl (lv_at hl 3 rfl) ?_
  refine lv_aload_n hx hb dL_law_289 rfl (lv_at hl 1 rfl) ?_
  refine lv_iload hx hb dL_law_290 (lv_at hl 5 rfl) ?_
  refine lv_iconst (v := (1 : Int32)) hx hb dL_law_292 (by decide) ?_
  refine lv_iadd hx hb dL_law_293 ?_
  refine va_sld hx hb hXs hbl hbA hw.2 h1 dL_law_294 ?_
  refine lv_aload_n hx hb dL_law_295 rfl (lv_at hl 1 rfl) ?_
  refine lv_iload hx hb dL_law_296 (lv_at hl 5 rfl) ?_
  refine lv_iconst (v := (2 : Int32)) hx hb dL_law_298 (by decide) ?_
  refine lv_iadd hx hb dL_law_299 ?_
  refine va_sld hx hb hXs hbl hbA hw.2 h2 dL_law_300 ?_
  refine zr_Vi (As := [.int (xs ((nI i) + (1 : Int32)).toNatClampNeg), .int (xs ((nI i) + (2 : Int32)).toNatClampNeg)]) (rest := []) Sx hK hw (kX7_over l s.heap.size g M1 (B + 168) (xs ((nI i) + (1 : Int32)).toNatClampNeg) (xs ((nI i) + (2 : Int32)).toNatClampNeg) (fun r M2 => r = (zo_over S (xs ((nI i) + (1 : Int32)).toNatClampNeg) (xs ((nI i) + (2 : Int32)).toNatClampNeg)).1.getD 0 ∧ zRM g.2 (B + 168) M1 M2 (zo_over S (xs ((nI i) + (1 : Int32)).toNatClampNeg) (xs ((nI i) + (2 : Int32)).toNatClampNeg)).2 (zth (zo_over S (xs ((nI i) + (1 : Int32)).toNatClampNeg) (xs ((nI i) + (2 : Int32)).toNatClampNeg)).1)) (m7_over hM (fun M2 h2 => ⟨rfl, h2⟩))) (cwV 2 hts (zg_V zy_24 zy_25 zy_26 zu_450 zy_27) rfl rfl rfl (by decide +kernel) ⟨Nat.le_of_ble_eq_true rfl, Nat.le_of_ble_eq_true rfl⟩) (ci := 10) rfl (zRM_ob hM) rfl hl.1 rfl (Nat.le_of_ble_eq_true rfl) dL_law_301 ⟨by show _ ≤ 603072; omega, by show _ ≤ 7223402; omega⟩ (fun r2 M2 H locs hw h => ?_)
  obtain ⟨e2, hM2⟩ := h
  refine lv_istore (lv' := [(6, .int r2), (5, .int r1), (0, .ref b), (1, .ref B), (2, .ref (B + 168)), (3, .ref (B + 178)), (4, .int (nI i))]) hx hb dL_law_304 hl (by decide) rfl (fun ls hl => ?_)
  refine lv_aload_n hx hb dL_law_306 rfl (lv_at hl 4 rfl) ?_
  refine zr_Vi (As := []) (rest := []) Sx hK hw (kX7_thrown l s.heap.size g M2 (B + 168) (fun r M3 => r = zth (zo_over S (xs ((nI i) + (1 : Int32)).toNatClampNeg) (xs ((nI i) + (2 : Int32)).toNatClampNeg)).1 ∧ M3 = M2) (m7_thrown hM2 ⟨rfl, rfl⟩)) (cwV 0 hts (zg_V zy_17 zy_18 zy_19 zu_450 zy_20) rfl rfl rfl (by decide +kernel) ⟨Nat.le_of_ble_eq_true rfl, Nat.le_of_ble_eq_true rfl⟩) (ci := 10) rfl (zRM_ob hM2) rfl hl.1 rfl (Nat.le_of_ble_eq_true rfl) dL_law_307 ⟨by show _ ≤ 603072; omega, by show _ ≤ 7223402; omega⟩ (fun r3 M3 H locs hw h => ?_)
  obtain ⟨e3, hM3⟩ := h
  rw [hM3] at hw
  obtain ⟨hW2, f9, hf9, hv9⟩ := zLh_2 hH hM2
  refine lv_iload hx hb dL_law_310 (lv_at hl 1 rfl) ?_
  refine lv_icmp_eq (tgt := 317) hx hb dL_law_312 (by decide) (fun hc => ?_) (fun hc => absurd (by rw [e3, e1, zth_m]) hc)
  refine lv_iload hx hb dL_law_317 (lv_at hl 1 rfl) ?_
  refine lv_if_ne (tgt := 334) hx hb dL_law_319 (by decide) (fun hn => ?_) (fun hn => ?_)
  · refine lv_goto (tgt := 1318) hx hb dL_law_334 (by decide) ?_
    refine W.widen (k := 200 + (j + 1)) (n := 20000 + 6 * (j + 1)) (by omega) (by omega) ?_
    exact nx _ _ _ _ _ hw hW2 (lv_sub hl [2, 3, 4, 5, 6] rfl)
  · refine lv_aload_n hx hb dL_law_322 rfl (lv_at hl 5 rfl) ?_
    refine lv_iconst (v := (0 : Int32)) hx hb dL_law_323 (by decide) ?_
    have hq : zw_ll (g.2 3) M2 (B + 178) (0 : Int32) (fun x => x = f9 0) := ⟨1, f9, hf9, vp_in_nI (n := 0) (N := 1) (by decide) (by decide), rfl⟩
    refine zr_lald Sx hK hw dL_law_324 hq (fun x9 e9 => ?_)
    refine lv_iload hx hb dL_law_325 (lv_at hl 0 rfl) ?_
    refine lv_i2l hx hb dL_law_327 rfl ?_
    refine W.lcmp hx hb dL_law_328 ?_
    have hs : x9 = r2.toInt64 := by
      obtain ⟨v, hv⟩ := zth_0 ((zth_m.symm.trans e1.symm).trans hn)
      rw [e9, hv9 v.toInt64 (by rw [hv]; rfl), e2, hv]
      rfl
    refine lv_if_eq (tgt := 334) hx hb dL_law_329 (by decide) (fun hc => ?_) (fun hc => absurd (zc_eq.mpr hs) hc)
    refine lv_goto (tgt := 1318) hx hb dL_law_334 (by decide) ?_
    refine W.widen (k := 200 + (j + 1)) (n := 20000 + 6 * (j + 1)) (by omega) (by omega) ?_
    exact nx _ _ _ _ _ hw hW2 (lv_sub hl [2, 3, 4, 5, 6] rfl)
set_option maxHeartbeats 4000000 in
set_option maxRecDepth 100000 in
theorem zL_3 {p : Program} {l : Launch} {e : Env} {s : State} {m : MethodId} {below : List Frame} {meth : Method} {c : Code} {b L : Nat} {xs : Nat → Int32} (hL : L ≤ 2048) (hl9 : l.stackTraces = false) (C0 : lw_At p s m meth c b L xs) {g : zg} (hK : zk_K zNF zNM g s) (hX : zx_K s.heap.size g s s.heap) {B i j : Nat} (hi : i + 4 ≤ L) (hj : i = 4 * j) {S : zS} {M : zm_M} {H : Heap} {locs : List Loc} {ls : Array Slot} (hw : zW s.heap.size g s H locs M) (hW : zLw g.2 B M S) (hl : lv_has ls 8 [(0, .ref b), (1, .ref B), (2, .ref (B + 168)), (3, .ref (B + 178)), (4, .int (nI i))])
    (nx : ∀ (S : zS) (M : zm_M) (H : Heap) (locs : List Loc) (ls : Array Slot), zW s.heap.size g s H locs M → zLw g.2 B M S → lv_has ls 8 [(0, .ref b), (1, .ref B), (2, .ref (B + 168)), (3, .ref (B + 178)), (4, .int (nI i))] → W p l e room_1 s m #[Value.ref b] below meth c H locs (200 + (j + 1)) (20000 + 6 * (j + 1)) (lw_Z below #[Value.ref b] s) (F0 m 1318 ls [])) : W p l e room_1 s m #[Value.ref b] below meth c H locs (200 + j) (20000 + 6 * j) (lw_Z below #[Value.ref b] s) (F0 m 337 ls []) := by
  obtain ⟨hx, hb, hr, hml, hown, hts0, hXs, hbl, hlocks, -⟩ := id C0
  have hown : s.vm.findClass RL = some m.cls := hown
  have hbA : ¬ zA s.heap.size b := Nat.not_le.mpr hbl
  have hts : ∀ w ∈ zU, w.before #[Value.ref b] s = true := fun w hw => hts0 w (List.mem_filter.mp hw).1
  have Sx : CallFix p m c cL_law 8 s #[Value.ref b] zU RL := ⟨hx, hb, hml, hown, hts⟩
  have h1 : vp_in (nI i + (1 : Int32)) L := zl_in hL (k := 1) hi (by decide)
  have h2 : vp_in (nI i + (2 : Int32)) L := zl_in hL (k := 2) hi (by decide)
  have h3 : vp_in (nI i + (3 : Int32)) L := zl_in hL (k := 3) hi (by decide)
  refine lv_aload_n hx hb dL_law_337 rfl (lv_at hl 1 rfl) ?_
  refine lv_aload_n hx hb dL_law_338 rfl (lv_at hl 0 rfl) ?_
  refine lv_iload hx hb dL_law_339 (lv_at hl 4 rfl) ?_
  refine lv_iconst (v := (1 : Int32)) hx hb dL_law_341 (by decide) ?_
  refine lv_iadd hx hb dL_law_342 ?_
  refine va_sld hx hb hXs hbl hbA hw.2 h1 dL_law_343 ?_
  refine lv_aload_n hx hb dL_law_344 rfl (lv_at hl 0 rfl) ?_
  refine lv_iload hx hb dL_law_345 (lv_at hl 4 rfl) ?_
  refine lv_iconst (v := (2 : Int32)) hx hb dL_law_347 (by decide) ?_
  refine lv_iadd hx hb dL_law_348 ?_
  refine va_sld hx hb hXs hbl hbA hw.2 h2 dL_law_349 ?_
  refine lv_aload_n hx hb dL_law_350 rfl (lv_at hl 0 rfl) ?_
  refine lv_iload hx hb dL_law_351 (lv_at hl 4 rfl) ?_
  refine lv_iconst (v := (3 : Int32)) hx hb dL_law_353 (by decide) ?_
  refine lv_iadd hx hb dL_law_354 ?_
  refine va_sld hx hb hXs hbl hbA hw.2 h3 dL_law_355 ?_
  refine lv_aload_n hx hb dL_law_356 rfl (lv_at hl 3 rfl) ?_
  refine zr_SXi (hh := [(0, 12, 15, 19)]) (As := [.ref B, .int (xs ((nI i) + (1 : Int32)).toNatClampNeg), .int (xs ((nI i) + (2 : Int32)).toNatClampNeg), .int (xs ((nI i) + (3 : Int32)).toNatClampNeg), .ref (B + 178)]) (rest := []) Sx hK hX hw (kL_apply l hl9 s.heap.size g M B (xs ((nI i) + (1 : Int32)).toNatClampNeg) (xs ((nI i) + (2 : Int32)).toNatClampNeg) (xs ((nI i) + (3 : Int32)).toNatClampNeg) (B + 178) (fun r M1 => zLh g.2 B M1 S (zo_apply S (xs ((nI i) + (1 : Int32)).toNatClampNeg) (xs ((nI i) + (2 : Int32)).toNatClampNeg) (xs ((nI i) + (3 : Int32)).toNatClampNeg)).2 ((zo_apply S (xs ((nI i) + (1 : Int32)).toNatClampNeg) (xs ((nI i) + (2 : Int32)).toNatClampNeg) (xs ((nI i) + (3 : Int32)).toNatClampNeg)).1.map Int32.toInt64) r) ⟨zRC_ob hW.1, c6_apply hW.1 (zLh_i hW).1 (zLh_i hW).2⟩) (vx_cwSW 5 hts (zg_S zy_28 zy_29 zy_11 zy_30) rfl rfl rfl (by decide +kernel) ⟨Nat.le_of_ble_eq_true rfl, Nat.le_of_ble_eq_true rfl⟩) rfl hl.1 rfl (Nat.le_of_ble_eq_true rfl) dL_law_357 ⟨by show _ ≤ 603072; omega, by show _ ≤ 7223402; omega⟩ (fun r1 M1 H locs hw h => ?_)
  have hH := h
  obtain ⟨e1, -, ⟨t1, hM⟩, -⟩ := h
  refine lv_istore (lv' := [(5, .int r1), (0, .ref b), (1, .ref B), (2, .ref (B + 168)), (3, .ref (B + 178)), (4, .int (nI i))]) hx hb dL_law_360 hl (by decide) rfl (fun ls hl => ?_)
  refine lv_aload_n hx hb dL_law_362 rfl (lv_at hl 3 rfl) ?_
  refine lv_aload_n hx hb dL_law_363 rfl (lv_at hl 1 rfl) ?_
  refine lv_iload hx hb dL_law_364 (lv_at hl 5 rfl) ?_
  refine lv_iconst (v := (1 : Int32)) hx hb dL_law_366 (by decide) ?_
  refine lv_iadd hx hb dL_law_367 ?_
  refine va_sld hx hb hXs hbl hbA hw.2 h1 dL_law_368 ?_
  refine lv_aload_n hx hb dL_law_369 rfl (lv_at hl 1 rfl) ?_
  refine lv_iload hx hb dL_law_370 (lv_at hl 5 rfl) ?_
  refine lv_iconst (v := (2 : Int32)) hx hb dL_law_372 (by decide) ?_
  refine lv_iadd hx hb dL_law_373 ?_
  refine va_sld hx hb hXs hbl hbA hw.2 h2 dL_law_374 ?_
  refine lv_aload_n hx hb dL_law_375 rfl (lv_at hl 1 rfl) ?_
  refine lv_iload hx hb dL_law_376 (lv_at hl 5 rfl) ?_
  refine lv_iconst (v := (3 : Int32)) hx hb dL_law_378 (by decide) ?_
  refine lv_iadd hx hb dL_law_379 ?_
  refine va_sld hx hb hXs hbl hbA hw.2 h3 dL_law_380 ?_
  refine zr_Vi (As := [.int (xs ((nI i) + (1 : Int32)).toNatClampNeg), .int (xs ((nI i) + (2 : Int32)).toNatClampNeg), .int (xs ((nI i) + (3 : Int32)).toNatClampNeg)]) (rest := []) Sx hK hw (kX7_apply l s.heap.size g M1 (B + 168) (xs ((nI i) + (1 : Int32)).toNatClampNeg) (xs ((nI i) + (2 : Int32)).toNatClampNeg) (xs ((nI i) + (3 : Int32)).toNatClampNeg) (fun r M2 => r = (zo_apply S (xs ((nI i) + (1 : Int32)).toNatClampNeg) (xs ((nI i) + (2 : Int32)).toNatClampNeg) (xs ((nI i) + (3 : Int32)).toNatClampNeg)).1.getD 0 ∧ zRM g.2 (B + 168) M1 M2 (zo_apply S (xs ((nI i) + (1 : Int32)).toNatClampNeg) (xs ((nI i) + (2 : Int32)).toNatClampNeg) (xs ((nI i) + (3 : Int32)).toNatClampNeg)).2 (zth (zo_apply S (xs ((nI i) + (1 : Int32)).toNatClampNeg) (xs ((nI i) + (2 : Int32)).toNatClampNeg) (xs ((nI i) + (3 : Int32)).toNatClampNeg)).1)) (m7_apply hM (fun M2 h2 => ⟨rfl, h2⟩))) (cwV 3 hts (zg_V zy_31 zy_32 zy_33 zu_450 zy_34) rfl rfl rfl (by decide +kernel) ⟨Nat.le_of_ble_eq_true rfl, Nat.le_of_ble_eq_true rfl⟩) (ci := 10) rfl (zRM_ob hM) rfl hl.1 rfl (Nat.le_of_ble_eq_true rfl) dL_law_381 ⟨by show _ ≤ 603072; omega, by show _ ≤ 7223402; omega⟩ (fun r2 M2 H locs hw h => ?_)
  obtain ⟨e2, hM2⟩ := h
  refine lv_istore (lv' := [(6, .int r2), (5, .int r1), (0, .ref b), (1, .ref B), (2, .ref (B + 168)), (3, .ref (B + 178)), (4, .int (nI i))]) hx hb dL_law_384 hl (by decide) rfl (fun ls hl => ?_)
  refine lv_aload_n hx hb dL_law_386 rfl (lv_at hl 4 rfl) ?_
  refine zr_Vi (As := []) (rest := []) Sx hK hw (kX7_thrown l s.heap.size g M2 (B + 168) (fun r M3 => r = zth (zo_apply S (xs ((nI i) + (1 : Int32)).toNatClampNeg) (xs ((nI i) + (2 : Int32)).toNatClampNeg) (xs ((nI i) + (3 : Int32)).toNatClampNeg)).1 ∧ M3 = M2) (m7_thrown hM2 ⟨rfl, rfl⟩)) (cwV 0 hts (zg_V zy_17 zy_18 zy_19 zu_450 zy_20) rfl rfl rfl (by decide +kernel) ⟨Nat.le_of_ble_eq_true rfl, Nat.le_of_ble_eq_true rfl⟩) (ci := 10) rfl (zRM_ob hM2) rfl hl.1 rfl (Nat.le_of_ble_eq_true rfl) dL_law_387 ⟨by show _ ≤ 603072; omega, by show _ ≤ 7223402; omega⟩ (fun r3 M3 H locs hw h => ?_)
  obtain ⟨e3, hM3⟩ := h
  rw [hM3] at hw
  obtain ⟨hW2, f9, hf9, hv9⟩ := zLh_2 hH hM2
  refine lv_iload hx hb dL_law_390 (lv_at hl 1 rfl) ?_
  refine lv_icmp_eq (tgt := 397) hx hb dL_law_392 (by decide) (fun hc => ?_) (fun hc => absurd (by rw [e3, e1, zth_m]) hc)
  refine lv_iload hx hb dL_law_397 (lv_at hl 1 rfl) ?_
  refine lv_if_ne (tgt := 414) hx hb dL_law_399 (by decide) (fun hn => ?_) (fun hn => ?_)
  · refine lv_goto (tgt := 1318) hx hb dL_law_414 (by decide) ?_
    refine W.widen (k := 200 + (j + 1)) (n := 20000 + 6 * (j + 1)) (by omega) (by omega) ?_
    exact nx _ _ _ _ _ hw hW2 (lv_sub hl [2, 3, 4, 5, 6] rfl)
  · refine lv_aload_n hx hb dL_law_402 rfl (lv_at hl 5 rfl) ?_
    refine lv_iconst (v := (0 : Int32)) hx hb dL_law_403 (by decide) ?_
    have hq : zw_ll (g.2 3) M2 (B + 178) (0 : Int32) (fun x => x = f9 0) := ⟨1, f9, hf9, vp_in_nI (n := 0) (N := 1) (by decide) (by decide), rfl⟩
    refine zr_lald Sx hK hw dL_law_404 hq (fun x9 e9 => ?_)
    refine lv_iload hx hb dL_law_405 (lv_at hl 0 rfl) ?_
    refine lv_i2l hx hb dL_law_407 rfl ?_
    refine W.lcmp hx hb dL_law_408 ?_
    have hs : x9 = r2.toInt64 := by
      obtain ⟨v, hv⟩ := zth_0 ((zth_m.symm.trans e1.symm).trans hn)
      rw [e9, hv9 v.toInt64 (by rw [hv]; rfl), e2, hv]
      rfl
    refine lv_if_eq (tgt := 414) hx hb dL_law_409 (by decide) (fun hc => ?_) (fun hc => absurd (zc_eq.mpr hs) hc)
    refine lv_goto (tgt := 1318) hx hb dL_law_414 (by decide) ?_
    refine W.widen (k := 200 + (j + 1)) (n := 20000 + 6 * (j + 1)) (by omega) (by omega) ?_
    exact nx _ _ _ _ _ hw hW2 (lv_sub hl [2, 3, 4, 5, 6] rfl)
set_option maxHeartbeats 4000000 in
set_option maxRecDepth 100000 in
theorem zL_4 {p : Program} {l : Launch} {e : Env} {s : State} {m : MethodId} {below : List Frame} {meth : Method} {c : Code} {b L : Nat} {xs : Nat → Int32} (hL : L ≤ 2048) (hl9 : l.stackTraces = false) (C0 : lw_At p s m meth c b L xs) {g : zg} (hK : zk_K zNF zNM g s) (hX : zx_K s.heap.size g s s.heap) {B i j : Nat} (hi : i + 4 ≤ L) (hj : i = 4 * j) {S : zS} {M : zm_M} {H : Heap} {locs : List Loc} {ls : Array Slot} (hw : zW s.heap.size g s H locs M) (hW : zLw g.2 B M S) (hl : lv_has ls 8 [(0, .ref b), (1, .ref B), (2, .ref (B + 168)), (3, .ref (B + 178)), (4, .int (nI i))])
    (nx : ∀ (S : zS) (M : zm_M) (H : Heap) (locs : List Loc) (ls : Array Slot), zW s.heap.size g s H locs M → zLw g.2 B M S → lv_has ls 8 [(0, .ref b), (1, .ref B), (2, .ref (B + 168)), (3, .ref (B + 178)), (4, .int (nI i))] → W p l e room_1 s m #[Value.ref b] below meth c H locs (200 + (j + 1)) (20000 + 6 * (j + 1)) (lw_Z below #[Value.ref b] s) (F0 m 1318 ls [])) : W p l e room_1 s m #[Value.ref b] below meth c H locs (200 + j) (20000 + 6 * j) (lw_Z below #[Value.ref b] s) (F0 m 417 ls []) := by
  obtain ⟨hx, hb, hr, hml, hown, hts0, hXs, hbl, hlocks, -⟩ := id C0
  have hown : s.vm.findClass RL = some m.cls := hown
  have hbA : ¬ zA s.heap.size b := Nat.not_le.mpr hbl
  have hts : ∀ w ∈ zU, w.before #[Value.ref b] s = true := fun w hw => hts0 w (List.mem_filter.mp hw).1
  have Sx : CallFix p m c cL_law 8 s #[Value.ref b] zU RL := ⟨hx, hb, hml, hown, hts⟩
  have h1 : vp_in (nI i + (1 : Int32)) L := zl_in hL (k := 1) hi (by decide)
  have h2 : vp_in (nI i + (2 : Int32)) L := zl_in hL (k := 2) hi (by decide)
  have h3 : vp_in (nI i + (3 : Int32)) L := zl_in hL (k := 3) hi (by decide)
  refine lv_aload_n hx hb dL_law_417 rfl (lv_at hl 1 rfl) ?_
  refine lv_aload_n hx hb dL_law_418 rfl (lv_at hl 0 rfl) ?_
  refine lv_iload hx hb dL_law_419 (lv_at hl 4 rfl) ?_
  refine lv_iconst (v := (1 : Int32)) hx hb dL_law_421 (by decide) ?_
  refine lv_iadd hx hb dL_law_422 ?_
  refine va_sld hx hb hXs hbl hbA hw.2 h1 dL_law_423 ?_
  refine lv_aload_n hx hb dL_law_424 rfl (lv_at hl 0 rfl) ?_
  refine lv_iload hx hb dL_law_425 (lv_at hl 4 rfl) ?_
  refine lv_iconst (v := (2 : Int32)) hx hb dL_law_427 (by decide) ?_
  refine lv_iadd hx hb dL_law_428 ?_
  refine va_sld hx hb hXs hbl hbA hw.2 h2 dL_law_429 ?_
  refine lv_aload_n hx hb dL_law_430 rfl (lv_at hl 3 rfl) ?_
  refine zr_SXi (hh := [(0, 10, 13, 19)]) (As := [.ref B, .int (xs ((nI i) + (1 : Int32)).toNatClampNeg), .int (xs ((nI i) + (2 : Int32)).toNatClampNeg), .ref (B + 178)]) (rest := []) Sx hK hX hw (kL_power l hl9 s.heap.size g M B (xs ((nI i) + (1 : Int32)).toNatClampNeg) (xs ((nI i) + (2 : Int32)).toNatClampNeg) (B + 178) (fun r M1 => zLh g.2 B M1 S (zo_power S (xs ((nI i) + (1 : Int32)).toNatClampNeg) (xs ((nI i) + (2 : Int32)).toNatClampNeg)).2 ((zo_power S (xs ((nI i) + (1 : Int32)).toNatClampNeg) (xs ((nI i) + (2 : Int32)).toNatClampNeg)).1.map Int32.toInt64) r) ⟨zRC_ob hW.1, c6_power hW.1 (zLh_i hW).1 (zLh_i hW).2⟩) (vx_cwSW 4 hts (zg_S zy_35 zy_36 zy_11 zy_37) rfl rfl rfl (by decide +kernel) ⟨Nat.le_of_ble_eq_true rfl, Nat.le_of_ble_eq_true rfl⟩) rfl hl.1 rfl (Nat.le_of_ble_eq_true rfl) dL_law_431 ⟨by show _ ≤ 603072; omega, by show _ ≤ 7223402; omega⟩ (fun r1 M1 H locs hw h => ?_)
  have hH := h
  obtain ⟨e1, -, ⟨t1, hM⟩, -⟩ := h
  refine lv_istore (lv' := [(5, .int r1), (0, .ref b), (1, .ref B), (2, .ref (B + 168)), (3, .ref (B + 178)), (4, .int (nI i))]) hx hb dL_law_434 hl (by decide) rfl (fun ls hl => ?_)
  refine lv_aload_n hx hb dL_law_436 rfl (lv_at hl 3 rfl) ?_
  refine lv_aload_n hx hb dL_law_437 rfl (lv_at hl 1 rfl) ?_
  refine lv_iload hx hb dL_law_438 (lv_at hl 5 rfl) ?_
  refine lv_iconst (v := (1 : Int32)) hx hb dL_law_440 (by decide) ?_
  refine lv_iadd hx hb dL_law_441 ?_
  refine va_sld hx hb hXs hbl hbA hw.2 h1 dL_law_442 ?_
  refine lv_aload_n hx hb dL_law_443 rfl (lv_at hl 1 rfl) ?_
  refine lv_iload hx hb dL_law_444 (lv_at hl 5 rfl) ?_
  refine lv_iconst (v := (2 : Int32)) hx hb dL_law_446 (by decide) ?_
  refine lv_iadd hx hb dL_law_447 ?_
  refine va_sld hx hb hXs hbl hbA hw.2 h2 dL_law_448 ?_
  refine zr_Vi (As := [.int (xs ((nI i) + (1 : Int32)).toNatClampNeg), .int (xs ((nI i) + (2 : Int32)).toNatClampNeg)]) (rest := []) Sx hK hw (kX7_power l s.heap.size g M1 (B + 168) (xs ((nI i) + (1 : Int32)).toNatClampNeg) (xs ((nI i) + (2 : Int32)).toNatClampNeg) (fun r M2 => r = (zo_power S (xs ((nI i) + (1 : Int32)).toNatClampNeg) (xs ((nI i) + (2 : Int32)).toNatClampNeg)).1.getD 0 ∧ zRM g.2 (B + 168) M1 M2 (zo_power S (xs ((nI i) + (1 : Int32)).toNatClampNeg) (xs ((nI i) + (2 : Int32)).toNatClampNeg)).2 (zth (zo_power S (xs ((nI i) + (1 : Int32)).toNatClampNeg) (xs ((nI i) + (2 : Int32)).toNatClampNeg)).1)) (m7_power hM (fun M2 h2 => ⟨rfl, h2⟩))) (cwV 2 hts (zg_V zy_38 zy_39 zy_40 zu_450 zy_41) rfl rfl rfl (by decide +kernel) ⟨Nat.le_of_ble_eq_true rfl, Nat.le_of_ble_eq_true rfl⟩) (ci := 10) rfl (zRM_ob hM) rfl hl.1 rfl (Nat.le_of_ble_eq_true rfl) dL_law_449 ⟨by show _ ≤ 603072; omega, by show _ ≤ 7223402; omega⟩ (fun r2 M2 H locs hw h => ?_)
  obtain ⟨e2, hM2⟩ := h
  refine lv_istore (lv' := [(6, .int r2), (5, .int r1), (0, .ref b), (1, .ref B), (2, .ref (B + 168)), (3, .ref (B + 178)), (4, .int (nI i))]) hx hb dL_law_452 hl (by decide) rfl (fun ls hl => ?_)
  refine lv_aload_n hx hb dL_law_454 rfl (lv_at hl 4 rfl) ?_
  refine zr_Vi (As := []) (rest := []) Sx hK hw (kX7_thrown l s.heap.size g M2 (B + 168) (fun r M3 => r = zth (zo_power S (xs ((nI i) + (1 : Int32)).toNatClampNeg) (xs ((nI i) + (2 : Int32)).toNatClampNeg)).1 ∧ M3 = M2) (m7_thrown hM2 ⟨rfl, rfl⟩)) (cwV 0 hts (zg_V zy_17 zy_18 zy_19 zu_450 zy_20) rfl rfl rfl (by decide +kernel) ⟨Nat.le_of_ble_eq_true rfl, Nat.le_of_ble_eq_true rfl⟩) (ci := 10) rfl (zRM_ob hM2) rfl hl.1 rfl (Nat.le_of_ble_eq_true rfl) dL_law_455 ⟨by show _ ≤ 603072; omega, by show _ ≤ 7223402; omega⟩ (fun r3 M3 H locs hw h => ?_)
  obtain ⟨e3, hM3⟩ := h
  rw [hM3] at hw
  obtain ⟨hW2, f9, hf9, hv9⟩ := zLh_2 hH hM2
  refine lv_iload hx hb dL_law_458 (lv_at hl 1 rfl) ?_
  refine lv_icmp_eq (tgt := 465) hx hb dL_law_460 (by decide) (fun hc => ?_) (fun hc => absurd (by rw [e3, e1, zth_m]) hc)
  refine lv_iload hx hb dL_law_465 (lv_at hl 1 rfl) ?_
  refine lv_if_ne (tgt := 482) hx hb dL_law_467 (by decide) (fun hn => ?_) (fun hn => ?_)
  · refine lv_goto (tgt := 1318) hx hb dL_law_482 (by decide) ?_
    refine W.widen (k := 200 + (j + 1)) (n := 20000 + 6 * (j + 1)) (by omega) (by omega) ?_
    exact nx _ _ _ _ _ hw hW2 (lv_sub hl [2, 3, 4, 5, 6] rfl)
  · refine lv_aload_n hx hb dL_law_470 rfl (lv_at hl 5 rfl) ?_
    refine lv_iconst (v := (0 : Int32)) hx hb dL_law_471 (by decide) ?_
    have hq : zw_ll (g.2 3) M2 (B + 178) (0 : Int32) (fun x => x = f9 0) := ⟨1, f9, hf9, vp_in_nI (n := 0) (N := 1) (by decide) (by decide), rfl⟩
    refine zr_lald Sx hK hw dL_law_472 hq (fun x9 e9 => ?_)
    refine lv_iload hx hb dL_law_473 (lv_at hl 0 rfl) ?_
    refine lv_i2l hx hb dL_law_475 rfl ?_
    refine W.lcmp hx hb dL_law_476 ?_
    have hs : x9 = r2.toInt64 := by
      obtain ⟨v, hv⟩ := zth_0 ((zth_m.symm.trans e1.symm).trans hn)
      rw [e9, hv9 v.toInt64 (by rw [hv]; rfl), e2, hv]
      rfl
    refine lv_if_eq (tgt := 482) hx hb dL_law_477 (by decide) (fun hc => ?_) (fun hc => absurd (zc_eq.mpr hs) hc)
    refine lv_goto (tgt := 1318) hx hb dL_law_482 (by decide) ?_
    refine W.widen (k := 200 + (j + 1)) (n := 20000 + 6 * (j + 1)) (by omega) (by omega) ?_
    exact nx _ _ _ _ _ hw hW2 (lv_sub hl [2, 3, 4, 5, 6] rfl)
