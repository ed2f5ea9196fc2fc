/-! the law's cases (by program) -/
set_option maxHeartbeats 4000000 in
set_option maxRecDepth 100000 in
theorem zL_25 {p : Program} {l : Launch} {e : Env} {s : State} {m : MethodId} {below : List Frame} {meth : Method} {c : Code} {b L : Nat} {xs : Nat → Int32} (hL : L ≤ 2048) (hl9 : l.stackTraces = false) (C0 : lw_At p s m meth c b L xs) {g : zg} (hK : zk_K zNF zNM g s) (hX : zx_K s.heap.size g s s.heap) {B i j : Nat} (hi : i + 4 ≤ L) (hj : i = 4 * j) {S : zS} {M : zm_M} {H : Heap} {locs : List Loc} {ls : Array Slot} (hw : zW s.heap.size g s H locs M) (hW : zLw g.2 B M S) (hl : lv_has ls 8 [(0, .ref b), (1, .ref B), (2, .ref (B + 168)), (3, .ref (B + 178)), (4, .int (nI i))])
    (nx : ∀ (S : zS) (M : zm_M) (H : Heap) (locs : List Loc) (ls : Array Slot), zW s.heap.size g s H locs M → zLw g.2 B M S → lv_has ls 8 [(0, .ref b), (1, .ref B), (2, .ref (B + 168)), (3, .ref (B + 178)), (4, .int (nI i))] → W p l e room_1 s m #[Value.ref b] below meth c H locs (200 + (j + 1)) (20000 + 6 * (j + 1)) (lw_Z below #[Value.ref b] s) (F0 m 1318 ls [])) : W p l e room_1 s m #[Value.ref b] below meth c H locs (200 + j) (20000 + 6 * j) (lw_Z below #[Value.ref b] s) (F0 m 1281 ls []) := by
  obtain ⟨hx, hb, hr, hml, hown, hts0, hXs, hbl, hlocks, -⟩ := id C0
  have hown : s.vm.findClass RL = some m.cls := hown
  have hbA : ¬ zA s.heap.size b := Nat.not_le.mpr hbl
  have hts : ∀ w ∈ zU, w.before #[Value.ref b] s = true := fun w hw => hts0 w (List.mem_filter.mp hw).1
  have Sx : CallFix p m c cL_law 8 s #[Value.ref b] zU RL := ⟨hx, hb, hml, hown, hts⟩
  have h1 : vp_in (nI i + (1 : Int32)) L := zl_in hL (k := 1) hi (by decide)
  have h2 : vp_in (nI i + (2 : Int32)) L := zl_in hL (k := 2) hi (by decide)
  have h3 : vp_in (nI i + (3 : Int32)) L := zl_in hL (k := 3) hi (by decide)
  refine lv_aload_n hx hb dL_law_1281 rfl (lv_at hl 1 rfl) ?_
  refine lv_aload_n hx hb dL_law_1282 rfl (lv_at hl 0 rfl) ?_
  refine lv_iload hx hb dL_law_1283 (lv_at hl 4 rfl) ?_
  refine lv_iconst (v := (1 : Int32)) hx hb dL_law_1285 (by decide) ?_
  refine lv_iadd hx hb dL_law_1286 ?_
  refine va_sld hx hb hXs hbl hbA hw.2 h1 dL_law_1287 ?_
  refine lv_aload_n hx hb dL_law_1288 rfl (lv_at hl 0 rfl) ?_
  refine lv_iload hx hb dL_law_1289 (lv_at hl 4 rfl) ?_
  refine lv_iconst (v := (2 : Int32)) hx hb dL_law_1291 (by decide) ?_
  refine lv_iadd hx hb dL_law_1292 ?_
  refine va_sld hx hb hXs hbl hbA hw.2 h2 dL_law_1293 ?_
  refine zr_Vi (As := [.int (xs ((nI i) + (1 : Int32)).toNatClampNeg), .int (xs ((nI i) + (2 : Int32)).toNatClampNeg)]) (rest := []) Sx hK hw (kX6_period l s.heap.size g M B (xs ((nI i) + (1 : Int32)).toNatClampNeg) (xs ((nI i) + (2 : Int32)).toNatClampNeg) (fun r M1 => r = (zo_period S (xs ((nI i) + (1 : Int32)).toNatClampNeg) (xs ((nI i) + (2 : Int32)).toNatClampNeg)).1 ∧ zRC g.2 B M M1 (zo_period S (xs ((nI i) + (1 : Int32)).toNatClampNeg) (xs ((nI i) + (2 : Int32)).toNatClampNeg)).2) (c6_period hW.1 (fun M1 h1 => ⟨rfl, h1⟩))) (cwV 2 hts (zg_V zy_198 zy_199 zy_200 zu_303 zy_201) rfl rfl rfl (by decide +kernel) ⟨Nat.le_of_ble_eq_true rfl, Nat.le_of_ble_eq_true rfl⟩) (ci := 9) rfl (zRC_ob hW.1) rfl hl.1 rfl (Nat.le_of_ble_eq_true rfl) dL_law_1294 ⟨by show _ ≤ 603072; omega, by show _ ≤ 7223402; omega⟩ (fun r1 M1 H locs hw h => ?_)
  obtain ⟨e1, hC⟩ := h
  obtain ⟨t1, hM⟩ := zLw_1 hW hC
  refine lv_aload_n hx hb dL_law_1297 rfl (lv_at hl 2 rfl) ?_
  refine lv_aload_n hx hb dL_law_1298 rfl (lv_at hl 0 rfl) ?_
  refine lv_iload hx hb dL_law_1299 (lv_at hl 4 rfl) ?_
  refine lv_iconst (v := (1 : Int32)) hx hb dL_law_1301 (by decide) ?_
  refine lv_iadd hx hb dL_law_1302 ?_
  refine va_sld hx hb hXs hbl hbA hw.2 h1 dL_law_1303 ?_
  refine lv_aload_n hx hb dL_law_1304 rfl (lv_at hl 0 rfl) ?_
  refine lv_iload hx hb dL_law_1305 (lv_at hl 4 rfl) ?_
  refine lv_iconst (v := (2 : Int32)) hx hb dL_law_1307 (by decide) ?_
  refine lv_iadd hx hb dL_law_1308 ?_
  refine va_sld hx hb hXs hbl hbA hw.2 h2 dL_law_1309 ?_
  refine zr_Vi (As := [.int (xs ((nI i) + (1 : Int32)).toNatClampNeg), .int (xs ((nI i) + (2 : Int32)).toNatClampNeg)]) (rest := [.int r1]) Sx hK hw (kX7_period l s.heap.size g M1 (B + 168) (xs ((nI i) + (1 : Int32)).toNatClampNeg) (xs ((nI i) + (2 : Int32)).toNatClampNeg) (fun r M2 => r = (zo_period S (xs ((nI i) + (1 : Int32)).toNatClampNeg) (xs ((nI i) + (2 : Int32)).toNatClampNeg)).1 ∧ zRM g.2 (B + 168) M1 M2 (zo_period S (xs ((nI i) + (1 : Int32)).toNatClampNeg) (xs ((nI i) + (2 : Int32)).toNatClampNeg)).2 0) (m7_period hM (fun M2 h2 => ⟨rfl, h2⟩))) (cwV 2 hts (zg_V zy_202 zy_203 zy_204 zu_450 zy_205) rfl rfl rfl (by decide +kernel) ⟨Nat.le_of_ble_eq_true rfl, Nat.le_of_ble_eq_true rfl⟩) (ci := 10) rfl (zRM_ob hM) rfl hl.1 rfl (Nat.le_of_ble_eq_true rfl) dL_law_1310 ⟨by show _ ≤ 603072; omega, by show _ ≤ 7223402; omega⟩ (fun r2 M2 H locs hw h => ?_)
  obtain ⟨e2, hM2⟩ := h
  refine lv_icmp_eq (tgt := 1318) hx hb dL_law_1313 (by decide) (fun hc => ?_) (fun hc => absurd (by rw [e1, e2]) hc)
  refine W.widen (k := 200 + (j + 1)) (n := 20000 + 6 * (j + 1)) (by omega) (by omega) ?_
  exact nx _ _ _ _ _ hw (zLw_2 hW hC hM2) hl
