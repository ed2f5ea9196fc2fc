/-! the law's cases (by program) -/
set_option maxHeartbeats 4000000 in
set_option maxRecDepth 100000 in
theorem zL_20 {p : Program} {l : Launch} {e : Env} {s : State} {m : MethodId} {below : List Frame} {meth : Method} {c : Code} {b L : Nat} {xs : Nat → Int32} (hL : L ≤ 2048) (hl9 : l.stackTraces = false) (C0 : lw_At p s m meth c b L xs) {g : zg} (hK : zk_K zNF zNM g s) (hX : zx_K s.heap.size g s s.heap) {B i j : Nat} (hi : i + 4 ≤ L) (hj : i = 4 * j) {S : zS} {M : zm_M} {H : Heap} {locs : List Loc} {ls : Array Slot} (hw : zW s.heap.size g s H locs M) (hW : zLw g.2 B M S) (hl : lv_has ls 8 [(0, .ref b), (1, .ref B), (2, .ref (B + 168)), (3, .ref (B + 178)), (4, .int (nI i))])
    (nx : ∀ (S : zS) (M : zm_M) (H : Heap) (locs : List Loc) (ls : Array Slot), zW s.heap.size g s H locs M → zLw g.2 B M S → lv_has ls 8 [(0, .ref b), (1, .ref B), (2, .ref (B + 168)), (3, .ref (B + 178)), (4, .int (nI i))] → W p l e room_1 s m #[Value.ref b] below meth c H locs (200 + (j + 1)) (20000 + 6 * (j + 1)) (lw_Z below #[Value.ref b] s) (F0 m 1318 ls [])) : W p l e room_1 s m #[Value.ref b] below meth c H locs (200 + j) (20000 + 6 * j) (lw_Z below #[Value.ref b] s) (F0 m 1125 ls []) := by
  obtain ⟨hx, hb, hr, hml, hown, hts0, hXs, hbl, hlocks, -⟩ := id C0
  have hown : s.vm.findClass RL = some m.cls := hown
  have hbA : ¬ zA s.heap.size b := Nat.not_le.mpr hbl
  have hts : ∀ w ∈ zU, w.before #[Value.ref b] s = true := fun w hw => hts0 w (List.mem_filter.mp hw).1
  have Sx : CallFix p m c cL_law 8 s #[Value.ref b] zU RL := ⟨hx, hb, hml, hown, hts⟩
  have h1 : vp_in (nI i + (1 : Int32)) L := zl_in hL (k := 1) hi (by decide)
  have h2 : vp_in (nI i + (2 : Int32)) L := zl_in hL (k := 2) hi (by decide)
  have h3 : vp_in (nI i + (3 : Int32)) L := zl_in hL (k := 3) hi (by decide)
  refine lv_aload_n hx hb dL_law_1125 rfl (lv_at hl 1 rfl) ?_
  refine lv_aload_n hx hb dL_law_1126 rfl (lv_at hl 0 rfl) ?_
  refine lv_iload hx hb dL_law_1127 (lv_at hl 4 rfl) ?_
  refine lv_iconst (v := (1 : Int32)) hx hb dL_law_1129 (by decide) ?_
  refine lv_iadd hx hb dL_law_1130 ?_
  refine va_sld hx hb hXs hbl hbA hw.2 h1 dL_law_1131 ?_
  refine zr_Vi (As := [.int (xs ((nI i) + (1 : Int32)).toNatClampNeg)]) (rest := []) Sx hK hw (kX6_feed l s.heap.size g M B (xs ((nI i) + (1 : Int32)).toNatClampNeg) (fun r M1 => r = (zo_feed S (xs ((nI i) + (1 : Int32)).toNatClampNeg)).1 ∧ zRC g.2 B M M1 (zo_feed S (xs ((nI i) + (1 : Int32)).toNatClampNeg)).2) (c6_feed hW.1 (fun M1 h1 => ⟨rfl, h1⟩))) (cwV 1 hts (zg_V zy_159 zy_160 zy_161 zu_303 zy_162) rfl rfl rfl (by decide +kernel) ⟨Nat.le_of_ble_eq_true rfl, Nat.le_of_ble_eq_true rfl⟩) (ci := 9) rfl (zRC_ob hW.1) rfl hl.1 rfl (Nat.le_of_ble_eq_true rfl) dL_law_1132 ⟨by show _ ≤ 603072; omega, by show _ ≤ 7223402; omega⟩ (fun r1 M1 H locs hw h => ?_)
  obtain ⟨e1, hC⟩ := h
  obtain ⟨t1, hM⟩ := zLw_1 hW hC
  refine lv_aload_n hx hb dL_law_1135 rfl (lv_at hl 2 rfl) ?_
  refine lv_aload_n hx hb dL_law_1136 rfl (lv_at hl 0 rfl) ?_
  refine lv_iload hx hb dL_law_1137 (lv_at hl 4 rfl) ?_
  refine lv_iconst (v := (1 : Int32)) hx hb dL_law_1139 (by decide) ?_
  refine lv_iadd hx hb dL_law_1140 ?_
  refine va_sld hx hb hXs hbl hbA hw.2 h1 dL_law_1141 ?_
  refine zr_Vi (As := [.int (xs ((nI i) + (1 : Int32)).toNatClampNeg)]) (rest := [.int r1]) Sx hK hw (kX7_feed l s.heap.size g M1 (B + 168) (xs ((nI i) + (1 : Int32)).toNatClampNeg) (fun r M2 => r = (zo_feed S (xs ((nI i) + (1 : Int32)).toNatClampNeg)).1 ∧ zRM g.2 (B + 168) M1 M2 (zo_feed S (xs ((nI i) + (1 : Int32)).toNatClampNeg)).2 0) (m7_feed hM (fun M2 h2 => ⟨rfl, h2⟩))) (cwV 1 hts (zg_V zy_163 zy_164 zy_165 zu_450 zy_166) rfl rfl rfl (by decide +kernel) ⟨Nat.le_of_ble_eq_true rfl, Nat.le_of_ble_eq_true rfl⟩) (ci := 10) rfl (zRM_ob hM) rfl hl.1 rfl (Nat.le_of_ble_eq_true rfl) dL_law_1142 ⟨by show _ ≤ 603072; omega, by show _ ≤ 7223402; omega⟩ (fun r2 M2 H locs hw h => ?_)
  obtain ⟨e2, hM2⟩ := h
  refine lv_icmp_eq (tgt := 1318) hx hb dL_law_1145 (by decide) (fun hc => ?_) (fun hc => absurd (by rw [e1, e2]) hc)
  refine W.widen (k := 200 + (j + 1)) (n := 20000 + 6 * (j + 1)) (by omega) (by omega) ?_
  exact nx _ _ _ _ _ hw (zLw_2 hW hC hM2) hl
set_option maxHeartbeats 4000000 in
set_option maxRecDepth 100000 in
theorem zL_21 {p : Program} {l : Launch} {e : Env} {s : State} {m : MethodId} {below : List Frame} {meth : Method} {c : Code} {b L : Nat} {xs : Nat → Int32} (hL : L ≤ 2048) (hl9 : l.stackTraces = false) (C0 : lw_At p s m meth c b L xs) {g : zg} (hK : zk_K zNF zNM g s) (hX : zx_K s.heap.size g s s.heap) {B i j : Nat} (hi : i + 4 ≤ L) (hj : i = 4 * j) {S : zS} {M : zm_M} {H : Heap} {locs : List Loc} {ls : Array Slot} (hw : zW s.heap.size g s H locs M) (hW : zLw g.2 B M S) (hl : lv_has ls 8 [(0, .ref b), (1, .ref B), (2, .ref (B + 168)), (3, .ref (B + 178)), (4, .int (nI i))])
    (nx : ∀ (S : zS) (M : zm_M) (H : Heap) (locs : List Loc) (ls : Array Slot), zW s.heap.size g s H locs M → zLw g.2 B M S → lv_has ls 8 [(0, .ref b), (1, .ref B), (2, .ref (B + 168)), (3, .ref (B + 178)), (4, .int (nI i))] → W p l e room_1 s m #[Value.ref b] below meth c H locs (200 + (j + 1)) (20000 + 6 * (j + 1)) (lw_Z below #[Value.ref b] s) (F0 m 1318 ls [])) : W p l e room_1 s m #[Value.ref b] below meth c H locs (200 + j) (20000 + 6 * j) (lw_Z below #[Value.ref b] s) (F0 m 1150 ls []) := by
  obtain ⟨hx, hb, hr, hml, hown, hts0, hXs, hbl, hlocks, -⟩ := id C0
  have hown : s.vm.findClass RL = some m.cls := hown
  have hbA : ¬ zA s.heap.size b := Nat.not_le.mpr hbl
  have hts : ∀ w ∈ zU, w.before #[Value.ref b] s = true := fun w hw => hts0 w (List.mem_filter.mp hw).1
  have Sx : CallFix p m c cL_law 8 s #[Value.ref b] zU RL := ⟨hx, hb, hml, hown, hts⟩
  have h1 : vp_in (nI i + (1 : Int32)) L := zl_in hL (k := 1) hi (by decide)
  have h2 : vp_in (nI i + (2 : Int32)) L := zl_in hL (k := 2) hi (by decide)
  have h3 : vp_in (nI i + (3 : Int32)) L := zl_in hL (k := 3) hi (by decide)
  refine lv_aload_n hx hb dL_law_1150 rfl (lv_at hl 1 rfl) ?_
  refine lv_aload_n hx hb dL_law_1151 rfl (lv_at hl 3 rfl) ?_
  refine zr_SXi (hh := [(0, 8, 11, 19)]) (As := [.ref B, .ref (B + 178)]) (rest := []) Sx hK hX hw (kL_read l hl9 s.heap.size g M B  (B + 178) (fun r M1 => zLh g.2 B M1 S (zo_read S).2 ((zo_read S).1.map Int32.toInt64) r) ⟨zRC_ob hW.1, c6_read hW.1 (zLh_i hW).1 (zLh_i hW).2⟩) (vx_cwSW 2 hts (zg_S zy_167 zy_168 zy_11 zy_169) rfl rfl rfl (by decide +kernel) ⟨Nat.le_of_ble_eq_true rfl, Nat.le_of_ble_eq_true rfl⟩) rfl hl.1 rfl (Nat.le_of_ble_eq_true rfl) dL_law_1152 ⟨by show _ ≤ 603072; omega, by show _ ≤ 7223402; omega⟩ (fun r1 M1 H locs hw h => ?_)
  have hH := h
  obtain ⟨e1, -, ⟨t1, hM⟩, -⟩ := h
  refine lv_istore (lv' := [(5, .int r1), (0, .ref b), (1, .ref B), (2, .ref (B + 168)), (3, .ref (B + 178)), (4, .int (nI i))]) hx hb dL_law_1155 hl (by decide) rfl (fun ls hl => ?_)
  refine lv_aload_n hx hb dL_law_1157 rfl (lv_at hl 3 rfl) ?_
  refine zr_Vi (As := []) (rest := []) Sx hK hw (kX7_read l s.heap.size g M1 (B + 168)  (fun r M2 => r = (zo_read S).1.getD 0 ∧ zRM g.2 (B + 168) M1 M2 (zo_read S).2 (zth (zo_read S).1)) (m7_read hM (fun M2 h2 => ⟨rfl, h2⟩))) (cwV 0 hts (zg_V zy_170 zy_171 zy_172 zu_450 zy_173) rfl rfl rfl (by decide +kernel) ⟨Nat.le_of_ble_eq_true rfl, Nat.le_of_ble_eq_true rfl⟩) (ci := 10) rfl (zRM_ob hM) rfl hl.1 rfl (Nat.le_of_ble_eq_true rfl) dL_law_1158 ⟨by show _ ≤ 603072; omega, by show _ ≤ 7223402; omega⟩ (fun r2 M2 H locs hw h => ?_)
  obtain ⟨e2, hM2⟩ := h
  refine lv_istore (lv' := [(6, .int r2), (5, .int r1), (0, .ref b), (1, .ref B), (2, .ref (B + 168)), (3, .ref (B + 178)), (4, .int (nI i))]) hx hb dL_law_1161 hl (by decide) rfl (fun ls hl => ?_)
  refine lv_aload_n hx hb dL_law_1163 rfl (lv_at hl 4 rfl) ?_
  refine zr_Vi (As := []) (rest := []) Sx hK hw (kX7_thrown l s.heap.size g M2 (B + 168) (fun r M3 => r = zth (zo_read S).1 ∧ M3 = M2) (m7_thrown hM2 ⟨rfl, rfl⟩)) (cwV 0 hts (zg_V zy_17 zy_18 zy_19 zu_450 zy_20) rfl rfl rfl (by decide +kernel) ⟨Nat.le_of_ble_eq_true rfl, Nat.le_of_ble_eq_true rfl⟩) (ci := 10) rfl (zRM_ob hM2) rfl hl.1 rfl (Nat.le_of_ble_eq_true rfl) dL_law_1164 ⟨by show _ ≤ 603072; omega, by show _ ≤ 7223402; omega⟩ (fun r3 M3 H locs hw h => ?_)
  obtain ⟨e3, hM3⟩ := h
  rw [hM3] at hw
  obtain ⟨hW2, f9, hf9, hv9⟩ := zLh_2 hH hM2
  refine lv_iload hx hb dL_law_1167 (lv_at hl 1 rfl) ?_
  refine lv_icmp_eq (tgt := 1174) hx hb dL_law_1169 (by decide) (fun hc => ?_) (fun hc => absurd (by rw [e3, e1, zth_m]) hc)
  refine lv_iload hx hb dL_law_1174 (lv_at hl 1 rfl) ?_
  refine lv_if_ne (tgt := 1191) hx hb dL_law_1176 (by decide) (fun hn => ?_) (fun hn => ?_)
  · refine lv_goto (tgt := 1318) hx hb dL_law_1191 (by decide) ?_
    refine W.widen (k := 200 + (j + 1)) (n := 20000 + 6 * (j + 1)) (by omega) (by omega) ?_
    exact nx _ _ _ _ _ hw hW2 (lv_sub hl [2, 3, 4, 5, 6] rfl)
  · refine lv_aload_n hx hb dL_law_1179 rfl (lv_at hl 5 rfl) ?_
    refine lv_iconst (v := (0 : Int32)) hx hb dL_law_1180 (by decide) ?_
    have hq : zw_ll (g.2 3) M2 (B + 178) (0 : Int32) (fun x => x = f9 0) := ⟨1, f9, hf9, vp_in_nI (n := 0) (N := 1) (by decide) (by decide), rfl⟩
    refine zr_lald Sx hK hw dL_law_1181 hq (fun x9 e9 => ?_)
    refine lv_iload hx hb dL_law_1182 (lv_at hl 0 rfl) ?_
    refine lv_i2l hx hb dL_law_1184 rfl ?_
    refine W.lcmp hx hb dL_law_1185 ?_
    have hs : x9 = r2.toInt64 := by
      obtain ⟨v, hv⟩ := zth_0 ((zth_m.symm.trans e1.symm).trans hn)
      rw [e9, hv9 v.toInt64 (by rw [hv]; rfl), e2, hv]
      rfl
    refine lv_if_eq (tgt := 1191) hx hb dL_law_1186 (by decide) (fun hc => ?_) (fun hc => absurd (zc_eq.mpr hs) hc)
    refine lv_goto (tgt := 1318) hx hb dL_law_1191 (by decide) ?_
    refine W.widen (k := 200 + (j + 1)) (n := 20000 + 6 * (j + 1)) (by omega) (by omega) ?_
    exact nx _ _ _ _ _ hw hW2 (lv_sub hl [2, 3, 4, 5, 6] rfl)
set_option maxHeartbeats 4000000 in
set_option maxRecDepth 100000 in
theorem zL_22 {p : Program} {l : Launch} {e : Env} {s : State} {m : MethodId} {below : List Frame} {meth : Method} {c : Code} {b L : Nat} {xs : Nat → Int32} (hL : L ≤ 2048) (hl9 : l.stackTraces = false) (C0 : lw_At p s m meth c b L xs) {g : zg} (hK : zk_K zNF zNM g s) (hX : zx_K s.heap.size g s s.heap) {B i j : Nat} (hi : i + 4 ≤ L) (hj : i = 4 * j) {S : zS} {M : zm_M} {H : Heap} {locs : List Loc} {ls : Array Slot} (hw : zW s.heap.size g s H locs M) (hW : zLw g.2 B M S) (hl : lv_has ls 8 [(0, .ref b), (1, .ref B), (2, .ref (B + 168)), (3, .ref (B + 178)), (4, .int (nI i))])
    (nx : ∀ (S : zS) (M : zm_M) (H : Heap) (locs : List Loc) (ls : Array Slot), zW s.heap.size g s H locs M → zLw g.2 B M S → lv_has ls 8 [(0, .ref b), (1, .ref B), (2, .ref (B + 168)), (3, .ref (B + 178)), (4, .int (nI i))] → W p l e room_1 s m #[Value.ref b] below meth c H locs (200 + (j + 1)) (20000 + 6 * (j + 1)) (lw_Z below #[Value.ref b] s) (F0 m 1318 ls [])) : W p l e room_1 s m #[Value.ref b] below meth c H locs (200 + j) (20000 + 6 * j) (lw_Z below #[Value.ref b] s) (F0 m 1194 ls []) := by
  obtain ⟨hx, hb, hr, hml, hown, hts0, hXs, hbl, hlocks, -⟩ := id C0
  have hown : s.vm.findClass RL = some m.cls := hown
  have hbA : ¬ zA s.heap.size b := Nat.not_le.mpr hbl
  have hts : ∀ w ∈ zU, w.before #[Value.ref b] s = true := fun w hw => hts0 w (List.mem_filter.mp hw).1
  have Sx : CallFix p m c cL_law 8 s #[Value.ref b] zU RL := ⟨hx, hb, hml, hown, hts⟩
  have h1 : vp_in (nI i + (1 : Int32)) L := zl_in hL (k := 1) hi (by decide)
  have h2 : vp_in (nI i + (2 : Int32)) L := zl_in hL (k := 2) hi (by decide)
  have h3 : vp_in (nI i + (3 : Int32)) L := zl_in hL (k := 3) hi (by decide)
  refine lv_aload_n hx hb dL_law_1194 rfl (lv_at hl 1 rfl) ?_
  refine lv_aload_n hx hb dL_law_1195 rfl (lv_at hl 0 rfl) ?_
  refine lv_iload hx hb dL_law_1196 (lv_at hl 4 rfl) ?_
  refine lv_iconst (v := (1 : Int32)) hx hb dL_law_1198 (by decide) ?_
  refine lv_iadd hx hb dL_law_1199 ?_
  refine va_sld hx hb hXs hbl hbA hw.2 h1 dL_law_1200 ?_
  refine zr_Vi (As := [.int (xs ((nI i) + (1 : Int32)).toNatClampNeg)]) (rest := []) Sx hK hw (kX6_text l s.heap.size g M B (xs ((nI i) + (1 : Int32)).toNatClampNeg) (fun r M1 => r = (zo_text S (xs ((nI i) + (1 : Int32)).toNatClampNeg)).1 ∧ zRC g.2 B M M1 (zo_text S (xs ((nI i) + (1 : Int32)).toNatClampNeg)).2) (c6_text hW.1 (fun M1 h1 => ⟨rfl, h1⟩))) (cwV 1 hts (zg_V zy_174 zy_175 zy_176 zu_303 zy_177) rfl rfl rfl (by decide +kernel) ⟨Nat.le_of_ble_eq_true rfl, Nat.le_of_ble_eq_true rfl⟩) (ci := 9) rfl (zRC_ob hW.1) rfl hl.1 rfl (Nat.le_of_ble_eq_true rfl) dL_law_1201 ⟨by show _ ≤ 603072; omega, by show _ ≤ 7223402; omega⟩ (fun r1 M1 H locs hw h => ?_)
  obtain ⟨e1, hC⟩ := h
  obtain ⟨t1, hM⟩ := zLw_1 hW hC
  refine lv_aload_n hx hb dL_law_1204 rfl (lv_at hl 2 rfl) ?_
  refine lv_aload_n hx hb dL_law_1205 rfl (lv_at hl 0 rfl) ?_
  refine lv_iload hx hb dL_law_1206 (lv_at hl 4 rfl) ?_
  refine lv_iconst (v := (1 : Int32)) hx hb dL_law_1208 (by decide) ?_
  refine lv_iadd hx hb dL_law_1209 ?_
  refine va_sld hx hb hXs hbl hbA hw.2 h1 dL_law_1210 ?_
  refine zr_Vi (As := [.int (xs ((nI i) + (1 : Int32)).toNatClampNeg)]) (rest := [.int r1]) Sx hK hw (kX7_text l s.heap.size g M1 (B + 168) (xs ((nI i) + (1 : Int32)).toNatClampNeg) (fun r M2 => r = (zo_text S (xs ((nI i) + (1 : Int32)).toNatClampNeg)).1 ∧ zRM g.2 (B + 168) M1 M2 (zo_text S (xs ((nI i) + (1 : Int32)).toNatClampNeg)).2 0) (m7_text hM (fun M2 h2 => ⟨rfl, h2⟩))) (cwV 1 hts (zg_V zy_178 zy_179 zy_180 zu_450 zy_181) rfl rfl rfl (by decide +kernel) ⟨Nat.le_of_ble_eq_true rfl, Nat.le_of_ble_eq_true rfl⟩) (ci := 10) rfl (zRM_ob hM) rfl hl.1 rfl (Nat.le_of_ble_eq_true rfl) dL_law_1211 ⟨by show _ ≤ 603072; omega, by show _ ≤ 7223402; omega⟩ (fun r2 M2 H locs hw h => ?_)
  obtain ⟨e2, hM2⟩ := h
  refine lv_icmp_eq (tgt := 1318) hx hb dL_law_1214 (by decide) (fun hc => ?_) (fun hc => absurd (by rw [e1, e2]) hc)
  refine W.widen (k := 200 + (j + 1)) (n := 20000 + 6 * (j + 1)) (by omega) (by omega) ?_
  exact nx _ _ _ _ _ hw (zLw_2 hW hC hM2) hl
set_option maxHeartbeats 4000000 in
set_option maxRecDepth 100000 in
theorem zL_23 {p : Program} {l : Launch} {e : Env} {s : State} {m : MethodId} {below : List Frame} {meth : Method} {c : Code} {b L : Nat} {xs : Nat → Int32} (hL : L ≤ 2048) (hl9 : l.stackTraces = false) (C0 : lw_At p s m meth c b L xs) {g : zg} (hK : zk_K zNF zNM g s) (hX : zx_K s.heap.size g s s.heap) {B i j : Nat} (hi : i + 4 ≤ L) (hj : i = 4 * j) {S : zS} {M : zm_M} {H : Heap} {locs : List Loc} {ls : Array Slot} (hw : zW s.heap.size g s H locs M) (hW : zLw g.2 B M S) (hl : lv_has ls 8 [(0, .ref b), (1, .ref B), (2, .ref (B + 168)), (3, .ref (B + 178)), (4, .int (nI i))])
    (nx : ∀ (S : zS) (M : zm_M) (H : Heap) (locs : List Loc) (ls : Array Slot), zW s.heap.size g s H locs M → zLw g.2 B M S → lv_has ls 8 [(0, .ref b), (1, .ref B), (2, .ref (B + 168)), (3, .ref (B + 178)), (4, .int (nI i))] → W p l e room_1 s m #[Value.ref b] below meth c H locs (200 + (j + 1)) (20000 + 6 * (j + 1)) (lw_Z below #[Value.ref b] s) (F0 m 1318 ls [])) : W p l e room_1 s m #[Value.ref b] below meth c H locs (200 + j) (20000 + 6 * j) (lw_Z below #[Value.ref b] s) (F0 m 1219 ls []) := by
  obtain ⟨hx, hb, hr, hml, hown, hts0, hXs, hbl, hlocks, -⟩ := id C0
  have hown : s.vm.findClass RL = some m.cls := hown
  have hbA : ¬ zA s.heap.size b := Nat.not_le.mpr hbl
  have hts : ∀ w ∈ zU, w.before #[Value.ref b] s = true := fun w hw => hts0 w (List.mem_filter.mp hw).1
  have Sx : CallFix p m c cL_law 8 s #[Value.ref b] zU RL := ⟨hx, hb, hml, hown, hts⟩
  have h1 : vp_in (nI i + (1 : Int32)) L := zl_in hL (k := 1) hi (by decide)
  have h2 : vp_in (nI i + (2 : Int32)) L := zl_in hL (k := 2) hi (by decide)
  have h3 : vp_in (nI i + (3 : Int32)) L := zl_in hL (k := 3) hi (by decide)
  refine lv_aload_n hx hb dL_law_1219 rfl (lv_at hl 1 rfl) ?_
  refine lv_aload_n hx hb dL_law_1220 rfl (lv_at hl 0 rfl) ?_
  refine lv_iload hx hb dL_law_1221 (lv_at hl 4 rfl) ?_
  refine lv_iconst (v := (1 : Int32)) hx hb dL_law_1223 (by decide) ?_
  refine lv_iadd hx hb dL_law_1224 ?_
  refine va_sld hx hb hXs hbl hbA hw.2 h1 dL_law_1225 ?_
  refine lv_aload_n hx hb dL_law_1226 rfl (lv_at hl 0 rfl) ?_
  refine lv_iload hx hb dL_law_1227 (lv_at hl 4 rfl) ?_
  refine lv_iconst (v := (2 : Int32)) hx hb dL_law_1229 (by decide) ?_
  refine lv_iadd hx hb dL_law_1230 ?_
  refine va_sld hx hb hXs hbl hbA hw.2 h2 dL_law_1231 ?_
  refine zr_Vi (As := [.int (xs ((nI i) + (1 : Int32)).toNatClampNeg), .int (xs ((nI i) + (2 : Int32)).toNatClampNeg)]) (rest := []) Sx hK hw (kX6_figures l s.heap.size g M B (xs ((nI i) + (1 : Int32)).toNatClampNeg) (xs ((nI i) + (2 : Int32)).toNatClampNeg) (fun r M1 => r = (zo_figures S (xs ((nI i) + (1 : Int32)).toNatClampNeg) (xs ((nI i) + (2 : Int32)).toNatClampNeg)).1 ∧ zRC g.2 B M M1 (zo_figures S (xs ((nI i) + (1 : Int32)).toNatClampNeg) (xs ((nI i) + (2 : Int32)).toNatClampNeg)).2) (c6_figures hW.1 (fun M1 h1 => ⟨rfl, h1⟩))) (cwV 2 hts (zg_V zy_182 zy_183 zy_184 zu_303 zy_185) rfl rfl rfl (by decide +kernel) ⟨Nat.le_of_ble_eq_true rfl, Nat.le_of_ble_eq_true rfl⟩) (ci := 9) rfl (zRC_ob hW.1) rfl hl.1 rfl (Nat.le_of_ble_eq_true rfl) dL_law_1232 ⟨by show _ ≤ 603072; omega, by show _ ≤ 7223402; omega⟩ (fun r1 M1 H locs hw h => ?_)
  obtain ⟨e1, hC⟩ := h
  obtain ⟨t1, hM⟩ := zLw_1 hW hC
  refine lv_aload_n hx hb dL_law_1235 rfl (lv_at hl 2 rfl) ?_
  refine lv_aload_n hx hb dL_law_1236 rfl (lv_at hl 0 rfl) ?_
  refine lv_iload hx hb dL_law_1237 (lv_at hl 4 rfl) ?_
  refine lv_iconst (v := (1 : Int32)) hx hb dL_law_1239 (by decide) ?_
  refine lv_iadd hx hb dL_law_1240 ?_
  refine va_sld hx hb hXs hbl hbA hw.2 h1 dL_law_1241 ?_
  refine lv_aload_n hx hb dL_law_1242 rfl (lv_at hl 0 rfl) ?_
  refine lv_iload hx hb dL_law_1243 (lv_at hl 4 rfl) ?_
  refine lv_iconst (v := (2 : Int32)) hx hb dL_law_1245 (by decide) ?_
  refine lv_iadd hx hb dL_law_1246 ?_
  refine va_sld hx hb hXs hbl hbA hw.2 h2 dL_law_1247 ?_
  refine zr_Vi (As := [.int (xs ((nI i) + (1 : Int32)).toNatClampNeg), .int (xs ((nI i) + (2 : Int32)).toNatClampNeg)]) (rest := [.int r1]) Sx hK hw (kX7_figures l s.heap.size g M1 (B + 168) (xs ((nI i) + (1 : Int32)).toNatClampNeg) (xs ((nI i) + (2 : Int32)).toNatClampNeg) (fun r M2 => r = (zo_figures S (xs ((nI i) + (1 : Int32)).toNatClampNeg) (xs ((nI i) + (2 : Int32)).toNatClampNeg)).1 ∧ zRM g.2 (B + 168) M1 M2 (zo_figures S (xs ((nI i) + (1 : Int32)).toNatClampNeg) (xs ((nI i) + (2 : Int32)).toNatClampNeg)).2 0) (m7_figures hM (fun M2 h2 => ⟨rfl, h2⟩))) (cwV 2 hts (zg_V zy_186 zy_187 zy_188 zu_450 zy_189) rfl rfl rfl (by decide +kernel) ⟨Nat.le_of_ble_eq_true rfl, Nat.le_of_ble_eq_true rfl⟩) (ci := 10) rfl (zRM_ob hM) rfl hl.1 rfl (Nat.le_of_ble_eq_true rfl) dL_law_1248 ⟨by show _ ≤ 603072; omega, by show _ ≤ 7223402; omega⟩ (fun r2 M2 H locs hw h => ?_)
  obtain ⟨e2, hM2⟩ := h
  refine lv_icmp_eq (tgt := 1318) hx hb dL_law_1251 (by decide) (fun hc => ?_) (fun hc => absurd (by rw [e1, e2]) hc)
  refine W.widen (k := 200 + (j + 1)) (n := 20000 + 6 * (j + 1)) (by omega) (by omega) ?_
  exact nx _ _ _ _ _ hw (zLw_2 hW hC hM2) hl
set_option maxHeartbeats 4000000 in
set_option maxRecDepth 100000 in
theorem zL_24 {p : Program} {l : Launch} {e : Env} {s : State} {m : MethodId} {below : List Frame} {meth : Method} {c : Code} {b L : Nat} {xs : Nat → Int32} (hL : L ≤ 2048) (hl9 : l.stackTraces = false) (C0 : lw_At p s m meth c b L xs) {g : zg} (hK : zk_K zNF zNM g s) (hX : zx_K s.heap.size g s s.heap) {B i j : Nat} (hi : i + 4 ≤ L) (hj : i = 4 * j) {S : zS} {M : zm_M} {H : Heap} {locs : List Loc} {ls : Array Slot} (hw : zW s.heap.size g s H locs M) (hW : zLw g.2 B M S) (hl : lv_has ls 8 [(0, .ref b), (1, .ref B), (2, .ref (B + 168)), (3, .ref (B + 178)), (4, .int (nI i))])
    (nx : ∀ (S : zS) (M : zm_M) (H : Heap) (locs : List Loc) (ls : Array Slot), zW s.heap.size g s H locs M → zLw g.2 B M S → lv_has ls 8 [(0, .ref b), (1, .ref B), (2, .ref (B + 168)), (3, .ref (B + 178)), (4, .int (nI i))] → W p l e room_1 s m #[Value.ref b] below meth c H locs (200 + (j + 1)) (20000 + 6 * (j + 1)) (lw_Z below #[Value.ref b] s) (F0 m 1318 ls [])) : W p l e room_1 s m #[Value.ref b] below meth c H locs (200 + j) (20000 + 6 * j) (lw_Z below #[Value.ref b] s) (F0 m 1256 ls []) := by
  obtain ⟨hx, hb, hr, hml, hown, hts0, hXs, hbl, hlocks, -⟩ := id C0
  have hown : s.vm.findClass RL = some m.cls := hown
  have hbA : ¬ zA s.heap.size b := Nat.not_le.mpr hbl
  have hts : ∀ w ∈ zU, w.before #[Value.ref b] s = true := fun w hw => hts0 w (List.mem_filter.mp hw).1
  have Sx : CallFix p m c cL_law 8 s #[Value.ref b] zU RL := ⟨hx, hb, hml, hown, hts⟩
  have h1 : vp_in (nI i + (1 : Int32)) L := zl_in hL (k := 1) hi (by decide)
  have h2 : vp_in (nI i + (2 : Int32)) L := zl_in hL (k := 2) hi (by decide)
  have h3 : vp_in (nI i + (3 : Int32)) L := zl_in hL (k := 3) hi (by decide)
  refine lv_aload_n hx hb dL_law_1256 rfl (lv_at hl 1 rfl) ?_
  refine lv_aload_n hx hb dL_law_1257 rfl (lv_at hl 0 rfl) ?_
  refine lv_iload hx hb dL_law_1258 (lv_at hl 4 rfl) ?_
  refine lv_iconst (v := (1 : Int32)) hx hb dL_law_1260 (by decide) ?_
  refine lv_iadd hx hb dL_law_1261 ?_
  refine va_sld hx hb hXs hbl hbA hw.2 h1 dL_law_1262 ?_
  refine zr_Vi (As := [.int (xs ((nI i) + (1 : Int32)).toNatClampNeg)]) (rest := []) Sx hK hw (kX6_out l s.heap.size g M B (xs ((nI i) + (1 : Int32)).toNatClampNeg) (fun r M1 => r = (zo_out S (xs ((nI i) + (1 : Int32)).toNatClampNeg)).1 ∧ zRC g.2 B M M1 (zo_out S (xs ((nI i) + (1 : Int32)).toNatClampNeg)).2) (c6_out hW.1 (fun M1 h1 => ⟨rfl, h1⟩))) (cwV 1 hts (zg_V zy_190 zy_191 zy_192 zu_303 zy_193) rfl rfl rfl (by decide +kernel) ⟨Nat.le_of_ble_eq_true rfl, Nat.le_of_ble_eq_true rfl⟩) (ci := 9) rfl (zRC_ob hW.1) rfl hl.1 rfl (Nat.le_of_ble_eq_true rfl) dL_law_1263 ⟨by show _ ≤ 603072; omega, by show _ ≤ 7223402; omega⟩ (fun r1 M1 H locs hw h => ?_)
  obtain ⟨e1, hC⟩ := h
  obtain ⟨t1, hM⟩ := zLw_1 hW hC
  refine lv_aload_n hx hb dL_law_1266 rfl (lv_at hl 2 rfl) ?_
  refine lv_aload_n hx hb dL_law_1267 rfl (lv_at hl 0 rfl) ?_
  refine lv_iload hx hb dL_law_1268 (lv_at hl 4 rfl) ?_
  refine lv_iconst (v := (1 : Int32)) hx hb dL_law_1270 (by decide) ?_
  refine lv_iadd hx hb dL_law_1271 ?_
  refine va_sld hx hb hXs hbl hbA hw.2 h1 dL_law_1272 ?_
  refine zr_Vi (As := [.int (xs ((nI i) + (1 : Int32)).toNatClampNeg)]) (rest := [.int r1]) Sx hK hw (kX7_out l s.heap.size g M1 (B + 168) (xs ((nI i) + (1 : Int32)).toNatClampNeg) (fun r M2 => r = (zo_out S (xs ((nI i) + (1 : Int32)).toNatClampNeg)).1 ∧ zRM g.2 (B + 168) M1 M2 (zo_out S (xs ((nI i) + (1 : Int32)).toNatClampNeg)).2 0) (m7_out hM (fun M2 h2 => ⟨rfl, h2⟩))) (cwV 1 hts (zg_V zy_194 zy_195 zy_196 zu_450 zy_197) rfl rfl rfl (by decide +kernel) ⟨Nat.le_of_ble_eq_true rfl, Nat.le_of_ble_eq_true rfl⟩) (ci := 10) rfl (zRM_ob hM) rfl hl.1 rfl (Nat.le_of_ble_eq_true rfl) dL_law_1273 ⟨by show _ ≤ 603072; omega, by show _ ≤ 7223402; omega⟩ (fun r2 M2 H locs hw h => ?_)
  obtain ⟨e2, hM2⟩ := h
  refine lv_icmp_eq (tgt := 1318) hx hb dL_law_1276 (by decide) (fun hc => ?_) (fun hc => absurd (by rw [e1, e2]) hc)
  refine W.widen (k := 200 + (j + 1)) (n := 20000 + 6 * (j + 1)) (by omega) (by omega) ?_
  exact nx _ _ _ _ _ hw (zLw_2 hW hC hM2) hl
