/-! the law's cases (by program) -/
set_option maxHeartbeats 4000000 in
set_option maxRecDepth 100000 in
theorem zL_5 {p : Program} {l : Launch} {e : Env} {s : State} {m : MethodId} {below : List Frame} {meth : Method} {c : Code} {b L : Nat} {xs : Nat → Int32} (hL : L ≤ 2048) (hl9 : l.stackTraces = false) (C0 : lw_At p s m meth c b L xs) {g : zg} (hK : zk_K zNF zNM g s) (hX : zx_K s.heap.size g s s.heap) {B i j : Nat} (hi : i + 4 ≤ L) (hj : i = 4 * j) {S : zS} {M : zm_M} {H : Heap} {locs : List Loc} {ls : Array Slot} (hw : zW s.heap.size g s H locs M) (hW : zLw g.2 B M S) (hl : lv_has ls 8 [(0, .ref b), (1, .ref B), (2, .ref (B + 168)), (3, .ref (B + 178)), (4, .int (nI i))])
    (nx : ∀ (S : zS) (M : zm_M) (H : Heap) (locs : List Loc) (ls : Array Slot), zW s.heap.size g s H locs M → zLw g.2 B M S → lv_has ls 8 [(0, .ref b), (1, .ref B), (2, .ref (B + 168)), (3, .ref (B + 178)), (4, .int (nI i))] → W p l e room_1 s m #[Value.ref b] below meth c H locs (200 + (j + 1)) (20000 + 6 * (j + 1)) (lw_Z below #[Value.ref b] s) (F0 m 1318 ls [])) : W p l e room_1 s m #[Value.ref b] below meth c H locs (200 + j) (20000 + 6 * j) (lw_Z below #[Value.ref b] s) (F0 m 485 ls []) := by
  obtain ⟨hx, hb, hr, hml, hown, hts0, hXs, hbl, hlocks, -⟩ := id C0
  have hown : s.vm.findClass RL = some m.cls := hown
  have hbA : ¬ zA s.heap.size b := Nat.not_le.mpr hbl
  have hts : ∀ w ∈ zU, w.before #[Value.ref b] s = true := fun w hw => hts0 w (List.mem_filter.mp hw).1
  have Sx : CallFix p m c cL_law 8 s #[Value.ref b] zU RL := ⟨hx, hb, hml, hown, hts⟩
  have h1 : vp_in (nI i + (1 : Int32)) L := zl_in hL (k := 1) hi (by decide)
  have h2 : vp_in (nI i + (2 : Int32)) L := zl_in hL (k := 2) hi (by decide)
  have h3 : vp_in (nI i + (3 : Int32)) L := zl_in hL (k := 3) hi (by decide)
  refine lv_aload_n hx hb dL_law_485 rfl (lv_at hl 1 rfl) ?_
  refine lv_aload_n hx hb dL_law_486 rfl (lv_at hl 0 rfl) ?_
  refine lv_iload hx hb dL_law_487 (lv_at hl 4 rfl) ?_
  refine lv_iconst (v := (1 : Int32)) hx hb dL_law_489 (by decide) ?_
  refine lv_iadd hx hb dL_law_490 ?_
  refine va_sld hx hb hXs hbl hbA hw.2 h1 dL_law_491 ?_
  refine lv_aload_n hx hb dL_law_492 rfl (lv_at hl 0 rfl) ?_
  refine lv_iload hx hb dL_law_493 (lv_at hl 4 rfl) ?_
  refine lv_iconst (v := (2 : Int32)) hx hb dL_law_495 (by decide) ?_
  refine lv_iadd hx hb dL_law_496 ?_
  refine va_sld hx hb hXs hbl hbA hw.2 h2 dL_law_497 ?_
  refine zr_Vi (As := [.int (xs ((nI i) + (1 : Int32)).toNatClampNeg), .int (xs ((nI i) + (2 : Int32)).toNatClampNeg)]) (rest := []) Sx hK hw (kX6_near l s.heap.size g M B (xs ((nI i) + (1 : Int32)).toNatClampNeg) (xs ((nI i) + (2 : Int32)).toNatClampNeg) (fun r M1 => r = (zo_near S (xs ((nI i) + (1 : Int32)).toNatClampNeg) (xs ((nI i) + (2 : Int32)).toNatClampNeg)).1 ∧ zRC g.2 B M M1 (zo_near S (xs ((nI i) + (1 : Int32)).toNatClampNeg) (xs ((nI i) + (2 : Int32)).toNatClampNeg)).2) (c6_near hW.1 (fun M1 h1 => ⟨rfl, h1⟩))) (cwV 2 hts (zg_V zy_42 zy_43 zy_44 zu_303 zy_45) rfl rfl rfl (by decide +kernel) ⟨Nat.le_of_ble_eq_true rfl, Nat.le_of_ble_eq_true rfl⟩) (ci := 9) rfl (zRC_ob hW.1) rfl hl.1 rfl (Nat.le_of_ble_eq_true rfl) dL_law_498 ⟨by show _ ≤ 603072; omega, by show _ ≤ 7223402; omega⟩ (fun r1 M1 H locs hw h => ?_)
  obtain ⟨e1, hC⟩ := h
  obtain ⟨t1, hM⟩ := zLw_1 hW hC
  refine lv_aload_n hx hb dL_law_501 rfl (lv_at hl 2 rfl) ?_
  refine lv_aload_n hx hb dL_law_502 rfl (lv_at hl 0 rfl) ?_
  refine lv_iload hx hb dL_law_503 (lv_at hl 4 rfl) ?_
  refine lv_iconst (v := (1 : Int32)) hx hb dL_law_505 (by decide) ?_
  refine lv_iadd hx hb dL_law_506 ?_
  refine va_sld hx hb hXs hbl hbA hw.2 h1 dL_law_507 ?_
  refine lv_aload_n hx hb dL_law_508 rfl (lv_at hl 0 rfl) ?_
  refine lv_iload hx hb dL_law_509 (lv_at hl 4 rfl) ?_
  refine lv_iconst (v := (2 : Int32)) hx hb dL_law_511 (by decide) ?_
  refine lv_iadd hx hb dL_law_512 ?_
  refine va_sld hx hb hXs hbl hbA hw.2 h2 dL_law_513 ?_
  refine zr_Vi (As := [.int (xs ((nI i) + (1 : Int32)).toNatClampNeg), .int (xs ((nI i) + (2 : Int32)).toNatClampNeg)]) (rest := [.int r1]) Sx hK hw (kX7_near l s.heap.size g M1 (B + 168) (xs ((nI i) + (1 : Int32)).toNatClampNeg) (xs ((nI i) + (2 : Int32)).toNatClampNeg) (fun r M2 => r = (zo_near S (xs ((nI i) + (1 : Int32)).toNatClampNeg) (xs ((nI i) + (2 : Int32)).toNatClampNeg)).1 ∧ zRM g.2 (B + 168) M1 M2 (zo_near S (xs ((nI i) + (1 : Int32)).toNatClampNeg) (xs ((nI i) + (2 : Int32)).toNatClampNeg)).2 0) (m7_near hM (fun M2 h2 => ⟨rfl, h2⟩))) (cwV 2 hts (zg_V zy_46 zy_47 zy_48 zu_450 zy_49) rfl rfl rfl (by decide +kernel) ⟨Nat.le_of_ble_eq_true rfl, Nat.le_of_ble_eq_true rfl⟩) (ci := 10) rfl (zRM_ob hM) rfl hl.1 rfl (Nat.le_of_ble_eq_true rfl) dL_law_514 ⟨by show _ ≤ 603072; omega, by show _ ≤ 7223402; omega⟩ (fun r2 M2 H locs hw h => ?_)
  obtain ⟨e2, hM2⟩ := h
  refine lv_icmp_eq (tgt := 1318) hx hb dL_law_517 (by decide) (fun hc => ?_) (fun hc => absurd (by rw [e1, e2]) hc)
  refine W.widen (k := 200 + (j + 1)) (n := 20000 + 6 * (j + 1)) (by omega) (by omega) ?_
  exact nx _ _ _ _ _ hw (zLw_2 hW hC hM2) hl
set_option maxHeartbeats 4000000 in
set_option maxRecDepth 100000 in
theorem zL_6 {p : Program} {l : Launch} {e : Env} {s : State} {m : MethodId} {below : List Frame} {meth : Method} {c : Code} {b L : Nat} {xs : Nat → Int32} (hL : L ≤ 2048) (hl9 : l.stackTraces = false) (C0 : lw_At p s m meth c b L xs) {g : zg} (hK : zk_K zNF zNM g s) (hX : zx_K s.heap.size g s s.heap) {B i j : Nat} (hi : i + 4 ≤ L) (hj : i = 4 * j) {S : zS} {M : zm_M} {H : Heap} {locs : List Loc} {ls : Array Slot} (hw : zW s.heap.size g s H locs M) (hW : zLw g.2 B M S) (hl : lv_has ls 8 [(0, .ref b), (1, .ref B), (2, .ref (B + 168)), (3, .ref (B + 178)), (4, .int (nI i))])
    (nx : ∀ (S : zS) (M : zm_M) (H : Heap) (locs : List Loc) (ls : Array Slot), zW s.heap.size g s H locs M → zLw g.2 B M S → lv_has ls 8 [(0, .ref b), (1, .ref B), (2, .ref (B + 168)), (3, .ref (B + 178)), (4, .int (nI i))] → W p l e room_1 s m #[Value.ref b] below meth c H locs (200 + (j + 1)) (20000 + 6 * (j + 1)) (lw_Z below #[Value.ref b] s) (F0 m 1318 ls [])) : W p l e room_1 s m #[Value.ref b] below meth c H locs (200 + j) (20000 + 6 * j) (lw_Z below #[Value.ref b] s) (F0 m 522 ls []) := by
  obtain ⟨hx, hb, hr, hml, hown, hts0, hXs, hbl, hlocks, -⟩ := id C0
  have hown : s.vm.findClass RL = some m.cls := hown
  have hbA : ¬ zA s.heap.size b := Nat.not_le.mpr hbl
  have hts : ∀ w ∈ zU, w.before #[Value.ref b] s = true := fun w hw => hts0 w (List.mem_filter.mp hw).1
  have Sx : CallFix p m c cL_law 8 s #[Value.ref b] zU RL := ⟨hx, hb, hml, hown, hts⟩
  have h1 : vp_in (nI i + (1 : Int32)) L := zl_in hL (k := 1) hi (by decide)
  have h2 : vp_in (nI i + (2 : Int32)) L := zl_in hL (k := 2) hi (by decide)
  have h3 : vp_in (nI i + (3 : Int32)) L := zl_in hL (k := 3) hi (by decide)
  refine lv_aload_n hx hb dL_law_522 rfl (lv_at hl 1 rfl) ?_
  refine lv_aload_n hx hb dL_law_523 rfl (lv_at hl 0 rfl) ?_
  refine lv_iload hx hb dL_law_524 (lv_at hl 4 rfl) ?_
  refine lv_iconst (v := (1 : Int32)) hx hb dL_law_526 (by decide) ?_
  refine lv_iadd hx hb dL_law_527 ?_
  refine va_sld hx hb hXs hbl hbA hw.2 h1 dL_law_528 ?_
  refine lv_aload_n hx hb dL_law_529 rfl (lv_at hl 0 rfl) ?_
  refine lv_iload hx hb dL_law_530 (lv_at hl 4 rfl) ?_
  refine lv_iconst (v := (2 : Int32)) hx hb dL_law_532 (by decide) ?_
  refine lv_iadd hx hb dL_law_533 ?_
  refine va_sld hx hb hXs hbl hbA hw.2 h2 dL_law_534 ?_
  refine zr_Vi (As := [.int (xs ((nI i) + (1 : Int32)).toNatClampNeg), .int (xs ((nI i) + (2 : Int32)).toNatClampNeg)]) (rest := []) Sx hK hw (kX6_common l s.heap.size g M B (xs ((nI i) + (1 : Int32)).toNatClampNeg) (xs ((nI i) + (2 : Int32)).toNatClampNeg) (fun r M1 => r = (zo_common S (xs ((nI i) + (1 : Int32)).toNatClampNeg) (xs ((nI i) + (2 : Int32)).toNatClampNeg)).1 ∧ zRC g.2 B M M1 (zo_common S (xs ((nI i) + (1 : Int32)).toNatClampNeg) (xs ((nI i) + (2 : Int32)).toNatClampNeg)).2) (c6_common hW.1 (fun M1 h1 => ⟨rfl, h1⟩))) (cwV 2 hts (zg_V zy_50 zy_51 zy_52 zu_303 zy_53) rfl rfl rfl (by decide +kernel) ⟨Nat.le_of_ble_eq_true rfl, Nat.le_of_ble_eq_true rfl⟩) (ci := 9) rfl (zRC_ob hW.1) rfl hl.1 rfl (Nat.le_of_ble_eq_true rfl) dL_law_535 ⟨by show _ ≤ 603072; omega, by show _ ≤ 7223402; omega⟩ (fun r1 M1 H locs hw h => ?_)
  obtain ⟨e1, hC⟩ := h
  obtain ⟨t1, hM⟩ := zLw_1 hW hC
  refine lv_aload_n hx hb dL_law_538 rfl (lv_at hl 2 rfl) ?_
  refine lv_aload_n hx hb dL_law_539 rfl (lv_at hl 0 rfl) ?_
  refine lv_iload hx hb dL_law_540 (lv_at hl 4 rfl) ?_
  refine lv_iconst (v := (1 : Int32)) hx hb dL_law_542 (by decide) ?_
  refine lv_iadd hx hb dL_law_543 ?_
  refine va_sld hx hb hXs hbl hbA hw.2 h1 dL_law_544 ?_
  refine lv_aload_n hx hb dL_law_545 rfl (lv_at hl 0 rfl) ?_
  refine lv_iload hx hb dL_law_546 (lv_at hl 4 rfl) ?_
  refine lv_iconst (v := (2 : Int32)) hx hb dL_law_548 (by decide) ?_
  refine lv_iadd hx hb dL_law_549 ?_
  refine va_sld hx hb hXs hbl hbA hw.2 h2 dL_law_550 ?_
  refine zr_Vi (As := [.int (xs ((nI i) + (1 : Int32)).toNatClampNeg), .int (xs ((nI i) + (2 : Int32)).toNatClampNeg)]) (rest := [.int r1]) Sx hK hw (kX7_common l s.heap.size g M1 (B + 168) (xs ((nI i) + (1 : Int32)).toNatClampNeg) (xs ((nI i) + (2 : Int32)).toNatClampNeg) (fun r M2 => r = (zo_common S (xs ((nI i) + (1 : Int32)).toNatClampNeg) (xs ((nI i) + (2 : Int32)).toNatClampNeg)).1 ∧ zRM g.2 (B + 168) M1 M2 (zo_common S (xs ((nI i) + (1 : Int32)).toNatClampNeg) (xs ((nI i) + (2 : Int32)).toNatClampNeg)).2 0) (m7_common hM (fun M2 h2 => ⟨rfl, h2⟩))) (cwV 2 hts (zg_V zy_54 zy_55 zy_56 zu_450 zy_57) rfl rfl rfl (by decide +kernel) ⟨Nat.le_of_ble_eq_true rfl, Nat.le_of_ble_eq_true rfl⟩) (ci := 10) rfl (zRM_ob hM) rfl hl.1 rfl (Nat.le_of_ble_eq_true rfl) dL_law_551 ⟨by show _ ≤ 603072; omega, by show _ ≤ 7223402; omega⟩ (fun r2 M2 H locs hw h => ?_)
  obtain ⟨e2, hM2⟩ := h
  refine lv_icmp_eq (tgt := 1318) hx hb dL_law_554 (by decide) (fun hc => ?_) (fun hc => absurd (by rw [e1, e2]) hc)
  refine W.widen (k := 200 + (j + 1)) (n := 20000 + 6 * (j + 1)) (by omega) (by omega) ?_
  exact nx _ _ _ _ _ hw (zLw_2 hW hC hM2) hl
set_option maxHeartbeats 4000000 in
set_option maxRecDepth 100000 in
theorem zL_7 {p : Program} {l : Launch} {e : Env} {s : State} {m : MethodId} {below : List Frame} {meth : Method} {c : Code} {b L : Nat} {xs : Nat → Int32} (hL : L ≤ 2048) (hl9 : l.stackTraces = false) (C0 : lw_At p s m meth c b L xs) {g : zg} (hK : zk_K zNF zNM g s) (hX : zx_K s.heap.size g s s.heap) {B i j : Nat} (hi : i + 4 ≤ L) (hj : i = 4 * j) {S : zS} {M : zm_M} {H : Heap} {locs : List Loc} {ls : Array Slot} (hw : zW s.heap.size g s H locs M) (hW : zLw g.2 B M S) (hl : lv_has ls 8 [(0, .ref b), (1, .ref B), (2, .ref (B + 168)), (3, .ref (B + 178)), (4, .int (nI i))])
    (nx : ∀ (S : zS) (M : zm_M) (H : Heap) (locs : List Loc) (ls : Array Slot), zW s.heap.size g s H locs M → zLw g.2 B M S → lv_has ls 8 [(0, .ref b), (1, .ref B), (2, .ref (B + 168)), (3, .ref (B + 178)), (4, .int (nI i))] → W p l e room_1 s m #[Value.ref b] below meth c H locs (200 + (j + 1)) (20000 + 6 * (j + 1)) (lw_Z below #[Value.ref b] s) (F0 m 1318 ls [])) : W p l e room_1 s m #[Value.ref b] below meth c H locs (200 + j) (20000 + 6 * j) (lw_Z below #[Value.ref b] s) (F0 m 559 ls []) := by
  obtain ⟨hx, hb, hr, hml, hown, hts0, hXs, hbl, hlocks, -⟩ := id C0
  have hown : s.vm.findClass RL = some m.cls := hown
  have hbA : ¬ zA s.heap.size b := Nat.not_le.mpr hbl
  have hts : ∀ w ∈ zU, w.before #[Value.ref b] s = true := fun w hw => hts0 w (List.mem_filter.mp hw).1
  have Sx : CallFix p m c cL_law 8 s #[Value.ref b] zU RL := ⟨hx, hb, hml, hown, hts⟩
  have h1 : vp_in (nI i + (1 : Int32)) L := zl_in hL (k := 1) hi (by decide)
  have h2 : vp_in (nI i + (2 : Int32)) L := zl_in hL (k := 2) hi (by decide)
  have h3 : vp_in (nI i + (3 : Int32)) L := zl_in hL (k := 3) hi (by decide)
  refine lv_aload_n hx hb dL_law_559 rfl (lv_at hl 1 rfl) ?_
  refine lv_aload_n hx hb dL_law_560 rfl (lv_at hl 0 rfl) ?_
  refine lv_iload hx hb dL_law_561 (lv_at hl 4 rfl) ?_
  refine lv_iconst (v := (1 : Int32)) hx hb dL_law_563 (by decide) ?_
  refine lv_iadd hx hb dL_law_564 ?_
  refine va_sld hx hb hXs hbl hbA hw.2 h1 dL_law_565 ?_
  refine zr_Vi (As := [.int (xs ((nI i) + (1 : Int32)).toNatClampNeg)]) (rest := []) Sx hK hw (kX6_drop l s.heap.size g M B (xs ((nI i) + (1 : Int32)).toNatClampNeg) (fun r M1 => r = (zo_drop S (xs ((nI i) + (1 : Int32)).toNatClampNeg)).1 ∧ zRC g.2 B M M1 (zo_drop S (xs ((nI i) + (1 : Int32)).toNatClampNeg)).2) (c6_drop hW.1 (fun M1 h1 => ⟨rfl, h1⟩))) (cwV 1 hts (zg_V zy_58 zy_59 zy_60 zu_303 zy_61) rfl rfl rfl (by decide +kernel) ⟨Nat.le_of_ble_eq_true rfl, Nat.le_of_ble_eq_true rfl⟩) (ci := 9) rfl (zRC_ob hW.1) rfl hl.1 rfl (Nat.le_of_ble_eq_true rfl) dL_law_566 ⟨by show _ ≤ 603072; omega, by show _ ≤ 7223402; omega⟩ (fun r1 M1 H locs hw h => ?_)
  obtain ⟨e1, hC⟩ := h
  obtain ⟨t1, hM⟩ := zLw_1 hW hC
  refine lv_aload_n hx hb dL_law_569 rfl (lv_at hl 2 rfl) ?_
  refine lv_aload_n hx hb dL_law_570 rfl (lv_at hl 0 rfl) ?_
  refine lv_iload hx hb dL_law_571 (lv_at hl 4 rfl) ?_
  refine lv_iconst (v := (1 : Int32)) hx hb dL_law_573 (by decide) ?_
  refine lv_iadd hx hb dL_law_574 ?_
  refine va_sld hx hb hXs hbl hbA hw.2 h1 dL_law_575 ?_
  refine zr_Vi (As := [.int (xs ((nI i) + (1 : Int32)).toNatClampNeg)]) (rest := [.int r1]) Sx hK hw (kX7_drop l s.heap.size g M1 (B + 168) (xs ((nI i) + (1 : Int32)).toNatClampNeg) (fun r M2 => r = (zo_drop S (xs ((nI i) + (1 : Int32)).toNatClampNeg)).1 ∧ zRM g.2 (B + 168) M1 M2 (zo_drop S (xs ((nI i) + (1 : Int32)).toNatClampNeg)).2 0) (m7_drop hM (fun M2 h2 => ⟨rfl, h2⟩))) (cwV 1 hts (zg_V zy_62 zy_63 zy_64 zu_450 zy_65) rfl rfl rfl (by decide +kernel) ⟨Nat.le_of_ble_eq_true rfl, Nat.le_of_ble_eq_true rfl⟩) (ci := 10) rfl (zRM_ob hM) rfl hl.1 rfl (Nat.le_of_ble_eq_true rfl) dL_law_576 ⟨by show _ ≤ 603072; omega, by show _ ≤ 7223402; omega⟩ (fun r2 M2 H locs hw h => ?_)
  obtain ⟨e2, hM2⟩ := h
  refine lv_icmp_eq (tgt := 1318) hx hb dL_law_579 (by decide) (fun hc => ?_) (fun hc => absurd (by rw [e1, e2]) hc)
  refine W.widen (k := 200 + (j + 1)) (n := 20000 + 6 * (j + 1)) (by omega) (by omega) ?_
  exact nx _ _ _ _ _ hw (zLw_2 hW hC hM2) hl
set_option maxHeartbeats 4000000 in
set_option maxRecDepth 100000 in
theorem zL_8 {p : Program} {l : Launch} {e : Env} {s : State} {m : MethodId} {below : List Frame} {meth : Method} {c : Code} {b L : Nat} {xs : Nat → Int32} (hL : L ≤ 2048) (hl9 : l.stackTraces = false) (C0 : lw_At p s m meth c b L xs) {g : zg} (hK : zk_K zNF zNM g s) (hX : zx_K s.heap.size g s s.heap) {B i j : Nat} (hi : i + 4 ≤ L) (hj : i = 4 * j) {S : zS} {M : zm_M} {H : Heap} {locs : List Loc} {ls : Array Slot} (hw : zW s.heap.size g s H locs M) (hW : zLw g.2 B M S) (hl : lv_has ls 8 [(0, .ref b), (1, .ref B), (2, .ref (B + 168)), (3, .ref (B + 178)), (4, .int (nI i))])
    (nx : ∀ (S : zS) (M : zm_M) (H : Heap) (locs : List Loc) (ls : Array Slot), zW s.heap.size g s H locs M → zLw g.2 B M S → lv_has ls 8 [(0, .ref b), (1, .ref B), (2, .ref (B + 168)), (3, .ref (B + 178)), (4, .int (nI i))] → W p l e room_1 s m #[Value.ref b] below meth c H locs (200 + (j + 1)) (20000 + 6 * (j + 1)) (lw_Z below #[Value.ref b] s) (F0 m 1318 ls [])) : W p l e room_1 s m #[Value.ref b] below meth c H locs (200 + j) (20000 + 6 * j) (lw_Z below #[Value.ref b] s) (F0 m 584 ls []) := by
  obtain ⟨hx, hb, hr, hml, hown, hts0, hXs, hbl, hlocks, -⟩ := id C0
  have hown : s.vm.findClass RL = some m.cls := hown
  have hbA : ¬ zA s.heap.size b := Nat.not_le.mpr hbl
  have hts : ∀ w ∈ zU, w.before #[Value.ref b] s = true := fun w hw => hts0 w (List.mem_filter.mp hw).1
  have Sx : CallFix p m c cL_law 8 s #[Value.ref b] zU RL := ⟨hx, hb, hml, hown, hts⟩
  have h1 : vp_in (nI i + (1 : Int32)) L := zl_in hL (k := 1) hi (by decide)
  have h2 : vp_in (nI i + (2 : Int32)) L := zl_in hL (k := 2) hi (by decide)
  have h3 : vp_in (nI i + (3 : Int32)) L := zl_in hL (k := 3) hi (by decide)
  refine lv_aload_n hx hb dL_law_584 rfl (lv_at hl 1 rfl) ?_
  refine zr_Vi (As := []) (rest := []) Sx hK hw (kX6_count l s.heap.size g M B  (fun r M1 => r = (zo_count S ).1 ∧ zRC g.2 B M M1 (zo_count S ).2) (c6_count hW.1 (fun M1 h1 => ⟨rfl, h1⟩))) (cwV 0 hts (zg_V zy_66 zy_67 zy_68 zu_303 zy_69) rfl rfl rfl (by decide +kernel) ⟨Nat.le_of_ble_eq_true rfl, Nat.le_of_ble_eq_true rfl⟩) (ci := 9) rfl (zRC_ob hW.1) rfl hl.1 rfl (Nat.le_of_ble_eq_true rfl) dL_law_585 ⟨by show _ ≤ 603072; omega, by show _ ≤ 7223402; omega⟩ (fun r1 M1 H locs hw h => ?_)
  obtain ⟨e1, hC⟩ := h
  obtain ⟨t1, hM⟩ := zLw_1 hW hC
  refine lv_aload_n hx hb dL_law_588 rfl (lv_at hl 2 rfl) ?_
  refine zr_Vi (As := []) (rest := [.int r1]) Sx hK hw (kX7_count l s.heap.size g M1 (B + 168)  (fun r M2 => r = (zo_count S ).1 ∧ zRM g.2 (B + 168) M1 M2 (zo_count S ).2 0) (m7_count hM (fun M2 h2 => ⟨rfl, h2⟩))) (cwV 0 hts (zg_V zy_70 zy_71 zy_72 zu_450 zy_73) rfl rfl rfl (by decide +kernel) ⟨Nat.le_of_ble_eq_true rfl, Nat.le_of_ble_eq_true rfl⟩) (ci := 10) rfl (zRM_ob hM) rfl hl.1 rfl (Nat.le_of_ble_eq_true rfl) dL_law_589 ⟨by show _ ≤ 603072; omega, by show _ ≤ 7223402; omega⟩ (fun r2 M2 H locs hw h => ?_)
  obtain ⟨e2, hM2⟩ := h
  refine lv_icmp_eq (tgt := 1318) hx hb dL_law_592 (by decide) (fun hc => ?_) (fun hc => absurd (by rw [e1, e2]) hc)
  refine W.widen (k := 200 + (j + 1)) (n := 20000 + 6 * (j + 1)) (by omega) (by omega) ?_
  exact nx _ _ _ _ _ hw (zLw_2 hW hC hM2) hl
set_option maxHeartbeats 4000000 in
set_option maxRecDepth 100000 in
theorem zL_9 {p : Program} {l : Launch} {e : Env} {s : State} {m : MethodId} {below : List Frame} {meth : Method} {c : Code} {b L : Nat} {xs : Nat → Int32} (hL : L ≤ 2048) (hl9 : l.stackTraces = false) (C0 : lw_At p s m meth c b L xs) {g : zg} (hK : zk_K zNF zNM g s) (hX : zx_K s.heap.size g s s.heap) {B i j : Nat} (hi : i + 4 ≤ L) (hj : i = 4 * j) {S : zS} {M : zm_M} {H : Heap} {locs : List Loc} {ls : Array Slot} (hw : zW s.heap.size g s H locs M) (hW : zLw g.2 B M S) (hl : lv_has ls 8 [(0, .ref b), (1, .ref B), (2, .ref (B + 168)), (3, .ref (B + 178)), (4, .int (nI i))])
    (nx : ∀ (S : zS) (M : zm_M) (H : Heap) (locs : List Loc) (ls : Array Slot), zW s.heap.size g s H locs M → zLw g.2 B M S → lv_has ls 8 [(0, .ref b), (1, .ref B), (2, .ref (B + 168)), (3, .ref (B + 178)), (4, .int (nI i))] → W p l e room_1 s m #[Value.ref b] below meth c H locs (200 + (j + 1)) (20000 + 6 * (j + 1)) (lw_Z below #[Value.ref b] s) (F0 m 1318 ls [])) : W p l e room_1 s m #[Value.ref b] below meth c H locs (200 + j) (20000 + 6 * j) (lw_Z below #[Value.ref b] s) (F0 m 597 ls []) := by
  obtain ⟨hx, hb, hr, hml, hown, hts0, hXs, hbl, hlocks, -⟩ := id C0
  have hown : s.vm.findClass RL = some m.cls := hown
  have hbA : ¬ zA s.heap.size b := Nat.not_le.mpr hbl
  have hts : ∀ w ∈ zU, w.before #[Value.ref b] s = true := fun w hw => hts0 w (List.mem_filter.mp hw).1
  have Sx : CallFix p m c cL_law 8 s #[Value.ref b] zU RL := ⟨hx, hb, hml, hown, hts⟩
  have h1 : vp_in (nI i + (1 : Int32)) L := zl_in hL (k := 1) hi (by decide)
  have h2 : vp_in (nI i + (2 : Int32)) L := zl_in hL (k := 2) hi (by decide)
  have h3 : vp_in (nI i + (3 : Int32)) L := zl_in hL (k := 3) hi (by decide)
  refine lv_aload_n hx hb dL_law_597 rfl (lv_at hl 1 rfl) ?_
  refine lv_aload_n hx hb dL_law_598 rfl (lv_at hl 0 rfl) ?_
  refine lv_iload hx hb dL_law_599 (lv_at hl 4 rfl) ?_
  refine lv_iconst (v := (1 : Int32)) hx hb dL_law_601 (by decide) ?_
  refine lv_iadd hx hb dL_law_602 ?_
  refine va_sld hx hb hXs hbl hbA hw.2 h1 dL_law_603 ?_
  refine lv_aload_n hx hb dL_law_604 rfl (lv_at hl 0 rfl) ?_
  refine lv_iload hx hb dL_law_605 (lv_at hl 4 rfl) ?_
  refine lv_iconst (v := (2 : Int32)) hx hb dL_law_607 (by decide) ?_
  refine lv_iadd hx hb dL_law_608 ?_
  refine va_sld hx hb hXs hbl hbA hw.2 h2 dL_law_609 ?_
  refine zr_Vi (As := [.int (xs ((nI i) + (1 : Int32)).toNatClampNeg), .int (xs ((nI i) + (2 : Int32)).toNatClampNeg)]) (rest := []) Sx hK hw (kX6_compare l s.heap.size g M B (xs ((nI i) + (1 : Int32)).toNatClampNeg) (xs ((nI i) + (2 : Int32)).toNatClampNeg) (fun r M1 => r = (zo_compare S (xs ((nI i) + (1 : Int32)).toNatClampNeg) (xs ((nI i) + (2 : Int32)).toNatClampNeg)).1 ∧ zRC g.2 B M M1 (zo_compare S (xs ((nI i) + (1 : Int32)).toNatClampNeg) (xs ((nI i) + (2 : Int32)).toNatClampNeg)).2) (c6_compare hW.1 (fun M1 h1 => ⟨rfl, h1⟩))) (cwV 2 hts (zg_V zy_74 zy_75 zy_76 zu_303 zy_77) rfl rfl rfl (by decide +kernel) ⟨Nat.le_of_ble_eq_true rfl, Nat.le_of_ble_eq_true rfl⟩) (ci := 9) rfl (zRC_ob hW.1) rfl hl.1 rfl (Nat.le_of_ble_eq_true rfl) dL_law_610 ⟨by show _ ≤ 603072; omega, by show _ ≤ 7223402; omega⟩ (fun r1 M1 H locs hw h => ?_)
  obtain ⟨e1, hC⟩ := h
  obtain ⟨t1, hM⟩ := zLw_1 hW hC
  refine lv_aload_n hx hb dL_law_613 rfl (lv_at hl 2 rfl) ?_
  refine lv_aload_n hx hb dL_law_614 rfl (lv_at hl 0 rfl) ?_
  refine lv_iload hx hb dL_law_615 (lv_at hl 4 rfl) ?_
  refine lv_iconst (v := (1 : Int32)) hx hb dL_law_617 (by decide) ?_
  refine lv_iadd hx hb dL_law_618 ?_
  refine va_sld hx hb hXs hbl hbA hw.2 h1 dL_law_619 ?_
  refine lv_aload_n hx hb dL_law_620 rfl (lv_at hl 0 rfl) ?_
  refine lv_iload hx hb dL_law_621 (lv_at hl 4 rfl) ?_
  refine lv_iconst (v := (2 : Int32)) hx hb dL_law_623 (by decide) ?_
  refine lv_iadd hx hb dL_law_624 ?_
  refine va_sld hx hb hXs hbl hbA hw.2 h2 dL_law_625 ?_
  refine zr_Vi (As := [.int (xs ((nI i) + (1 : Int32)).toNatClampNeg), .int (xs ((nI i) + (2 : Int32)).toNatClampNeg)]) (rest := [.int r1]) Sx hK hw (kX7_compare l s.heap.size g M1 (B + 168) (xs ((nI i) + (1 : Int32)).toNatClampNeg) (xs ((nI i) + (2 : Int32)).toNatClampNeg) (fun r M2 => r = (zo_compare S (xs ((nI i) + (1 : Int32)).toNatClampNeg) (xs ((nI i) + (2 : Int32)).toNatClampNeg)).1 ∧ zRM g.2 (B + 168) M1 M2 (zo_compare S (xs ((nI i) + (1 : Int32)).toNatClampNeg) (xs ((nI i) + (2 : Int32)).toNatClampNeg)).2 0) (m7_compare hM (fun M2 h2 => ⟨rfl, h2⟩))) (cwV 2 hts (zg_V zy_78 zy_79 zy_80 zu_450 zy_81) rfl rfl rfl (by decide +kernel) ⟨Nat.le_of_ble_eq_true rfl, Nat.le_of_ble_eq_true rfl⟩) (ci := 10) rfl (zRM_ob hM) rfl hl.1 rfl (Nat.le_of_ble_eq_true rfl) dL_law_626 ⟨by show _ ≤ 603072; omega, by show _ ≤ 7223402; omega⟩ (fun r2 M2 H locs hw h => ?_)
  obtain ⟨e2, hM2⟩ := h
  refine lv_icmp_eq (tgt := 1318) hx hb dL_law_629 (by decide) (fun hc => ?_) (fun hc => absurd (by rw [e1, e2]) hc)
  refine W.widen (k := 200 + (j + 1)) (n := 20000 + 6 * (j + 1)) (by omega) (by omega) ?_
  exact nx _ _ _ _ _ hw (zLw_2 hW hC hM2) hl
