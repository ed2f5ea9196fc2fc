/-! THE LAW'S LOOP (by program: wip/whole/tools/mk99.py) -/
set_option maxHeartbeats 4000000 in
set_option maxRecDepth 100000 in
theorem zL_sw {p : Program} {l : Launch} {e : Env} {s : State} {m : MethodId} {below : List Frame} {meth : Method} {c : Code} {b L : Nat} {xs : Nat → Int32} (hL : L ≤ 2048) (hl9 : l.stackTraces = false) (C0 : lw_At p s m meth c b L xs) {g : zg} (hK : zk_K zNF zNM g s) (hX : zx_K s.heap.size g s s.heap) {B : Nat} {i j : Nat} (hi : i + 4 ≤ L) (hj : i = 4 * j) {S : zS} {M : zm_M} {H : Heap} {locs : List Loc} {ls : Array Slot} (hw : zW s.heap.size g s H locs M) (hW : zLw g.2 B M S) (hl : lv_has ls 8 [(0, .ref b), (1, .ref B), (2, .ref (B + 168)), (3, .ref (B + 178)), (4, .int (nI i))])
    (nx : ∀ (S : zS) (M : zm_M) (H : Heap) (locs : List Loc) (ls : Array Slot), zW s.heap.size g s H locs M → zLw g.2 B M S → lv_has ls 8 [(0, .ref b), (1, .ref B), (2, .ref (B + 168)), (3, .ref (B + 178)), (4, .int (nI i))] → W p l e room_1 s m #[Value.ref b] below meth c H locs (200 + (j + 1)) (20000 + 6 * (j + 1)) (lw_Z below #[Value.ref b] s) (F0 m 1318 ls [])) : ∀ r : Nat, r < 32 → W p l e room_1 s m #[Value.ref b] below meth c H locs (200 + j) (20000 + 6 * j) (lw_Z below #[Value.ref b] s) (F0 m 39 ls [.int (nI r)]) := by
  obtain ⟨hx, hb, -⟩ := id C0
  intro r hr
  match r, hr with
  | 0, _ => exact lv_tableIn (tgt := 156) (off := 117) hx hb dL_law_39 (by decide) (by decide) (by decide) (by decide) (zL_0 hL hl9 C0 hK hX hi hj hw hW hl nx)
  | 1, _ => exact lv_tableIn (tgt := 213) (off := 174) hx hb dL_law_39 (by decide) (by decide) (by decide) (by decide) (zL_1 hL hl9 C0 hK hX hi hj hw hW hl nx)
  | 2, _ => exact lv_tableIn (tgt := 269) (off := 230) hx hb dL_law_39 (by decide) (by decide) (by decide) (by decide) (zL_2 hL hl9 C0 hK hX hi hj hw hW hl nx)
  | 3, _ => exact lv_tableIn (tgt := 337) (off := 298) hx hb dL_law_39 (by decide) (by decide) (by decide) (by decide) (zL_3 hL hl9 C0 hK hX hi hj hw hW hl nx)
  | 4, _ => exact lv_tableIn (tgt := 417) (off := 378) hx hb dL_law_39 (by decide) (by decide) (by decide) (by decide) (zL_4 hL hl9 C0 hK hX hi hj hw hW hl nx)
  | 5, _ => exact lv_tableIn (tgt := 485) (off := 446) hx hb dL_law_39 (by decide) (by decide) (by decide) (by decide) (zL_5 hL hl9 C0 hK hX hi hj hw hW hl nx)
  | 6, _ => exact lv_tableIn (tgt := 522) (off := 483) hx hb dL_law_39 (by decide) (by decide) (by decide) (by decide) (zL_6 hL hl9 C0 hK hX hi hj hw hW hl nx)
  | 7, _ => exact lv_tableIn (tgt := 559) (off := 520) hx hb dL_law_39 (by decide) (by decide) (by decide) (by decide) (zL_7 hL hl9 C0 hK hX hi hj hw hW hl nx)
  | 8, _ => exact lv_tableIn (tgt := 584) (off := 545) hx hb dL_law_39 (by decide) (by decide) (by decide) (by decide) (zL_8 hL hl9 C0 hK hX hi hj hw hW hl nx)
  | 9, _ => exact lv_tableIn (tgt := 597) (off := 558) hx hb dL_law_39 (by decide) (by decide) (by decide) (by decide) (zL_9 hL hl9 C0 hK hX hi hj hw hW hl nx)
  | 10, _ => exact lv_tableIn (tgt := 634) (off := 595) hx hb dL_law_39 (by decide) (by decide) (by decide) (by decide) (zL_10 hL hl9 C0 hK hX hi hj hw hW hl nx)
  | 11, _ => exact lv_tableIn (tgt := 671) (off := 632) hx hb dL_law_39 (by decide) (by decide) (by decide) (by decide) (zL_11 hL hl9 C0 hK hX hi hj hw hW hl nx)
  | 12, _ => exact lv_tableIn (tgt := 751) (off := 712) hx hb dL_law_39 (by decide) (by decide) (by decide) (by decide) (zL_12 hL hl9 C0 hK hX hi hj hw hW hl nx)
  | 13, _ => exact lv_tableIn (tgt := 776) (off := 737) hx hb dL_law_39 (by decide) (by decide) (by decide) (by decide) (zL_13 hL hl9 C0 hK hX hi hj hw hW hl nx)
  | 14, _ => exact lv_tableIn (tgt := 813) (off := 774) hx hb dL_law_39 (by decide) (by decide) (by decide) (by decide) (zL_14 hL hl9 C0 hK hX hi hj hw hW hl nx)
  | 15, _ => exact lv_tableIn (tgt := 850) (off := 811) hx hb dL_law_39 (by decide) (by decide) (by decide) (by decide) (zL_15 hL hl9 C0 hK hX hi hj hw hW hl nx)
  | 16, _ => exact lv_tableIn (tgt := 919) (off := 880) hx hb dL_law_39 (by decide) (by decide) (by decide) (by decide) (zL_16 hL hl9 C0 hK hX hi hj hw hW hl nx)
  | 17, _ => exact lv_tableIn (tgt := 986) (off := 947) hx hb dL_law_39 (by decide) (by decide) (by decide) (by decide) (zL_17 hL hl9 C0 hK hX hi hj hw hW hl nx)
  | 18, _ => exact lv_tableIn (tgt := 1012) (off := 973) hx hb dL_law_39 (by decide) (by decide) (by decide) (by decide) (zL_18 hL hl9 C0 hK hX hi hj hw hW hl nx)
  | 19, _ => exact lv_tableIn (tgt := 1037) (off := 998) hx hb dL_law_39 (by decide) (by decide) (by decide) (by decide) (zL_19 hL hl9 C0 hK hX hi hj hw hW hl nx)
  | 20, _ => exact lv_tableIn (tgt := 1125) (off := 1086) hx hb dL_law_39 (by decide) (by decide) (by decide) (by decide) (zL_20 hL hl9 C0 hK hX hi hj hw hW hl nx)
  | 21, _ => exact lv_tableIn (tgt := 1150) (off := 1111) hx hb dL_law_39 (by decide) (by decide) (by decide) (by decide) (zL_21 hL hl9 C0 hK hX hi hj hw hW hl nx)
  | 22, _ => exact lv_tableIn (tgt := 1194) (off := 1155) hx hb dL_law_39 (by decide) (by decide) (by decide) (by decide) (zL_22 hL hl9 C0 hK hX hi hj hw hW hl nx)
  | 23, _ => exact lv_tableIn (tgt := 1219) (off := 1180) hx hb dL_law_39 (by decide) (by decide) (by decide) (by decide) (zL_23 hL hl9 C0 hK hX hi hj hw hW hl nx)
  | 24, _ => exact lv_tableIn (tgt := 1256) (off := 1217) hx hb dL_law_39 (by decide) (by decide) (by decide) (by decide) (zL_24 hL hl9 C0 hK hX hi hj hw hW hl nx)
  | 25, _ => exact lv_tableIn (tgt := 1281) (off := 1242) hx hb dL_law_39 (by decide) (by decide) (by decide) (by decide) (zL_25 hL hl9 C0 hK hX hi hj hw hW hl nx)
  | r + 26, hr =>
    refine lv_tableOut (tgt := 1318) hx hb dL_law_39 (Or.inr ?_) (by decide) ?_
    · rw [nI_toInt (by omega)]
      omega
    · exact W.widen (k := 200 + (j + 1)) (n := 20000 + 6 * (j + 1)) (by omega) (by omega) (nx _ _ _ _ _ hw hW hl)
set_option maxHeartbeats 4000000 in
set_option maxRecDepth 100000 in
theorem zL_loop {p : Program} {l : Launch} {e : Env} {s : State} {m : MethodId} {below : List Frame} {meth : Method} {c : Code} {b L : Nat} {xs : Nat → Int32} (hL : L ≤ 2048) (hl9 : l.stackTraces = false) (C0 : lw_At p s m meth c b L xs) {g : zg} (hK : zk_K zNF zNM g s) (hX : zx_K s.heap.size g s s.heap) {B : Nat} : ∀ (n i j : Nat) (S : zS) (M : zm_M) (H : Heap) (locs : List Loc) (ls : Array Slot), i = 4 * j → i ≤ L → L < i + 4 * n → zW s.heap.size g s H locs M → zLw g.2 B M S → lv_has ls 8 [(0, .ref b), (1, .ref B), (2, .ref (B + 168)), (3, .ref (B + 178)), (4, .int (nI i))] → W p l e room_1 s m #[Value.ref b] below meth c H locs (200 + j) (20000 + 6 * j) (lw_Z below #[Value.ref b] s) (F0 m 23 ls [])
  | 0, i, j, S, M, H, locs, ls, hj, hi, hn, hw, hW, hl => absurd hn (by omega)
  | n + 1, i, j, S, M, H, locs, ls, hj, hi, hn, hw, hW, hl => by
    obtain ⟨hx, hb, hr, hml, hown, hts0, hXs, hbl, hlocks, -⟩ := id C0
    have hbA : ¬ zA s.heap.size b := Nat.not_le.mpr hbl
    refine lv_iload hx hb dL_law_23 (lv_at hl 4 rfl) ?_
    refine lv_aload_n hx hb dL_law_25 rfl (lv_at hl 0 rfl) ?_
    refine va_slen hx hb hXs hbl hbA hw.2 dL_law_26 ?_
    refine lv_iconst (v := (4 : Int32)) hx hb dL_law_27 (by decide) ?_
    refine lv_isub hx hb dL_law_28 ?_
    have hlt : (Int32.ofNat L - (4 : Int32) < nI i) ↔ L < i + 4 := by
      have h1 : (nI L - nI 4).toInt = (L : Int) - 4 := pk_sub_toInt (by omega) (by decide)
      show nI L - nI 4 < nI i ↔ _
      rw [Int32.lt_iff_toInt_lt, h1, nI_toInt (by omega)]
      omega
    refine lv_icmp_gt (tgt := 1324) hx hb dL_law_29 (by decide) (fun hc => ?_) (fun hc => ?_)
    · refine lv_iconst (v := (1 : Int32)) hx hb dL_law_1324 (by decide) ?_
      refine va_forget (fun q hq => hw.2.2.2 q hq) ?_
      refine W.widen (k := 603072) (n := 7223402) (by omega) (by omega) ?_
      exact lw_ret hx hb hr hlocks dL_law_1325
    · have hi4 : i + 4 ≤ L := Nat.not_lt.mp (fun q => hc (hlt.mpr q))
      refine lv_aload_n hx hb dL_law_32 rfl (lv_at hl 0 rfl) ?_
      refine lv_iload hx hb dL_law_33 (lv_at hl 4 rfl) ?_
      refine va_sld hx hb hXs hbl hbA hw.2 (vp_in_nI (by omega) (by omega)) dL_law_35 ?_
      refine lv_bipush (v := (31 : Int32)) hx hb dL_law_36 (by decide) ?_
      refine lv_iand hx hb dL_law_38 ?_
      obtain ⟨r, hr1, hr2⟩ := pk_andE (xs (nI i).toNatClampNeg) (m := (31 : Int32)) 5 (by decide)
      rw [hr2]
      refine zL_sw hL hl9 C0 hK hX hi4 hj hw hW hl (fun S M H locs ls hw hW hl => ?_) r hr1
      obtain ⟨x4, ex4⟩ : ∃ z : Int32, z = nI i + (4 : Int32) := ⟨_, rfl⟩
      refine lv_iinc (v := x4) (lv' := [(4, .int x4), (0, .ref b), (1, .ref B), (2, .ref (B + 168)), (3, .ref (B + 178))]) hx hb dL_law_1318 hl (k := 4) rfl (by rw [ex4]; rfl) (by decide) rfl (fun ls hl => ?_)
      refine lv_goto (tgt := 23) hx hb dL_law_1321 (by decide) ?_
      have e4 : x4 = nI (i + 4) := by rw [ex4]; exact nI_add i 4
      rw [e4] at hl
      exact zL_loop hL hl9 C0 hK hX n (i + 4) (j + 1) S M H locs ls (by omega) hi4 (by omega) hw hW (lv_sub hl [1, 2, 3, 4, 0] rfl)
