/-! the law's cases (by program) -/
set_option maxHeartbeats 4000000 in
set_option maxRecDepth 100000 in
theorem zL_15 {p : Program} {l : Launch} {e : Env} {s : State} {m : MethodId} {below : List Frame} {meth : Method} {c : Code} {b L : Nat} {xs : Nat → Int32} (hL : L ≤ 2048) (hl9 : l.stackTraces = false) (C0 : lw_At p s m meth c b L xs) {g : zg} (hK : zk_K zNF zNM g s) (hX : zx_K s.heap.size g s s.heap) {B i j : Nat} (hi : i + 4 ≤ L) (hj : i = 4 * j) {S : zS} {M : zm_M} {H : Heap} {locs : List Loc} {ls : Array Slot} (hw : zW s.heap.size g s H locs M) (hW : zLw g.2 B M S) (hl : lv_has ls 8 [(0, .ref b), (1, .ref B), (2, .ref (B + 168)), (3, .ref (B + 178)), (4, .int (nI i))])
    (nx : ∀ (S : zS) (M : zm_M) (H : Heap) (locs : List Loc) (ls : Array Slot), zW s.heap.size g s H locs M → zLw g.2 B M S → lv_has ls 8 [(0, .ref b), (1, .ref B), (2, .ref (B + 168)), (3, .ref (B + 178)), (4, .int (nI i))] → W p l e room_1 s m #[Value.ref b] below meth c H locs (200 + (j + 1)) (20000 + 6 * (j + 1)) (lw_Z below #[Value.ref b] s) (F0 m 1318 ls [])) : W p l e room_1 s m #[Value.ref b] below meth c H locs (200 + j) (20000 + 6 * j) (lw_Z below #[Value.ref b] s) (F0 m 850 ls []) := by
  obtain ⟨hx, hb, hr, hml, hown, hts0, hXs, hbl, hlocks, -⟩ := id C0
  have hown : s.vm.findClass RL = some m.cls := hown
  have hbA : ¬ zA s.heap.size b := Nat.not_le.mpr hbl
  have hts : ∀ w ∈ zU, w.before #[Value.ref b] s = true := fun w hw => hts0 w (List.mem_filter.mp hw).1
  have Sx : CallFix p m c cL_law 8 s #[Value.ref b] zU RL := ⟨hx, hb, hml, hown, hts⟩
  have h1 : vp_in (nI i + (1 : Int32)) L := zl_in hL (k := 1) hi (by decide)
  have h2 : vp_in (nI i + (2 : Int32)) L := zl_in hL (k := 2) hi (by decide)
  have h3 : vp_in (nI i + (3 : Int32)) L := zl_in hL (k := 3) hi (by decide)
  refine lv_aload_n hx hb dL_law_850 rfl (lv_at hl 1 rfl) ?_
  refine lv_aload_n hx hb dL_law_851 rfl (lv_at hl 0 rfl) ?_
  refine lv_iload hx hb dL_law_852 (lv_at hl 4 rfl) ?_
  refine lv_iconst (v := (1 : Int32)) hx hb dL_law_854 (by decide) ?_
  refine lv_iadd hx hb dL_law_855 ?_
  refine va_sld hx hb hXs hbl hbA hw.2 h1 dL_law_856 ?_
  refine lv_aload_n hx hb dL_law_857 rfl (lv_at hl 0 rfl) ?_
  refine lv_iload hx hb dL_law_858 (lv_at hl 4 rfl) ?_
  refine lv_iconst (v := (2 : Int32)) hx hb dL_law_860 (by decide) ?_
  refine lv_iadd hx hb dL_law_861 ?_
  refine va_sld hx hb hXs hbl hbA hw.2 h2 dL_law_862 ?_
  refine lv_i2l hx hb dL_law_863 rfl ?_
  refine lv_bipush (v := (32 : Int32)) hx hb dL_law_864 (by decide) ?_
  refine lv_lshl hx hb dL_law_866 rfl ?_
  refine lv_aload_n hx hb dL_law_867 rfl (lv_at hl 0 rfl) ?_
  refine lv_iload hx hb dL_law_868 (lv_at hl 4 rfl) ?_
  refine lv_iconst (v := (3 : Int32)) hx hb dL_law_870 (by decide) ?_
  refine lv_iadd hx hb dL_law_871 ?_
  refine va_sld hx hb hXs hbl hbA hw.2 h3 dL_law_872 ?_
  refine lv_i2l hx hb dL_law_873 rfl ?_
  refine lv_ldc2 (v := (4294967295 : Int64)) hx hb hown (hts _ zy_0) dL_law_874 ?_
  refine lv_land hx hb dL_law_877 ?_
  refine lv_lor hx hb dL_law_878 ?_
  refine zr_Vi (As := [.int (xs ((nI i) + (1 : Int32)).toNatClampNeg), .long (((xs ((nI i) + (2 : Int32)).toNatClampNeg).toInt64 <<< ((32 : Int32).toInt64 &&& 63)) ||| ((xs ((nI i) + (3 : Int32)).toNatClampNeg).toInt64 &&& (4294967295 : Int64)))]) (rest := []) Sx hK hw (kX6_best l s.heap.size g M B (xs ((nI i) + (1 : Int32)).toNatClampNeg) (((xs ((nI i) + (2 : Int32)).toNatClampNeg).toInt64 <<< ((32 : Int32).toInt64 &&& 63)) ||| ((xs ((nI i) + (3 : Int32)).toNatClampNeg).toInt64 &&& (4294967295 : Int64))) (fun r M1 => r = (zo_best S (xs ((nI i) + (1 : Int32)).toNatClampNeg) (((xs ((nI i) + (2 : Int32)).toNatClampNeg).toInt64 <<< ((32 : Int32).toInt64 &&& 63)) ||| ((xs ((nI i) + (3 : Int32)).toNatClampNeg).toInt64 &&& (4294967295 : Int64)))).1 ∧ zRC g.2 B M M1 (zo_best S (xs ((nI i) + (1 : Int32)).toNatClampNeg) (((xs ((nI i) + (2 : Int32)).toNatClampNeg).toInt64 <<< ((32 : Int32).toInt64 &&& 63)) ||| ((xs ((nI i) + (3 : Int32)).toNatClampNeg).toInt64 &&& (4294967295 : Int64)))).2) (c6_best hW.1 (fun M1 h1 => ⟨rfl, h1⟩))) (cwV 2 hts (zg_V zy_121 zy_122 zy_123 zu_303 zy_124) rfl rfl rfl (by decide +kernel) ⟨Nat.le_of_ble_eq_true rfl, Nat.le_of_ble_eq_true rfl⟩) (ci := 9) rfl (zRC_ob hW.1) rfl hl.1 rfl (Nat.le_of_ble_eq_true rfl) dL_law_879 ⟨by show _ ≤ 603072; omega, by show _ ≤ 7223402; omega⟩ (fun r1 M1 H locs hw h => ?_)
  obtain ⟨e1, hC⟩ := h
  obtain ⟨t1, hM⟩ := zLw_1 hW hC
  refine lv_aload_n hx hb dL_law_882 rfl (lv_at hl 2 rfl) ?_
  refine lv_aload_n hx hb dL_law_883 rfl (lv_at hl 0 rfl) ?_
  refine lv_iload hx hb dL_law_884 (lv_at hl 4 rfl) ?_
  refine lv_iconst (v := (1 : Int32)) hx hb dL_law_886 (by decide) ?_
  refine lv_iadd hx hb dL_law_887 ?_
  refine va_sld hx hb hXs hbl hbA hw.2 h1 dL_law_888 ?_
  refine lv_aload_n hx hb dL_law_889 rfl (lv_at hl 0 rfl) ?_
  refine lv_iload hx hb dL_law_890 (lv_at hl 4 rfl) ?_
  refine lv_iconst (v := (2 : Int32)) hx hb dL_law_892 (by decide) ?_
  refine lv_iadd hx hb dL_law_893 ?_
  refine va_sld hx hb hXs hbl hbA hw.2 h2 dL_law_894 ?_
  refine lv_i2l hx hb dL_law_895 rfl ?_
  refine lv_bipush (v := (32 : Int32)) hx hb dL_law_896 (by decide) ?_
  refine lv_lshl hx hb dL_law_898 rfl ?_
  refine lv_aload_n hx hb dL_law_899 rfl (lv_at hl 0 rfl) ?_
  refine lv_iload hx hb dL_law_900 (lv_at hl 4 rfl) ?_
  refine lv_iconst (v := (3 : Int32)) hx hb dL_law_902 (by decide) ?_
  refine lv_iadd hx hb dL_law_903 ?_
  refine va_sld hx hb hXs hbl hbA hw.2 h3 dL_law_904 ?_
  refine lv_i2l hx hb dL_law_905 rfl ?_
  refine lv_ldc2 (v := (4294967295 : Int64)) hx hb hown (hts _ zy_0) dL_law_906 ?_
  refine lv_land hx hb dL_law_909 ?_
  refine lv_lor hx hb dL_law_910 ?_
  refine zr_Vi (As := [.int (xs ((nI i) + (1 : Int32)).toNatClampNeg), .long (((xs ((nI i) + (2 : Int32)).toNatClampNeg).toInt64 <<< ((32 : Int32).toInt64 &&& 63)) ||| ((xs ((nI i) + (3 : Int32)).toNatClampNeg).toInt64 &&& (4294967295 : Int64)))]) (rest := [.int r1]) Sx hK hw (kX7_best l s.heap.size g M1 (B + 168) (xs ((nI i) + (1 : Int32)).toNatClampNeg) (((xs ((nI i) + (2 : Int32)).toNatClampNeg).toInt64 <<< ((32 : Int32).toInt64 &&& 63)) ||| ((xs ((nI i) + (3 : Int32)).toNatClampNeg).toInt64 &&& (4294967295 : Int64))) (fun r M2 => r = (zo_best S (xs ((nI i) + (1 : Int32)).toNatClampNeg) (((xs ((nI i) + (2 : Int32)).toNatClampNeg).toInt64 <<< ((32 : Int32).toInt64 &&& 63)) ||| ((xs ((nI i) + (3 : Int32)).toNatClampNeg).toInt64 &&& (4294967295 : Int64)))).1 ∧ zRM g.2 (B + 168) M1 M2 (zo_best S (xs ((nI i) + (1 : Int32)).toNatClampNeg) (((xs ((nI i) + (2 : Int32)).toNatClampNeg).toInt64 <<< ((32 : Int32).toInt64 &&& 63)) ||| ((xs ((nI i) + (3 : Int32)).toNatClampNeg).toInt64 &&& (4294967295 : Int64)))).2 0) (m7_best hM (fun M2 h2 => ⟨rfl, h2⟩))) (cwV 2 hts (zg_V zy_125 zy_126 zy_127 zu_450 zy_128) rfl rfl rfl (by decide +kernel) ⟨Nat.le_of_ble_eq_true rfl, Nat.le_of_ble_eq_true rfl⟩) (ci := 10) rfl (zRM_ob hM) rfl hl.1 rfl (Nat.le_of_ble_eq_true rfl) dL_law_911 ⟨by show _ ≤ 603072; omega, by show _ ≤ 7223402; omega⟩ (fun r2 M2 H locs hw h => ?_)
  obtain ⟨e2, hM2⟩ := h
  refine lv_icmp_eq (tgt := 1318) hx hb dL_law_914 (by decide) (fun hc => ?_) (fun hc => absurd (by rw [e1, e2]) hc)
  refine W.widen (k := 200 + (j + 1)) (n := 20000 + 6 * (j + 1)) (by omega) (by omega) ?_
  exact nx _ _ _ _ _ hw (zLw_2 hW hC hM2) hl
set_option maxHeartbeats 4000000 in
set_option maxRecDepth 100000 in
theorem zL_16 {p : Program} {l : Launch} {e : Env} {s : State} {m : MethodId} {below : List Frame} {meth : Method} {c : Code} {b L : Nat} {xs : Nat → Int32} (hL : L ≤ 2048) (hl9 : l.stackTraces = false) (C0 : lw_At p s m meth c b L xs) {g : zg} (hK : zk_K zNF zNM g s) (hX : zx_K s.heap.size g s s.heap) {B i j : Nat} (hi : i + 4 ≤ L) (hj : i = 4 * j) {S : zS} {M : zm_M} {H : Heap} {locs : List Loc} {ls : Array Slot} (hw : zW s.heap.size g s H locs M) (hW : zLw g.2 B M S) (hl : lv_has ls 8 [(0, .ref b), (1, .ref B), (2, .ref (B + 168)), (3, .ref (B + 178)), (4, .int (nI i))])
    (nx : ∀ (S : zS) (M : zm_M) (H : Heap) (locs : List Loc) (ls : Array Slot), zW s.heap.size g s H locs M → zLw g.2 B M S → lv_has ls 8 [(0, .ref b), (1, .ref B), (2, .ref (B + 168)), (3, .ref (B + 178)), (4, .int (nI i))] → W p l e room_1 s m #[Value.ref b] below meth c H locs (200 + (j + 1)) (20000 + 6 * (j + 1)) (lw_Z below #[Value.ref b] s) (F0 m 1318 ls [])) : W p l e room_1 s m #[Value.ref b] below meth c H locs (200 + j) (20000 + 6 * j) (lw_Z below #[Value.ref b] s) (F0 m 919 ls []) := by
  obtain ⟨hx, hb, hr, hml, hown, hts0, hXs, hbl, hlocks, -⟩ := id C0
  have hown : s.vm.findClass RL = some m.cls := hown
  have hbA : ¬ zA s.heap.size b := Nat.not_le.mpr hbl
  have hts : ∀ w ∈ zU, w.before #[Value.ref b] s = true := fun w hw => hts0 w (List.mem_filter.mp hw).1
  have Sx : CallFix p m c cL_law 8 s #[Value.ref b] zU RL := ⟨hx, hb, hml, hown, hts⟩
  have h1 : vp_in (nI i + (1 : Int32)) L := zl_in hL (k := 1) hi (by decide)
  have h2 : vp_in (nI i + (2 : Int32)) L := zl_in hL (k := 2) hi (by decide)
  have h3 : vp_in (nI i + (3 : Int32)) L := zl_in hL (k := 3) hi (by decide)
  refine lv_aload_n hx hb dL_law_919 rfl (lv_at hl 1 rfl) ?_
  refine lv_aload_n hx hb dL_law_920 rfl (lv_at hl 0 rfl) ?_
  refine lv_iload hx hb dL_law_921 (lv_at hl 4 rfl) ?_
  refine lv_iconst (v := (1 : Int32)) hx hb dL_law_923 (by decide) ?_
  refine lv_iadd hx hb dL_law_924 ?_
  refine va_sld hx hb hXs hbl hbA hw.2 h1 dL_law_925 ?_
  refine lv_aload_n hx hb dL_law_926 rfl (lv_at hl 0 rfl) ?_
  refine lv_iload hx hb dL_law_927 (lv_at hl 4 rfl) ?_
  refine lv_iconst (v := (2 : Int32)) hx hb dL_law_929 (by decide) ?_
  refine lv_iadd hx hb dL_law_930 ?_
  refine va_sld hx hb hXs hbl hbA hw.2 h2 dL_law_931 ?_
  refine lv_aload_n hx hb dL_law_932 rfl (lv_at hl 3 rfl) ?_
  refine zr_SXi (hh := [(0, 9, 12, 19)]) (As := [.ref B, .int (xs ((nI i) + (1 : Int32)).toNatClampNeg), .int (xs ((nI i) + (2 : Int32)).toNatClampNeg), .ref (B + 178)]) (rest := []) Sx hK hX hw (kL_exact l hl9 s.heap.size g M B (xs ((nI i) + (1 : Int32)).toNatClampNeg) (xs ((nI i) + (2 : Int32)).toNatClampNeg) (B + 178) (fun r M1 => zLh g.2 B M1 S (zo_exact S (xs ((nI i) + (1 : Int32)).toNatClampNeg) (xs ((nI i) + (2 : Int32)).toNatClampNeg)).2 (zo_exact S (xs ((nI i) + (1 : Int32)).toNatClampNeg) (xs ((nI i) + (2 : Int32)).toNatClampNeg)).1 r) ⟨zRC_ob hW.1, c6_exact hW.1 (zLh_l hW).1 (zLh_l hW).2⟩) (vx_cwSW 4 hts (zg_S zy_129 zy_130 zy_11 zy_131) rfl rfl rfl (by decide +kernel) ⟨Nat.le_of_ble_eq_true rfl, Nat.le_of_ble_eq_true rfl⟩) rfl hl.1 rfl (Nat.le_of_ble_eq_true rfl) dL_law_933 ⟨by show _ ≤ 603072; omega, by show _ ≤ 7223402; omega⟩ (fun r1 M1 H locs hw h => ?_)
  have hH := h
  obtain ⟨e1, -, ⟨t1, hM⟩, -⟩ := h
  refine lv_istore (lv' := [(5, .int r1), (0, .ref b), (1, .ref B), (2, .ref (B + 168)), (3, .ref (B + 178)), (4, .int (nI i))]) hx hb dL_law_936 hl (by decide) rfl (fun ls hl => ?_)
  refine lv_aload_n hx hb dL_law_938 rfl (lv_at hl 3 rfl) ?_
  refine lv_aload_n hx hb dL_law_939 rfl (lv_at hl 1 rfl) ?_
  refine lv_iload hx hb dL_law_940 (lv_at hl 5 rfl) ?_
  refine lv_iconst (v := (1 : Int32)) hx hb dL_law_942 (by decide) ?_
  refine lv_iadd hx hb dL_law_943 ?_
  refine va_sld hx hb hXs hbl hbA hw.2 h1 dL_law_944 ?_
  refine lv_aload_n hx hb dL_law_945 rfl (lv_at hl 1 rfl) ?_
  refine lv_iload hx hb dL_law_946 (lv_at hl 5 rfl) ?_
  refine lv_iconst (v := (2 : Int32)) hx hb dL_law_948 (by decide) ?_
  refine lv_iadd hx hb dL_law_949 ?_
  refine va_sld hx hb hXs hbl hbA hw.2 h2 dL_law_950 ?_
  refine zr_Vl (As := [.int (xs ((nI i) + (1 : Int32)).toNatClampNeg), .int (xs ((nI i) + (2 : Int32)).toNatClampNeg)]) (rest := []) Sx hK hw (kX7_exact l s.heap.size g M1 (B + 168) (xs ((nI i) + (1 : Int32)).toNatClampNeg) (xs ((nI i) + (2 : Int32)).toNatClampNeg) (fun r M2 => r = (zo_exact S (xs ((nI i) + (1 : Int32)).toNatClampNeg) (xs ((nI i) + (2 : Int32)).toNatClampNeg)).1.getD 0 ∧ zRM g.2 (B + 168) M1 M2 (zo_exact S (xs ((nI i) + (1 : Int32)).toNatClampNeg) (xs ((nI i) + (2 : Int32)).toNatClampNeg)).2 (zth (zo_exact S (xs ((nI i) + (1 : Int32)).toNatClampNeg) (xs ((nI i) + (2 : Int32)).toNatClampNeg)).1)) (m7_exact hM (fun M2 h2 => ⟨rfl, h2⟩))) (cwV 2 hts (zg_V zy_132 zy_133 zy_134 zu_450 zy_135) rfl rfl rfl (by decide +kernel) ⟨Nat.le_of_ble_eq_true rfl, Nat.le_of_ble_eq_true rfl⟩) (ci := 10) rfl (zRM_ob hM) rfl hl.1 rfl (Nat.le_of_ble_eq_true rfl) dL_law_951 ⟨by show _ ≤ 603072; omega, by show _ ≤ 7223402; omega⟩ (fun r2 M2 H locs hw h => ?_)
  obtain ⟨e2, hM2⟩ := h
  refine lv_lstore (lv' := [(6, .long r2), (5, .int r1), (0, .ref b), (1, .ref B), (2, .ref (B + 168)), (3, .ref (B + 178)), (4, .int (nI i))]) hx hb dL_law_954 hl (by decide) rfl (fun ls hl => ?_)
  refine lv_aload_n hx hb dL_law_956 rfl (lv_at hl 4 rfl) ?_
  refine zr_Vi (As := []) (rest := []) Sx hK hw (kX7_thrown l s.heap.size g M2 (B + 168) (fun r M3 => r = zth (zo_exact S (xs ((nI i) + (1 : Int32)).toNatClampNeg) (xs ((nI i) + (2 : Int32)).toNatClampNeg)).1 ∧ M3 = M2) (m7_thrown hM2 ⟨rfl, rfl⟩)) (cwV 0 hts (zg_V zy_17 zy_18 zy_19 zu_450 zy_20) rfl rfl rfl (by decide +kernel) ⟨Nat.le_of_ble_eq_true rfl, Nat.le_of_ble_eq_true rfl⟩) (ci := 10) rfl (zRM_ob hM2) rfl hl.1 rfl (Nat.le_of_ble_eq_true rfl) dL_law_957 ⟨by show _ ≤ 603072; omega, by show _ ≤ 7223402; omega⟩ (fun r3 M3 H locs hw h => ?_)
  obtain ⟨e3, hM3⟩ := h
  rw [hM3] at hw
  obtain ⟨hW2, f9, hf9, hv9⟩ := zLh_2 hH hM2
  refine lv_iload hx hb dL_law_960 (lv_at hl 1 rfl) ?_
  refine lv_icmp_eq (tgt := 967) hx hb dL_law_962 (by decide) (fun hc => ?_) (fun hc => absurd (by rw [e3, e1]) hc)
  refine lv_iload hx hb dL_law_967 (lv_at hl 1 rfl) ?_
  refine lv_if_ne (tgt := 983) hx hb dL_law_969 (by decide) (fun hn => ?_) (fun hn => ?_)
  · refine lv_goto (tgt := 1318) hx hb dL_law_983 (by decide) ?_
    refine W.widen (k := 200 + (j + 1)) (n := 20000 + 6 * (j + 1)) (by omega) (by omega) ?_
    exact nx _ _ _ _ _ hw hW2 (lv_sub hl [2, 3, 4, 5, 6] rfl)
  · refine lv_aload_n hx hb dL_law_972 rfl (lv_at hl 5 rfl) ?_
    refine lv_iconst (v := (0 : Int32)) hx hb dL_law_973 (by decide) ?_
    have hq : zw_ll (g.2 3) M2 (B + 178) (0 : Int32) (fun x => x = f9 0) := ⟨1, f9, hf9, vp_in_nI (n := 0) (N := 1) (by decide) (by decide), rfl⟩
    refine zr_lald Sx hK hw dL_law_974 hq (fun x9 e9 => ?_)
    refine lv_lload hx hb dL_law_975 (lv_at hl 0 rfl) ?_
    refine W.lcmp hx hb dL_law_977 ?_
    have hs : x9 = r2 := by
      obtain ⟨v, hv⟩ := zth_0 (e1.symm.trans hn)
      rw [e9, hv9 v hv, e2, hv]
      rfl
    refine lv_if_eq (tgt := 983) hx hb dL_law_978 (by decide) (fun hc => ?_) (fun hc => absurd (zc_eq.mpr hs) hc)
    refine lv_goto (tgt := 1318) hx hb dL_law_983 (by decide) ?_
    refine W.widen (k := 200 + (j + 1)) (n := 20000 + 6 * (j + 1)) (by omega) (by omega) ?_
    exact nx _ _ _ _ _ hw hW2 (lv_sub hl [2, 3, 4, 5, 6] rfl)
set_option maxHeartbeats 4000000 in
set_option maxRecDepth 100000 in
theorem zL_17 {p : Program} {l : Launch} {e : Env} {s : State} {m : MethodId} {below : List Frame} {meth : Method} {c : Code} {b L : Nat} {xs : Nat → Int32} (hL : L ≤ 2048) (hl9 : l.stackTraces = false) (C0 : lw_At p s m meth c b L xs) {g : zg} (hK : zk_K zNF zNM g s) (hX : zx_K s.heap.size g s s.heap) {B i j : Nat} (hi : i + 4 ≤ L) (hj : i = 4 * j) {S : zS} {M : zm_M} {H : Heap} {locs : List Loc} {ls : Array Slot} (hw : zW s.heap.size g s H locs M) (hW : zLw g.2 B M S) (hl : lv_has ls 8 [(0, .ref b), (1, .ref B), (2, .ref (B + 168)), (3, .ref (B + 178)), (4, .int (nI i))])
    (nx : ∀ (S : zS) (M : zm_M) (H : Heap) (locs : List Loc) (ls : Array Slot), zW s.heap.size g s H locs M → zLw g.2 B M S → lv_has ls 8 [(0, .ref b), (1, .ref B), (2, .ref (B + 168)), (3, .ref (B + 178)), (4, .int (nI i))] → W p l e room_1 s m #[Value.ref b] below meth c H locs (200 + (j + 1)) (20000 + 6 * (j + 1)) (lw_Z below #[Value.ref b] s) (F0 m 1318 ls [])) : W p l e room_1 s m #[Value.ref b] below meth c H locs (200 + j) (20000 + 6 * j) (lw_Z below #[Value.ref b] s) (F0 m 986 ls []) := by
  obtain ⟨hx, hb, hr, hml, hown, hts0, hXs, hbl, hlocks, -⟩ := id C0
  have hown : s.vm.findClass RL = some m.cls := hown
  have hbA : ¬ zA s.heap.size b := Nat.not_le.mpr hbl
  have hts : ∀ w ∈ zU, w.before #[Value.ref b] s = true := fun w hw => hts0 w (List.mem_filter.mp hw).1
  have Sx : CallFix p m c cL_law 8 s #[Value.ref b] zU RL := ⟨hx, hb, hml, hown, hts⟩
  have h1 : vp_in (nI i + (1 : Int32)) L := zl_in hL (k := 1) hi (by decide)
  have h2 : vp_in (nI i + (2 : Int32)) L := zl_in hL (k := 2) hi (by decide)
  have h3 : vp_in (nI i + (3 : Int32)) L := zl_in hL (k := 3) hi (by decide)
  refine lv_aload_n hx hb dL_law_986 rfl (lv_at hl 1 rfl) ?_
  refine lv_aload_n hx hb dL_law_987 rfl (lv_at hl 0 rfl) ?_
  refine lv_iload hx hb dL_law_988 (lv_at hl 4 rfl) ?_
  refine lv_iconst (v := (1 : Int32)) hx hb dL_law_990 (by decide) ?_
  refine lv_iadd hx hb dL_law_991 ?_
  refine va_sld hx hb hXs hbl hbA hw.2 h1 dL_law_992 ?_
  refine zr_Vl (As := [.int (xs ((nI i) + (1 : Int32)).toNatClampNeg)]) (rest := []) Sx hK hw (kX6_real l s.heap.size g M B (xs ((nI i) + (1 : Int32)).toNatClampNeg) (fun r M1 => r = (zo_real S (xs ((nI i) + (1 : Int32)).toNatClampNeg)).1 ∧ zRC g.2 B M M1 (zo_real S (xs ((nI i) + (1 : Int32)).toNatClampNeg)).2) (c6_real hW.1 (fun M1 h1 => ⟨rfl, h1⟩))) (cwV 1 hts (zg_V zy_136 zy_137 zy_138 zu_303 zy_139) rfl rfl rfl (by decide +kernel) ⟨Nat.le_of_ble_eq_true rfl, Nat.le_of_ble_eq_true rfl⟩) (ci := 9) rfl (zRC_ob hW.1) rfl hl.1 rfl (Nat.le_of_ble_eq_true rfl) dL_law_993 ⟨by show _ ≤ 603072; omega, by show _ ≤ 7223402; omega⟩ (fun r1 M1 H locs hw h => ?_)
  obtain ⟨e1, hC⟩ := h
  obtain ⟨t1, hM⟩ := zLw_1 hW hC
  refine lv_aload_n hx hb dL_law_996 rfl (lv_at hl 2 rfl) ?_
  refine lv_aload_n hx hb dL_law_997 rfl (lv_at hl 0 rfl) ?_
  refine lv_iload hx hb dL_law_998 (lv_at hl 4 rfl) ?_
  refine lv_iconst (v := (1 : Int32)) hx hb dL_law_1000 (by decide) ?_
  refine lv_iadd hx hb dL_law_1001 ?_
  refine va_sld hx hb hXs hbl hbA hw.2 h1 dL_law_1002 ?_
  refine zr_Vl (As := [.int (xs ((nI i) + (1 : Int32)).toNatClampNeg)]) (rest := [.long r1]) Sx hK hw (kX7_real l s.heap.size g M1 (B + 168) (xs ((nI i) + (1 : Int32)).toNatClampNeg) (fun r M2 => r = (zo_real S (xs ((nI i) + (1 : Int32)).toNatClampNeg)).1 ∧ zRM g.2 (B + 168) M1 M2 (zo_real S (xs ((nI i) + (1 : Int32)).toNatClampNeg)).2 0) (m7_real hM (fun M2 h2 => ⟨rfl, h2⟩))) (cwV 1 hts (zg_V zy_140 zy_141 zy_142 zu_450 zy_143) rfl rfl rfl (by decide +kernel) ⟨Nat.le_of_ble_eq_true rfl, Nat.le_of_ble_eq_true rfl⟩) (ci := 10) rfl (zRM_ob hM) rfl hl.1 rfl (Nat.le_of_ble_eq_true rfl) dL_law_1003 ⟨by show _ ≤ 603072; omega, by show _ ≤ 7223402; omega⟩ (fun r2 M2 H locs hw h => ?_)
  obtain ⟨e2, hM2⟩ := h
  refine W.lcmp hx hb dL_law_1006 ?_
  refine lv_if_eq (tgt := 1318) hx hb dL_law_1007 (by decide) (fun hc => ?_) (fun hc => absurd (zc_eq.mpr (by rw [e1, e2])) hc)
  refine W.widen (k := 200 + (j + 1)) (n := 20000 + 6 * (j + 1)) (by omega) (by omega) ?_
  exact nx _ _ _ _ _ hw (zLw_2 hW hC hM2) hl
set_option maxHeartbeats 4000000 in
set_option maxRecDepth 100000 in
theorem zL_18 {p : Program} {l : Launch} {e : Env} {s : State} {m : MethodId} {below : List Frame} {meth : Method} {c : Code} {b L : Nat} {xs : Nat → Int32} (hL : L ≤ 2048) (hl9 : l.stackTraces = false) (C0 : lw_At p s m meth c b L xs) {g : zg} (hK : zk_K zNF zNM g s) (hX : zx_K s.heap.size g s s.heap) {B i j : Nat} (hi : i + 4 ≤ L) (hj : i = 4 * j) {S : zS} {M : zm_M} {H : Heap} {locs : List Loc} {ls : Array Slot} (hw : zW s.heap.size g s H locs M) (hW : zLw g.2 B M S) (hl : lv_has ls 8 [(0, .ref b), (1, .ref B), (2, .ref (B + 168)), (3, .ref (B + 178)), (4, .int (nI i))])
    (nx : ∀ (S : zS) (M : zm_M) (H : Heap) (locs : List Loc) (ls : Array Slot), zW s.heap.size g s H locs M → zLw g.2 B M S → lv_has ls 8 [(0, .ref b), (1, .ref B), (2, .ref (B + 168)), (3, .ref (B + 178)), (4, .int (nI i))] → W p l e room_1 s m #[Value.ref b] below meth c H locs (200 + (j + 1)) (20000 + 6 * (j + 1)) (lw_Z below #[Value.ref b] s) (F0 m 1318 ls [])) : W p l e room_1 s m #[Value.ref b] below meth c H locs (200 + j) (20000 + 6 * j) (lw_Z below #[Value.ref b] s) (F0 m 1012 ls []) := by
  obtain ⟨hx, hb, hr, hml, hown, hts0, hXs, hbl, hlocks, -⟩ := id C0
  have hown : s.vm.findClass RL = some m.cls := hown
  have hbA : ¬ zA s.heap.size b := Nat.not_le.mpr hbl
  have hts : ∀ w ∈ zU, w.before #[Value.ref b] s = true := fun w hw => hts0 w (List.mem_filter.mp hw).1
  have Sx : CallFix p m c cL_law 8 s #[Value.ref b] zU RL := ⟨hx, hb, hml, hown, hts⟩
  have h1 : vp_in (nI i + (1 : Int32)) L := zl_in hL (k := 1) hi (by decide)
  have h2 : vp_in (nI i + (2 : Int32)) L := zl_in hL (k := 2) hi (by decide)
  have h3 : vp_in (nI i + (3 : Int32)) L := zl_in hL (k := 3) hi (by decide)
  refine lv_aload_n hx hb dL_law_1012 rfl (lv_at hl 1 rfl) ?_
  refine lv_aload_n hx hb dL_law_1013 rfl (lv_at hl 0 rfl) ?_
  refine lv_iload hx hb dL_law_1014 (lv_at hl 4 rfl) ?_
  refine lv_iconst (v := (1 : Int32)) hx hb dL_law_1016 (by decide) ?_
  refine lv_iadd hx hb dL_law_1017 ?_
  refine va_sld hx hb hXs hbl hbA hw.2 h1 dL_law_1018 ?_
  refine zr_Vi (As := [.int (xs ((nI i) + (1 : Int32)).toNatClampNeg)]) (rest := []) Sx hK hw (kX6_single l s.heap.size g M B (xs ((nI i) + (1 : Int32)).toNatClampNeg) (fun r M1 => r = (zo_single S (xs ((nI i) + (1 : Int32)).toNatClampNeg)).1 ∧ zRC g.2 B M M1 (zo_single S (xs ((nI i) + (1 : Int32)).toNatClampNeg)).2) (c6_single hW.1 (fun M1 h1 => ⟨rfl, h1⟩))) (cwV 1 hts (zg_V zy_144 zy_145 zy_146 zu_303 zy_147) rfl rfl rfl (by decide +kernel) ⟨Nat.le_of_ble_eq_true rfl, Nat.le_of_ble_eq_true rfl⟩) (ci := 9) rfl (zRC_ob hW.1) rfl hl.1 rfl (Nat.le_of_ble_eq_true rfl) dL_law_1019 ⟨by show _ ≤ 603072; omega, by show _ ≤ 7223402; omega⟩ (fun r1 M1 H locs hw h => ?_)
  obtain ⟨e1, hC⟩ := h
  obtain ⟨t1, hM⟩ := zLw_1 hW hC
  refine lv_aload_n hx hb dL_law_1022 rfl (lv_at hl 2 rfl) ?_
  refine lv_aload_n hx hb dL_law_1023 rfl (lv_at hl 0 rfl) ?_
  refine lv_iload hx hb dL_law_1024 (lv_at hl 4 rfl) ?_
  refine lv_iconst (v := (1 : Int32)) hx hb dL_law_1026 (by decide) ?_
  refine lv_iadd hx hb dL_law_1027 ?_
  refine va_sld hx hb hXs hbl hbA hw.2 h1 dL_law_1028 ?_
  refine zr_Vi (As := [.int (xs ((nI i) + (1 : Int32)).toNatClampNeg)]) (rest := [.int r1]) Sx hK hw (kX7_single l s.heap.size g M1 (B + 168) (xs ((nI i) + (1 : Int32)).toNatClampNeg) (fun r M2 => r = (zo_single S (xs ((nI i) + (1 : Int32)).toNatClampNeg)).1 ∧ zRM g.2 (B + 168) M1 M2 (zo_single S (xs ((nI i) + (1 : Int32)).toNatClampNeg)).2 0) (m7_single hM (fun M2 h2 => ⟨rfl, h2⟩))) (cwV 1 hts (zg_V zy_148 zy_149 zy_150 zu_450 zy_151) rfl rfl rfl (by decide +kernel) ⟨Nat.le_of_ble_eq_true rfl, Nat.le_of_ble_eq_true rfl⟩) (ci := 10) rfl (zRM_ob hM) rfl hl.1 rfl (Nat.le_of_ble_eq_true rfl) dL_law_1029 ⟨by show _ ≤ 603072; omega, by show _ ≤ 7223402; omega⟩ (fun r2 M2 H locs hw h => ?_)
  obtain ⟨e2, hM2⟩ := h
  refine lv_icmp_eq (tgt := 1318) hx hb dL_law_1032 (by decide) (fun hc => ?_) (fun hc => absurd (by rw [e1, e2]) hc)
  refine W.widen (k := 200 + (j + 1)) (n := 20000 + 6 * (j + 1)) (by omega) (by omega) ?_
  exact nx _ _ _ _ _ hw (zLw_2 hW hC hM2) hl
set_option maxHeartbeats 4000000 in
set_option maxRecDepth 100000 in
theorem zL_19 {p : Program} {l : Launch} {e : Env} {s : State} {m : MethodId} {below : List Frame} {meth : Method} {c : Code} {b L : Nat} {xs : Nat → Int32} (hL : L ≤ 2048) (hl9 : l.stackTraces = false) (C0 : lw_At p s m meth c b L xs) {g : zg} (hK : zk_K zNF zNM g s) (hX : zx_K s.heap.size g s s.heap) {B i j : Nat} (hi : i + 4 ≤ L) (hj : i = 4 * j) {S : zS} {M : zm_M} {H : Heap} {locs : List Loc} {ls : Array Slot} (hw : zW s.heap.size g s H locs M) (hW : zLw g.2 B M S) (hl : lv_has ls 8 [(0, .ref b), (1, .ref B), (2, .ref (B + 168)), (3, .ref (B + 178)), (4, .int (nI i))])
    (nx : ∀ (S : zS) (M : zm_M) (H : Heap) (locs : List Loc) (ls : Array Slot), zW s.heap.size g s H locs M → zLw g.2 B M S → lv_has ls 8 [(0, .ref b), (1, .ref B), (2, .ref (B + 168)), (3, .ref (B + 178)), (4, .int (nI i))] → W p l e room_1 s m #[Value.ref b] below meth c H locs (200 + (j + 1)) (20000 + 6 * (j + 1)) (lw_Z below #[Value.ref b] s) (F0 m 1318 ls [])) : W p l e room_1 s m #[Value.ref b] below meth c H locs (200 + j) (20000 + 6 * j) (lw_Z below #[Value.ref b] s) (F0 m 1037 ls []) := by
  obtain ⟨hx, hb, hr, hml, hown, hts0, hXs, hbl, hlocks, -⟩ := id C0
  have hown : s.vm.findClass RL = some m.cls := hown
  have hbA : ¬ zA s.heap.size b := Nat.not_le.mpr hbl
  have hts : ∀ w ∈ zU, w.before #[Value.ref b] s = true := fun w hw => hts0 w (List.mem_filter.mp hw).1
  have Sx : CallFix p m c cL_law 8 s #[Value.ref b] zU RL := ⟨hx, hb, hml, hown, hts⟩
  have h1 : vp_in (nI i + (1 : Int32)) L := zl_in hL (k := 1) hi (by decide)
  have h2 : vp_in (nI i + (2 : Int32)) L := zl_in hL (k := 2) hi (by decide)
  have h3 : vp_in (nI i + (3 : Int32)) L := zl_in hL (k := 3) hi (by decide)
  refine lv_aload_n hx hb dL_law_1037 rfl (lv_at hl 1 rfl) ?_
  refine lv_aload_n hx hb dL_law_1038 rfl (lv_at hl 0 rfl) ?_
  refine lv_iload hx hb dL_law_1039 (lv_at hl 4 rfl) ?_
  refine lv_iconst (v := (1 : Int32)) hx hb dL_law_1041 (by decide) ?_
  refine lv_iadd hx hb dL_law_1042 ?_
  refine va_sld hx hb hXs hbl hbA hw.2 h1 dL_law_1043 ?_
  refine lv_i2l hx hb dL_law_1044 rfl ?_
  refine lv_bipush (v := (32 : Int32)) hx hb dL_law_1045 (by decide) ?_
  refine lv_lshl hx hb dL_law_1047 rfl ?_
  refine lv_aload_n hx hb dL_law_1048 rfl (lv_at hl 0 rfl) ?_
  refine lv_iload hx hb dL_law_1049 (lv_at hl 4 rfl) ?_
  refine lv_iconst (v := (2 : Int32)) hx hb dL_law_1051 (by decide) ?_
  refine lv_iadd hx hb dL_law_1052 ?_
  refine va_sld hx hb hXs hbl hbA hw.2 h2 dL_law_1053 ?_
  refine lv_i2l hx hb dL_law_1054 rfl ?_
  refine lv_ldc2 (v := (4294967295 : Int64)) hx hb hown (hts _ zy_0) dL_law_1055 ?_
  refine lv_land hx hb dL_law_1058 ?_
  refine lv_lor hx hb dL_law_1059 ?_
  refine lv_aload_n hx hb dL_law_1060 rfl (lv_at hl 3 rfl) ?_
  refine zr_SXi (hh := [(0, 9, 12, 19)]) (As := [.ref B, .long (((xs ((nI i) + (1 : Int32)).toNatClampNeg).toInt64 <<< ((32 : Int32).toInt64 &&& 63)) ||| ((xs ((nI i) + (2 : Int32)).toNatClampNeg).toInt64 &&& (4294967295 : Int64))), .ref (B + 178)]) (rest := []) Sx hK hX hw (kL_ofReal l hl9 s.heap.size g M B (((xs ((nI i) + (1 : Int32)).toNatClampNeg).toInt64 <<< ((32 : Int32).toInt64 &&& 63)) ||| ((xs ((nI i) + (2 : Int32)).toNatClampNeg).toInt64 &&& (4294967295 : Int64))) (B + 178) (fun r M1 => zLh g.2 B M1 S (zo_ofReal S (((xs ((nI i) + (1 : Int32)).toNatClampNeg).toInt64 <<< ((32 : Int32).toInt64 &&& 63)) ||| ((xs ((nI i) + (2 : Int32)).toNatClampNeg).toInt64 &&& (4294967295 : Int64)))).2 ((zo_ofReal S (((xs ((nI i) + (1 : Int32)).toNatClampNeg).toInt64 <<< ((32 : Int32).toInt64 &&& 63)) ||| ((xs ((nI i) + (2 : Int32)).toNatClampNeg).toInt64 &&& (4294967295 : Int64)))).1.map Int32.toInt64) r) ⟨zRC_ob hW.1, c6_ofReal hW.1 (zLh_i hW).1 (zLh_i hW).2⟩) (vx_cwSW 3 hts (zg_S zy_152 zy_153 zy_11 zy_154) rfl rfl rfl (by decide +kernel) ⟨Nat.le_of_ble_eq_true rfl, Nat.le_of_ble_eq_true rfl⟩) rfl hl.1 rfl (Nat.le_of_ble_eq_true rfl) dL_law_1061 ⟨by show _ ≤ 603072; omega, by show _ ≤ 7223402; omega⟩ (fun r1 M1 H locs hw h => ?_)
  have hH := h
  obtain ⟨e1, -, ⟨t1, hM⟩, -⟩ := h
  refine lv_istore (lv' := [(5, .int r1), (0, .ref b), (1, .ref B), (2, .ref (B + 168)), (3, .ref (B + 178)), (4, .int (nI i))]) hx hb dL_law_1064 hl (by decide) rfl (fun ls hl => ?_)
  refine lv_aload_n hx hb dL_law_1066 rfl (lv_at hl 3 rfl) ?_
  refine lv_aload_n hx hb dL_law_1067 rfl (lv_at hl 1 rfl) ?_
  refine lv_iload hx hb dL_law_1068 (lv_at hl 5 rfl) ?_
  refine lv_iconst (v := (1 : Int32)) hx hb dL_law_1070 (by decide) ?_
  refine lv_iadd hx hb dL_law_1071 ?_
  refine va_sld hx hb hXs hbl hbA hw.2 h1 dL_law_1072 ?_
  refine lv_i2l hx hb dL_law_1073 rfl ?_
  refine lv_bipush (v := (32 : Int32)) hx hb dL_law_1074 (by decide) ?_
  refine lv_lshl hx hb dL_law_1076 rfl ?_
  refine lv_aload_n hx hb dL_law_1077 rfl (lv_at hl 1 rfl) ?_
  refine lv_iload hx hb dL_law_1078 (lv_at hl 5 rfl) ?_
  refine lv_iconst (v := (2 : Int32)) hx hb dL_law_1080 (by decide) ?_
  refine lv_iadd hx hb dL_law_1081 ?_
  refine va_sld hx hb hXs hbl hbA hw.2 h2 dL_law_1082 ?_
  refine lv_i2l hx hb dL_law_1083 rfl ?_
  refine lv_ldc2 (v := (4294967295 : Int64)) hx hb hown (hts _ zy_0) dL_law_1084 ?_
  refine lv_land hx hb dL_law_1087 ?_
  refine lv_lor hx hb dL_law_1088 ?_
  refine zr_Vi (As := [.long (((xs ((nI i) + (1 : Int32)).toNatClampNeg).toInt64 <<< ((32 : Int32).toInt64 &&& 63)) ||| ((xs ((nI i) + (2 : Int32)).toNatClampNeg).toInt64 &&& (4294967295 : Int64)))]) (rest := []) Sx hK hw (kX7_ofReal l s.heap.size g M1 (B + 168) (((xs ((nI i) + (1 : Int32)).toNatClampNeg).toInt64 <<< ((32 : Int32).toInt64 &&& 63)) ||| ((xs ((nI i) + (2 : Int32)).toNatClampNeg).toInt64 &&& (4294967295 : Int64))) (fun r M2 => r = (zo_ofReal S (((xs ((nI i) + (1 : Int32)).toNatClampNeg).toInt64 <<< ((32 : Int32).toInt64 &&& 63)) ||| ((xs ((nI i) + (2 : Int32)).toNatClampNeg).toInt64 &&& (4294967295 : Int64)))).1.getD 0 ∧ zRM g.2 (B + 168) M1 M2 (zo_ofReal S (((xs ((nI i) + (1 : Int32)).toNatClampNeg).toInt64 <<< ((32 : Int32).toInt64 &&& 63)) ||| ((xs ((nI i) + (2 : Int32)).toNatClampNeg).toInt64 &&& (4294967295 : Int64)))).2 (zth (zo_ofReal S (((xs ((nI i) + (1 : Int32)).toNatClampNeg).toInt64 <<< ((32 : Int32).toInt64 &&& 63)) ||| ((xs ((nI i) + (2 : Int32)).toNatClampNeg).toInt64 &&& (4294967295 : Int64)))).1)) (m7_ofReal hM (fun M2 h2 => ⟨rfl, h2⟩))) (cwV 1 hts (zg_V zy_155 zy_156 zy_157 zu_450 zy_158) rfl rfl rfl (by decide +kernel) ⟨Nat.le_of_ble_eq_true rfl, Nat.le_of_ble_eq_true rfl⟩) (ci := 10) rfl (zRM_ob hM) rfl hl.1 rfl (Nat.le_of_ble_eq_true rfl) dL_law_1089 ⟨by show _ ≤ 603072; omega, by show _ ≤ 7223402; omega⟩ (fun r2 M2 H locs hw h => ?_)
  obtain ⟨e2, hM2⟩ := h
  refine lv_istore (lv' := [(6, .int r2), (5, .int r1), (0, .ref b), (1, .ref B), (2, .ref (B + 168)), (3, .ref (B + 178)), (4, .int (nI i))]) hx hb dL_law_1092 hl (by decide) rfl (fun ls hl => ?_)
  refine lv_aload_n hx hb dL_law_1094 rfl (lv_at hl 4 rfl) ?_
  refine zr_Vi (As := []) (rest := []) Sx hK hw (kX7_thrown l s.heap.size g M2 (B + 168) (fun r M3 => r = zth (zo_ofReal S (((xs ((nI i) + (1 : Int32)).toNatClampNeg).toInt64 <<< ((32 : Int32).toInt64 &&& 63)) ||| ((xs ((nI i) + (2 : Int32)).toNatClampNeg).toInt64 &&& (4294967295 : Int64)))).1 ∧ M3 = M2) (m7_thrown hM2 ⟨rfl, rfl⟩)) (cwV 0 hts (zg_V zy_17 zy_18 zy_19 zu_450 zy_20) rfl rfl rfl (by decide +kernel) ⟨Nat.le_of_ble_eq_true rfl, Nat.le_of_ble_eq_true rfl⟩) (ci := 10) rfl (zRM_ob hM2) rfl hl.1 rfl (Nat.le_of_ble_eq_true rfl) dL_law_1095 ⟨by show _ ≤ 603072; omega, by show _ ≤ 7223402; omega⟩ (fun r3 M3 H locs hw h => ?_)
  obtain ⟨e3, hM3⟩ := h
  rw [hM3] at hw
  obtain ⟨hW2, f9, hf9, hv9⟩ := zLh_2 hH hM2
  refine lv_iload hx hb dL_law_1098 (lv_at hl 1 rfl) ?_
  refine lv_icmp_eq (tgt := 1105) hx hb dL_law_1100 (by decide) (fun hc => ?_) (fun hc => absurd (by rw [e3, e1, zth_m]) hc)
  refine lv_iload hx hb dL_law_1105 (lv_at hl 1 rfl) ?_
  refine lv_if_ne (tgt := 1122) hx hb dL_law_1107 (by decide) (fun hn => ?_) (fun hn => ?_)
  · refine lv_goto (tgt := 1318) hx hb dL_law_1122 (by decide) ?_
    refine W.widen (k := 200 + (j + 1)) (n := 20000 + 6 * (j + 1)) (by omega) (by omega) ?_
    exact nx _ _ _ _ _ hw hW2 (lv_sub hl [2, 3, 4, 5, 6] rfl)
  · refine lv_aload_n hx hb dL_law_1110 rfl (lv_at hl 5 rfl) ?_
    refine lv_iconst (v := (0 : Int32)) hx hb dL_law_1111 (by decide) ?_
    have hq : zw_ll (g.2 3) M2 (B + 178) (0 : Int32) (fun x => x = f9 0) := ⟨1, f9, hf9, vp_in_nI (n := 0) (N := 1) (by decide) (by decide), rfl⟩
    refine zr_lald Sx hK hw dL_law_1112 hq (fun x9 e9 => ?_)
    refine lv_iload hx hb dL_law_1113 (lv_at hl 0 rfl) ?_
    refine lv_i2l hx hb dL_law_1115 rfl ?_
    refine W.lcmp hx hb dL_law_1116 ?_
    have hs : x9 = r2.toInt64 := by
      obtain ⟨v, hv⟩ := zth_0 ((zth_m.symm.trans e1.symm).trans hn)
      rw [e9, hv9 v.toInt64 (by rw [hv]; rfl), e2, hv]
      rfl
    refine lv_if_eq (tgt := 1122) hx hb dL_law_1117 (by decide) (fun hc => ?_) (fun hc => absurd (zc_eq.mpr hs) hc)
    refine lv_goto (tgt := 1318) hx hb dL_law_1122 (by decide) ?_
    refine W.widen (k := 200 + (j + 1)) (n := 20000 + 6 * (j + 1)) (by omega) (by omega) ?_
    exact nx _ _ _ _ _ hw hW2 (lv_sub hl [2, 3, 4, 5, 6] rfl)
