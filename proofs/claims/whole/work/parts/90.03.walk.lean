/-! THE EIGHT CALLS THAT MAY THROW: their contracts -/
set_option maxHeartbeats 4000000 in
set_option maxRecDepth 100000 in
theorem kX6_shifted (l : Launch) (hl9 : l.stackTraces = false) (lo : Nat) (g : zg) (M : zm_M) (a0 : Nat) (a1 : Int32) (post : Int32 → zm_M → Prop) (px : zm_M → Prop) (h : pX6_shifted g.2 a0 a1 post px M) : vx_Met l yX6_shifted (Cond.code yX6_shifted cX6_shifted 2 (some .int) :: zU) (({ frames := 8, cells := 1, slots := 6, locals := 197 } : Room)) (zx_P zNF zNM lo g M [.ref a0, .int a1]) (va_Qi post (zc_B lo g) (zA lo)) (vx_X px (zx_B lo g zxE2) (zA lo)) 1 6 (zA lo) := by
  refine vx_ofW (cc := cX6_shifted) (maxL := 2) (ret := (some .int)) (by decide) rfl ?_
  intro p e s m args below meth c s₁ B hml hno hv
  obtain ⟨rfl, hR, hK, hX⟩ := hv
  have hts := atoms_spec (ws := Cond.code yX6_shifted cX6_shifted 2 (some .int) :: zU) B.pre
  have hts : ∀ w ∈ zU, w.before _ s = true := fun w hw => hts w (List.mem_cons_of_mem _ hw)
  have hown : s.vm.findClass RX6 = some m.cls := findClass_of_methodNamed B.named
  have hx := B.exec
  have hb := B.bytes
  have hr := B.returns
  have hlocks := B.notSynchronized
  have S : CallFix p m c cX6_shifted 2 s ([.ref a0, .int a1] : List Value).toArray zU RX6 := ⟨hx, hb, hml, hown, hts⟩
  have hw : zW lo g s s.heap [] M := ⟨hR, va_S.rf⟩
  have hl := lv_entry ([.ref a0, .int a1]) (n := 2) (Nat.le_of_ble_eq_true rfl)
  rw [lg_entry_eq]
  generalize (lg_sl ([.ref a0, .int a1]) ++ List.replicate (2 - (lg_sl ([.ref a0, .int a1])).length) Slot.unset).toArray = ls at hl ⊢
  have hl : lv_has ls 2 [(0, .ref a0), (1, .int a1)] := hl
  unfold pX6_shifted at h
  refine lv_iload_n hx hb dX6_shifted_0 rfl (lv_at hl 1 rfl) ?_
  refine lv_if_ge (tgt := 14) hx hb dX6_shifted_1 (by decide) (fun hc => ?_) (fun hc => ?_)
  · have h := h.1 hc
    refine lv_aload_n hx hb dX6_shifted_14 rfl (lv_at hl 0 rfl) ?_
    obtain ⟨ho, h⟩ := h
    refine zr_Vi (As := []) (rest := []) S hK hw (kX6_isFull l lo g M a0  _ h) (cwV 0 hts (zg_V zu_300 zu_301 zu_302 zu_303 zu_304) rfl rfl rfl (by decide +kernel) ⟨Nat.le_of_ble_eq_true rfl, Nat.le_of_ble_eq_true rfl⟩) (ci := 9) rfl ho rfl hl.1 rfl (Nat.le_of_ble_eq_true rfl) dX6_shifted_15 ⟨Nat.le_of_ble_eq_true rfl, Nat.le_of_ble_eq_true rfl⟩ (fun r2 M1 H locs hw h => ?_)
    refine lv_if_eq (tgt := 24) hx hb dX6_shifted_18 (by decide) (fun hc => ?_) (fun hc => ?_)
    · have h := h.1 hc
      refine lv_iload_n hx hb dX6_shifted_24 rfl (lv_at hl 1 rfl) ?_
      refine lv_bipush (v := (16 : Int32)) hx hb dX6_shifted_25 (by decide) ?_
      refine lv_icmp_lt (tgt := 33) hx hb dX6_shifted_27 (by decide) (fun hc => ?_) (fun hc => ?_)
      · have h := h.1 hc
        refine lv_aload_n hx hb dX6_shifted_33 rfl (lv_at hl 0 rfl) ?_
        refine zr_ga (C := RX6) (T := TX6) (N := 7) (ci := 9) (k := 3) S hK hw zi_X6 rfl (by decide) zu_285 dX6_shifted_34 h (fun bench_3 h => ?_)
        refine zr_gaN (C := RX0) (T := TX0) (N := 5) (ci := 3) (k := 0) (host := "LeastTerms") S hK hw zi_X0 rfl (by decide) (by decide +kernel) dX6_shifted_37 h (fun result_4 h => ?_)
        refine lv_iconst (v := (1 : Int32)) hx hb dX6_shifted_40 (by decide) ?_
        refine lv_lconst (v := (1 : Int64)) hx hb dX6_shifted_41 (by decide) ?_
        obtain ⟨ho, h⟩ := h
        refine zr_Vv (As := [.int (1 : Int32), .long (1 : Int64)]) (rest := []) S hK hw (kX2_become l lo g M1 result_4 (1 : Int32) (1 : Int64) _ h) (cwV 2 hts (zg_V zu_305 zu_97 zu_98 zu_99 zu_100) rfl rfl rfl (by decide +kernel) ⟨Nat.le_of_ble_eq_true rfl, Nat.le_of_ble_eq_true rfl⟩) (ci := 5) rfl ho rfl hl.1 rfl (Nat.le_of_ble_eq_true rfl) dX6_shifted_42 ⟨Nat.le_of_ble_eq_true rfl, Nat.le_of_ble_eq_true rfl⟩ (fun M5 H locs hw h => ?_)
        refine lv_aload_n hx hb dX6_shifted_45 rfl (lv_at hl 0 rfl) ?_
        refine zr_ga (C := RX6) (T := TX6) (N := 7) (ci := 9) (k := 3) S hK hw zi_X6 rfl (by decide) zu_285 dX6_shifted_46 h (fun bench_6 h => ?_)
        refine zr_gaN (C := RX0) (T := TX0) (N := 5) (ci := 3) (k := 0) (host := "LeastTerms") S hK hw zi_X0 rfl (by decide) (by decide +kernel) dX6_shifted_49 h (fun result_7 h => ?_)
        refine zr_gaN (C := RX2) (T := TX2) (N := 3) (ci := 5) (k := 1) (host := "LeastTerms") S hK hw zi_X2 rfl (by decide) (by decide +kernel) dX6_shifted_52 h (fun top_8 h => ?_)
        refine lv_bipush (v := (32 : Int32)) hx hb dX6_shifted_55 (by decide) ?_
        refine lv_iload_n hx hb dX6_shifted_57 rfl (lv_at hl 1 rfl) ?_
        refine lv_imul hx hb dX6_shifted_58 ?_
        obtain ⟨ho, h⟩ := h
        refine zr_Vv (As := [.int ((32 : Int32) * a1)]) (rest := []) S hK hw (kX5_shiftLeft l lo g M5 top_8 ((32 : Int32) * a1) _ h) (cwV 1 hts (zg_V zu_310 zu_146 zu_147 zu_12 zu_148) rfl rfl rfl (by decide +kernel) ⟨Nat.le_of_ble_eq_true rfl, Nat.le_of_ble_eq_true rfl⟩) (ci := 8) rfl ho rfl hl.1 rfl (Nat.le_of_ble_eq_true rfl) dX6_shifted_59 ⟨Nat.le_of_ble_eq_true rfl, Nat.le_of_ble_eq_true rfl⟩ (fun M9 H locs hw h => ?_)
        refine lv_aload_n hx hb dX6_shifted_62 rfl (lv_at hl 0 rfl) ?_
        obtain ⟨ho, h⟩ := h
        refine zr_Vi (As := []) (rest := []) S hK hw (kX6_keep l lo g M9 a0  _ h) (cwV 0 hts (zg_V zu_306 zu_307 zu_308 zu_303 zu_309) rfl rfl rfl (by decide +kernel) ⟨Nat.le_of_ble_eq_true rfl, Nat.le_of_ble_eq_true rfl⟩) (ci := 9) rfl ho rfl hl.1 rfl (Nat.le_of_ble_eq_true rfl) dX6_shifted_63 ⟨Nat.le_of_ble_eq_true rfl, Nat.le_of_ble_eq_true rfl⟩ (fun r11 M10 H locs hw h => ?_)
        exact vx_ret (W.widen (k := 1) (n := 6) (by decide) (by decide) (zr_ri S hr hlocks hw h dX6_shifted_66))
      · have h := h.2 hc
        refine lv_bipush (v := (-4 : Int32)) hx hb dX6_shifted_30 (by decide) ?_
        exact vx_ret (W.widen (k := 1) (n := 6) (by decide) (by decide) (zr_ri S hr hlocks hw h dX6_shifted_32))
    · have h := h.2 hc
      refine lv_bipush (v := (-3 : Int32)) hx hb dX6_shifted_21 (by decide) ?_
      exact vx_ret (W.widen (k := 1) (n := 6) (by decide) (by decide) (zr_ri S hr hlocks hw h dX6_shifted_23))
  · have h := h.2 hc
    exact zr_thr (cls := zxE2) (names := zxN1) (text := "a row of less than no limbs") S hl9 hno hlocks hX hw hl.1 (by decide +kernel) (by decide +kernel) zv_677 zv_678 (by decide) (zx_h2 S hX) zx_g2 dX6_shifted_4 dX6_shifted_7 dX6_shifted_8 dX6_shifted_10 dX6_shifted_13 (Nat.le_of_ble_eq_true rfl) (Nat.le_of_ble_eq_true rfl) (Nat.le_of_ble_eq_true rfl) (Nat.le_of_ble_eq_true rfl) h
set_option maxHeartbeats 4000000 in
set_option maxRecDepth 100000 in
theorem kX6_over (l : Launch) (hl9 : l.stackTraces = false) (lo : Nat) (g : zg) (M : zm_M) (a0 : Nat) (a1 : Int32) (a2 : Int32) (post : Int32 → zm_M → Prop) (px : zm_M → Prop) (h : pX6_over g.2 a0 a1 a2 post px M) : vx_Met l yX6_over (Cond.code yX6_over cX6_over 5 (some .int) :: zU) (({ frames := 8, cells := 1, slots := 6, locals := 197 } : Room)) (zx_P zNF zNM lo g M [.ref a0, .int a1, .int a2]) (va_Qi post (zc_B lo g) (zA lo)) (vx_X px (zx_B lo g zxE1) (zA lo)) 1 6 (zA lo) := by
  refine vx_ofW (cc := cX6_over) (maxL := 5) (ret := (some .int)) (by decide) rfl ?_
  intro p e s m args below meth c s₁ B hml hno hv
  obtain ⟨rfl, hR, hK, hX⟩ := hv
  have hts := atoms_spec (ws := Cond.code yX6_over cX6_over 5 (some .int) :: zU) B.pre
  have hts : ∀ w ∈ zU, w.before _ s = true := fun w hw => hts w (List.mem_cons_of_mem _ hw)
  have hown : s.vm.findClass RX6 = some m.cls := findClass_of_methodNamed B.named
  have hx := B.exec
  have hb := B.bytes
  have hr := B.returns
  have hlocks := B.notSynchronized
  have S : CallFix p m c cX6_over 5 s ([.ref a0, .int a1, .int a2] : List Value).toArray zU RX6 := ⟨hx, hb, hml, hown, hts⟩
  have hw : zW lo g s s.heap [] M := ⟨hR, va_S.rf⟩
  have hl := lv_entry ([.ref a0, .int a1, .int a2]) (n := 5) (Nat.le_of_ble_eq_true rfl)
  rw [lg_entry_eq]
  generalize (lg_sl ([.ref a0, .int a1, .int a2]) ++ List.replicate (5 - (lg_sl ([.ref a0, .int a1, .int a2])).length) Slot.unset).toArray = ls at hl ⊢
  have hl : lv_has ls 5 [(0, .ref a0), (1, .int a1), (2, .int a2)] := hl
  unfold pX6_over at h
  refine lv_aload_n hx hb dX6_over_0 rfl (lv_at hl 0 rfl) ?_
  refine lv_iload_n hx hb dX6_over_1 rfl (lv_at hl 1 rfl) ?_
  obtain ⟨ho, h⟩ := h
  refine zr_Vq (As := [.int a1]) (rest := []) S hK hw (kX6_find l lo g M a0 a1 _ h) (cwV 1 hts (zg_V zu_311 zu_312 zu_313 zu_303 zu_314) rfl rfl rfl (by decide +kernel) ⟨Nat.le_of_ble_eq_true rfl, Nat.le_of_ble_eq_true rfl⟩) (ci := 9) rfl ho rfl hl.1 rfl (Nat.le_of_ble_eq_true rfl) dX6_over_2 ⟨Nat.le_of_ble_eq_true rfl, Nat.le_of_ble_eq_true rfl⟩ (fun r2 M1 H locs hw h => ?_)
  rcases r2 with _ | y3
  · have h := h.1 rfl
    refine lv_astore_nN (lv' := [(3, .null), (0, .ref a0), (1, .int a1), (2, .int a2)]) hx hb dX6_over_5 rfl hl (by decide) rfl (fun ls hl => ?_)
    refine lv_aload_n hx hb dX6_over_6 rfl (lv_at hl 1 rfl) ?_
    refine lv_iload_n hx hb dX6_over_7 rfl (lv_at hl 3 rfl) ?_
    obtain ⟨ho, h⟩ := h
    refine zr_Vq (As := [.int a2]) (rest := []) S hK hw (kX6_find l lo g M1 a0 a2 _ h) (cwV 1 hts (zg_V zu_311 zu_312 zu_313 zu_303 zu_314) rfl rfl rfl (by decide +kernel) ⟨Nat.le_of_ble_eq_true rfl, Nat.le_of_ble_eq_true rfl⟩) (ci := 9) rfl ho rfl hl.1 rfl (Nat.le_of_ble_eq_true rfl) dX6_over_8 ⟨Nat.le_of_ble_eq_true rfl, Nat.le_of_ble_eq_true rfl⟩ (fun r5 M4 H locs hw h => ?_)
    rcases r5 with _ | y6
    · have h := h.1 rfl
      refine lv_astoreN (lv' := [(4, .null), (3, .null), (0, .ref a0), (1, .int a1), (2, .int a2)]) hx hb dX6_over_11 hl (by decide) rfl (fun ls hl => ?_)
      refine lv_aload_nN hx hb dX6_over_13 rfl (lv_at hl 1 rfl) ?_
      refine lv_ifnullN (tgt := 22) hx hb dX6_over_14 (by decide) ?_
      refine lv_iconst (v := (-1 : Int32)) hx hb dX6_over_22 (by decide) ?_
      exact vx_ret (W.widen (k := 1) (n := 6) (by decide) (by decide) (zr_ri S hr hlocks hw h dX6_over_23))
    · have h := h.2 y6 rfl
      refine lv_astore (lv' := [(4, .ref y6), (3, .null), (0, .ref a0), (1, .int a1), (2, .int a2)]) hx hb dX6_over_11 hl (by decide) rfl (fun ls hl => ?_)
      refine lv_aload_nN hx hb dX6_over_13 rfl (lv_at hl 1 rfl) ?_
      refine lv_ifnullN (tgt := 22) hx hb dX6_over_14 (by decide) ?_
      refine lv_iconst (v := (-1 : Int32)) hx hb dX6_over_22 (by decide) ?_
      exact vx_ret (W.widen (k := 1) (n := 6) (by decide) (by decide) (zr_ri S hr hlocks hw h dX6_over_23))
  · have h := h.2 y3 rfl
    refine lv_astore_n (lv' := [(3, .ref y3), (0, .ref a0), (1, .int a1), (2, .int a2)]) hx hb dX6_over_5 rfl hl (by decide) rfl (fun ls hl => ?_)
    refine lv_aload_n hx hb dX6_over_6 rfl (lv_at hl 1 rfl) ?_
    refine lv_iload_n hx hb dX6_over_7 rfl (lv_at hl 3 rfl) ?_
    obtain ⟨ho, h⟩ := h
    refine zr_Vq (As := [.int a2]) (rest := []) S hK hw (kX6_find l lo g M1 a0 a2 _ h) (cwV 1 hts (zg_V zu_311 zu_312 zu_313 zu_303 zu_314) rfl rfl rfl (by decide +kernel) ⟨Nat.le_of_ble_eq_true rfl, Nat.le_of_ble_eq_true rfl⟩) (ci := 9) rfl ho rfl hl.1 rfl (Nat.le_of_ble_eq_true rfl) dX6_over_8 ⟨Nat.le_of_ble_eq_true rfl, Nat.le_of_ble_eq_true rfl⟩ (fun r8 M7 H locs hw h => ?_)
    rcases r8 with _ | y9
    · have h := h.1 rfl
      refine lv_astoreN (lv' := [(4, .null), (3, .ref y3), (0, .ref a0), (1, .int a1), (2, .int a2)]) hx hb dX6_over_11 hl (by decide) rfl (fun ls hl => ?_)
      refine lv_aload_n hx hb dX6_over_13 rfl (lv_at hl 1 rfl) ?_
      refine lv_ifnull hx hb dX6_over_14 ?_
      refine lv_aloadN hx hb dX6_over_17 (lv_at hl 0 rfl) ?_
      refine lv_ifnonnullN hx hb dX6_over_19 ?_
      refine lv_iconst (v := (-1 : Int32)) hx hb dX6_over_22 (by decide) ?_
      exact vx_ret (W.widen (k := 1) (n := 6) (by decide) (by decide) (zr_ri S hr hlocks hw h dX6_over_23))
    · have h := h.2 y9 rfl
      refine lv_astore (lv' := [(4, .ref y9), (3, .ref y3), (0, .ref a0), (1, .int a1), (2, .int a2)]) hx hb dX6_over_11 hl (by decide) rfl (fun ls hl => ?_)
      refine lv_aload_n hx hb dX6_over_13 rfl (lv_at hl 1 rfl) ?_
      refine lv_ifnull hx hb dX6_over_14 ?_
      refine lv_aload hx hb dX6_over_17 (lv_at hl 0 rfl) ?_
      refine lv_ifnonnull (tgt := 24) hx hb dX6_over_19 (by decide) ?_
      refine lv_aload hx hb dX6_over_24 (lv_at hl 0 rfl) ?_
      refine zr_giN (C := RX2) (T := TX2) (N := 3) (ci := 5) (k := 0) (host := "LeastTerms") S hK hw zi_X2 rfl (by decide) (by decide +kernel) dX6_over_26 h (fun sign_10 h => ?_)
      refine lv_if_ne (tgt := 42) hx hb dX6_over_29 (by decide) (fun hc => ?_) (fun hc => ?_)
      · have h := h.1 hc
        refine lv_aload_n hx hb dX6_over_42 rfl (lv_at hl 2 rfl) ?_
        obtain ⟨ho, h⟩ := h
        refine zr_Vi (As := []) (rest := []) S hK hw (kX6_isFull l lo g M7 a0  _ h) (cwV 0 hts (zg_V zu_300 zu_301 zu_302 zu_303 zu_304) rfl rfl rfl (by decide +kernel) ⟨Nat.le_of_ble_eq_true rfl, Nat.le_of_ble_eq_true rfl⟩) (ci := 9) rfl ho rfl hl.1 rfl (Nat.le_of_ble_eq_true rfl) dX6_over_43 ⟨Nat.le_of_ble_eq_true rfl, Nat.le_of_ble_eq_true rfl⟩ (fun r12 M11 H locs hw h => ?_)
        refine lv_if_eq (tgt := 52) hx hb dX6_over_46 (by decide) (fun hc => ?_) (fun hc => ?_)
        · have h := h.1 hc
          refine lv_aload_n hx hb dX6_over_52 rfl (lv_at hl 2 rfl) ?_
          refine zr_ga (C := RX6) (T := TX6) (N := 7) (ci := 9) (k := 3) S hK hw zi_X6 rfl (by decide) zu_285 dX6_over_53 h (fun bench_13 h => ?_)
          refine lv_aload_n hx hb dX6_over_56 rfl (lv_at hl 1 rfl) ?_
          refine lv_aload hx hb dX6_over_57 (lv_at hl 0 rfl) ?_
          obtain ⟨ho, h⟩ := h
          refine zr_Vv (As := [.ref y3, .ref y9]) (rest := []) S hK hw (kX0_quotientOf l lo g M11 bench_13 y3 y9 _ h) (cwV 2 hts (zg_V zu_315 zu_316 zu_317 zu_90 zu_318) rfl rfl rfl (by decide +kernel) ⟨Nat.le_of_ble_eq_true rfl, Nat.le_of_ble_eq_true rfl⟩) (ci := 3) rfl ho rfl hl.1 rfl (Nat.le_of_ble_eq_true rfl) dX6_over_59 ⟨Nat.le_of_ble_eq_true rfl, Nat.le_of_ble_eq_true rfl⟩ (fun M14 H locs hw h => ?_)
          refine lv_aload_n hx hb dX6_over_62 rfl (lv_at hl 2 rfl) ?_
          obtain ⟨ho, h⟩ := h
          refine zr_Vi (As := []) (rest := []) S hK hw (kX6_keep l lo g M14 a0  _ h) (cwV 0 hts (zg_V zu_306 zu_307 zu_308 zu_303 zu_309) rfl rfl rfl (by decide +kernel) ⟨Nat.le_of_ble_eq_true rfl, Nat.le_of_ble_eq_true rfl⟩) (ci := 9) rfl ho rfl hl.1 rfl (Nat.le_of_ble_eq_true rfl) dX6_over_63 ⟨Nat.le_of_ble_eq_true rfl, Nat.le_of_ble_eq_true rfl⟩ (fun r16 M15 H locs hw h => ?_)
          exact vx_ret (W.widen (k := 1) (n := 6) (by decide) (by decide) (zr_ri S hr hlocks hw h dX6_over_66))
        · have h := h.2 hc
          refine lv_bipush (v := (-3 : Int32)) hx hb dX6_over_49 (by decide) ?_
          exact vx_ret (W.widen (k := 1) (n := 6) (by decide) (by decide) (zr_ri S hr hlocks hw h dX6_over_51))
      · have h := h.2 hc
        exact zr_thr (cls := zxE1) (names := zxN1) (text := "the divisor is 0") S hl9 hno hlocks hX hw hl.1 (by decide +kernel) (by decide +kernel) zv_679 zv_680 (by decide) (zx_h1 S hX) zx_g1 dX6_over_32 dX6_over_35 dX6_over_36 dX6_over_38 dX6_over_41 (Nat.le_of_ble_eq_true rfl) (Nat.le_of_ble_eq_true rfl) (Nat.le_of_ble_eq_true rfl) (Nat.le_of_ble_eq_true rfl) h
set_option maxHeartbeats 4000000 in
set_option maxRecDepth 100000 in
theorem sX6_apply_160 {p : Program} {l : Launch} {e : Env} {s : State} {m : MethodId} {args : Array Value} {below : List Frame} {meth : Method} {c : Code} {lo : Nat} {g : zg} {px : zm_M → Prop} {post : Int32 → zm_M → Prop}  (S : CallFix p m c cX6_apply 6 s args zU RX6) (hr : meth.sig.returnType = (some .int)) (hlocks : meth.locks = false) (hK : zk_K zNF zNM g s) (hl9 : l.stackTraces = false) (hno : ∀ x ∈ c.exceptionTable.toList, False) (hX : zx_K lo g s s.heap)  : ∀ (v0 : Nat) (M : zm_M), pX6_apply_160 g.2 post px  v0 M → ∀ (H : Heap) (locs : List Loc) (ls : Array Slot), zW lo g s H locs M → lv_has ls 6 [(0, .ref v0)] → W p l e ({ frames := 8, cells := 1, slots := 6, locals := 197 } : Room) s m args below meth c H locs 0 0 (vx_MQ below (va_Qi post (zc_B lo g) (zA lo)) (vx_X px (zx_B lo g zxE1) (zA lo)) args s 1 6 (zA lo)) (F0 m 160 ls []) := by
  obtain ⟨hx, hb, hml, hown, hts⟩ := id S
  intro v0 M h H locs ls hw hl
  unfold pX6_apply_160 at h
  refine lv_aload_n hx hb dX6_apply_160 rfl (lv_at hl 0 rfl) ?_
  obtain ⟨ho, h⟩ := h
  refine zr_Vi (As := []) (rest := []) S hK hw (kX6_keep l lo g M v0  _ h) (cwV 0 hts (zg_V zu_306 zu_307 zu_308 zu_303 zu_309) rfl rfl rfl (by decide +kernel) ⟨Nat.le_of_ble_eq_true rfl, Nat.le_of_ble_eq_true rfl⟩) (ci := 9) rfl ho rfl hl.1 rfl (Nat.le_of_ble_eq_true rfl) dX6_apply_161 ⟨Nat.le_of_ble_eq_true rfl, Nat.le_of_ble_eq_true rfl⟩ (fun r15 M14 H locs hw h => ?_)
  exact vx_ret (W.widen (k := 1) (n := 6) (by decide) (by decide) (zr_ri S hr hlocks hw h dX6_apply_164))
set_option maxHeartbeats 4000000 in
set_option maxRecDepth 100000 in
theorem sX6_apply_58 {p : Program} {l : Launch} {e : Env} {s : State} {m : MethodId} {args : Array Value} {below : List Frame} {meth : Method} {c : Code} {lo : Nat} {g : zg} {px : zm_M → Prop} {post : Int32 → zm_M → Prop}  (S : CallFix p m c cX6_apply 6 s args zU RX6) (hr : meth.sig.returnType = (some .int)) (hlocks : meth.locks = false) (hK : zk_K zNF zNM g s) (hl9 : l.stackTraces = false) (hno : ∀ x ∈ c.exceptionTable.toList, False) (hX : zx_K lo g s s.heap)  : ∀ (v0 : Nat) (v1 : Int32) (v4 : Nat) (v5 : Nat) (M : zm_M), pX6_apply_58 g.2 post px  v0 v1 v4 v5 M → ∀ (H : Heap) (locs : List Loc) (ls : Array Slot), zW lo g s H locs M → lv_has ls 6 [(0, .ref v0), (1, .int v1), (4, .ref v4), (5, .ref v5)] → W p l e ({ frames := 8, cells := 1, slots := 6, locals := 197 } : Room) s m args below meth c H locs 0 0 (vx_MQ below (va_Qi post (zc_B lo g) (zA lo)) (vx_X px (zx_B lo g zxE1) (zA lo)) args s 1 6 (zA lo)) (F0 m 58 ls []) := by
  obtain ⟨hx, hb, hml, hown, hts⟩ := id S
  intro v0 v1 v4 v5 M h H locs ls hw hl
  unfold pX6_apply_58 at h
  refine lv_aload_n hx hb dX6_apply_58 rfl (lv_at hl 0 rfl) ?_
  obtain ⟨ho, h⟩ := h
  refine zr_Vi (As := []) (rest := []) S hK hw (kX6_isFull l lo g M v0  _ h) (cwV 0 hts (zg_V zu_300 zu_301 zu_302 zu_303 zu_304) rfl rfl rfl (by decide +kernel) ⟨Nat.le_of_ble_eq_true rfl, Nat.le_of_ble_eq_true rfl⟩) (ci := 9) rfl ho rfl hl.1 rfl (Nat.le_of_ble_eq_true rfl) dX6_apply_59 ⟨Nat.le_of_ble_eq_true rfl, Nat.le_of_ble_eq_true rfl⟩ (fun r11 M10 H locs hw h => ?_)
  refine lv_if_eq (tgt := 68) hx hb dX6_apply_62 (by decide) (fun hc => ?_) (fun hc => ?_)
  · have h := h.1 hc
    refine lv_iload_n hx hb dX6_apply_68 rfl (lv_at hl 1 rfl) ?_
    by_cases hd : v1.toInt < 0 ∨ 2 < v1.toInt
    · refine lv_tableOut (tgt := 149) hx hb dX6_apply_69 hd (by decide) ?_
      have h := h.1 hd
      refine lv_aload_n hx hb dX6_apply_149 rfl (lv_at hl 0 rfl) ?_
      refine zr_ga (C := RX6) (T := TX6) (N := 7) (ci := 9) (k := 3) S hK hw zi_X6 rfl (by decide) zu_285 dX6_apply_150 h (fun bench_12 h => ?_)
      refine lv_aload hx hb dX6_apply_153 (lv_at hl 2 rfl) ?_
      refine lv_aload hx hb dX6_apply_155 (lv_at hl 3 rfl) ?_
      obtain ⟨ho, h⟩ := h
      refine zr_Vv (As := [.ref v4, .ref v5]) (rest := []) S hK hw (kX0_restOf l lo g M10 bench_12 v4 v5 _ h) (cwV 2 hts (zg_V zu_319 zu_320 zu_321 zu_90 zu_322) rfl rfl rfl (by decide +kernel) ⟨Nat.le_of_ble_eq_true rfl, Nat.le_of_ble_eq_true rfl⟩) (ci := 3) rfl ho rfl hl.1 rfl (Nat.le_of_ble_eq_true rfl) dX6_apply_157 ⟨Nat.le_of_ble_eq_true rfl, Nat.le_of_ble_eq_true rfl⟩ (fun M13 H locs hw h => ?_)
      exact sX6_apply_160 S hr hlocks hK hl9 hno hX  v0 _ h _ _ _ hw (lv_sub hl [0] rfl)
    · have hcs : v1.toInt = 0 ∨ v1.toInt = 1 ∨ v1.toInt = 2 := by omega
      have h := h.2
      rcases hcs with q | q | q
      · refine lv_tableIn (off := 27) (tgt := 96) hx hb dX6_apply_69 (by omega) (by omega) (by rw [q]; rfl) (by decide) ?_
        have h := h.1 q
        refine lv_aload_n hx hb dX6_apply_96 rfl (lv_at hl 0 rfl) ?_
        refine zr_ga (C := RX6) (T := TX6) (N := 7) (ci := 9) (k := 3) S hK hw zi_X6 rfl (by decide) zu_285 dX6_apply_97 h (fun bench_16 h => ?_)
        refine lv_aload hx hb dX6_apply_100 (lv_at hl 2 rfl) ?_
        refine lv_aload hx hb dX6_apply_102 (lv_at hl 3 rfl) ?_
        refine lv_aload hx hb dX6_apply_104 (lv_at hl 3 rfl) ?_
        refine zr_giN (C := RX2) (T := TX2) (N := 3) (ci := 5) (k := 0) (host := "LeastTerms") S hK hw zi_X2 rfl (by decide) (by decide +kernel) dX6_apply_106 h (fun sign_17 h => ?_)
        obtain ⟨ho, h⟩ := h
        refine zr_Vv (As := [.ref v4, .ref v5, .int sign_17]) (rest := []) S hK hw (kX0_sumOf l lo g M10 bench_16 v4 v5 sign_17 _ h) (cwV 3 hts (zg_V zu_323 zu_324 zu_325 zu_90 zu_326) rfl rfl rfl (by decide +kernel) ⟨Nat.le_of_ble_eq_true rfl, Nat.le_of_ble_eq_true rfl⟩) (ci := 3) rfl ho rfl hl.1 rfl (Nat.le_of_ble_eq_true rfl) dX6_apply_109 ⟨Nat.le_of_ble_eq_true rfl, Nat.le_of_ble_eq_true rfl⟩ (fun M18 H locs hw h => ?_)
        refine lv_goto (tgt := 160) hx hb dX6_apply_112 (by decide) ?_
        exact sX6_apply_160 S hr hlocks hK hl9 hno hX  v0 _ h _ _ _ hw (lv_sub hl [0] rfl)
      · refine lv_tableIn (off := 46) (tgt := 115) hx hb dX6_apply_69 (by omega) (by omega) (by rw [q]; rfl) (by decide) ?_
        have h := h.2.1 q
        refine lv_aload_n hx hb dX6_apply_115 rfl (lv_at hl 0 rfl) ?_
        refine zr_ga (C := RX6) (T := TX6) (N := 7) (ci := 9) (k := 3) S hK hw zi_X6 rfl (by decide) zu_285 dX6_apply_116 h (fun bench_19 h => ?_)
        refine lv_aload hx hb dX6_apply_119 (lv_at hl 2 rfl) ?_
        refine lv_aload hx hb dX6_apply_121 (lv_at hl 3 rfl) ?_
        refine lv_aload hx hb dX6_apply_123 (lv_at hl 3 rfl) ?_
        refine zr_giN (C := RX2) (T := TX2) (N := 3) (ci := 5) (k := 0) (host := "LeastTerms") S hK hw zi_X2 rfl (by decide) (by decide +kernel) dX6_apply_125 h (fun sign_20 h => ?_)
        refine lv_ineg hx hb dX6_apply_128 ?_
        obtain ⟨ho, h⟩ := h
        refine zr_Vv (As := [.ref v4, .ref v5, .int (-sign_20)]) (rest := []) S hK hw (kX0_sumOf l lo g M10 bench_19 v4 v5 (-sign_20) _ h) (cwV 3 hts (zg_V zu_323 zu_324 zu_325 zu_90 zu_326) rfl rfl rfl (by decide +kernel) ⟨Nat.le_of_ble_eq_true rfl, Nat.le_of_ble_eq_true rfl⟩) (ci := 3) rfl ho rfl hl.1 rfl (Nat.le_of_ble_eq_true rfl) dX6_apply_129 ⟨Nat.le_of_ble_eq_true rfl, Nat.le_of_ble_eq_true rfl⟩ (fun M21 H locs hw h => ?_)
        refine lv_goto (tgt := 160) hx hb dX6_apply_132 (by decide) ?_
        exact sX6_apply_160 S hr hlocks hK hl9 hno hX  v0 _ h _ _ _ hw (lv_sub hl [0] rfl)
      · refine lv_tableIn (off := 66) (tgt := 135) hx hb dX6_apply_69 (by omega) (by omega) (by rw [q]; rfl) (by decide) ?_
        have h := h.2.2 q
        refine lv_aload_n hx hb dX6_apply_135 rfl (lv_at hl 0 rfl) ?_
        refine zr_ga (C := RX6) (T := TX6) (N := 7) (ci := 9) (k := 3) S hK hw zi_X6 rfl (by decide) zu_285 dX6_apply_136 h (fun bench_22 h => ?_)
        refine lv_aload hx hb dX6_apply_139 (lv_at hl 2 rfl) ?_
        refine lv_aload hx hb dX6_apply_141 (lv_at hl 3 rfl) ?_
        obtain ⟨ho, h⟩ := h
        refine zr_Vv (As := [.ref v4, .ref v5]) (rest := []) S hK hw (kX0_productOf l lo g M10 bench_22 v4 v5 _ h) (cwV 2 hts (zg_V zu_327 zu_328 zu_329 zu_90 zu_330) rfl rfl rfl (by decide +kernel) ⟨Nat.le_of_ble_eq_true rfl, Nat.le_of_ble_eq_true rfl⟩) (ci := 3) rfl ho rfl hl.1 rfl (Nat.le_of_ble_eq_true rfl) dX6_apply_143 ⟨Nat.le_of_ble_eq_true rfl, Nat.le_of_ble_eq_true rfl⟩ (fun M23 H locs hw h => ?_)
        refine lv_goto (tgt := 160) hx hb dX6_apply_146 (by decide) ?_
        exact sX6_apply_160 S hr hlocks hK hl9 hno hX  v0 _ h _ _ _ hw (lv_sub hl [0] rfl)
  · have h := h.2 hc
    refine lv_bipush (v := (-3 : Int32)) hx hb dX6_apply_65 (by decide) ?_
    exact vx_ret (W.widen (k := 1) (n := 6) (by decide) (by decide) (zr_ri S hr hlocks hw h dX6_apply_67))
set_option maxHeartbeats 4000000 in
set_option maxRecDepth 100000 in
theorem kX6_apply (l : Launch) (hl9 : l.stackTraces = false) (lo : Nat) (g : zg) (M : zm_M) (a0 : Nat) (a1 : Int32) (a2 : Int32) (a3 : Int32) (post : Int32 → zm_M → Prop) (px : zm_M → Prop) (h : pX6_apply g.2 a0 a1 a2 a3 post px M) : vx_Met l yX6_apply (Cond.code yX6_apply cX6_apply 6 (some .int) :: zU) (({ frames := 8, cells := 1, slots := 6, locals := 197 } : Room)) (zx_P zNF zNM lo g M [.ref a0, .int a1, .int a2, .int a3]) (va_Qi post (zc_B lo g) (zA lo)) (vx_X px (zx_B lo g zxE1) (zA lo)) 1 6 (zA lo) := by
  refine vx_ofW (cc := cX6_apply) (maxL := 6) (ret := (some .int)) (by decide) rfl ?_
  intro p e s m args below meth c s₁ B hml hno hv
  obtain ⟨rfl, hR, hK, hX⟩ := hv
  have hts := atoms_spec (ws := Cond.code yX6_apply cX6_apply 6 (some .int) :: zU) B.pre
  have hts : ∀ w ∈ zU, w.before _ s = true := fun w hw => hts w (List.mem_cons_of_mem _ hw)
  have hown : s.vm.findClass RX6 = some m.cls := findClass_of_methodNamed B.named
  have hx := B.exec
  have hb := B.bytes
  have hr := B.returns
  have hlocks := B.notSynchronized
  have S : CallFix p m c cX6_apply 6 s ([.ref a0, .int a1, .int a2, .int a3] : List Value).toArray zU RX6 := ⟨hx, hb, hml, hown, hts⟩
  have hw : zW lo g s s.heap [] M := ⟨hR, va_S.rf⟩
  have hl := lv_entry ([.ref a0, .int a1, .int a2, .int a3]) (n := 6) (Nat.le_of_ble_eq_true rfl)
  rw [lg_entry_eq]
  generalize (lg_sl ([.ref a0, .int a1, .int a2, .int a3]) ++ List.replicate (6 - (lg_sl ([.ref a0, .int a1, .int a2, .int a3])).length) Slot.unset).toArray = ls at hl ⊢
  have hl : lv_has ls 6 [(0, .ref a0), (1, .int a1), (2, .int a2), (3, .int a3)] := hl
  unfold pX6_apply at h
  refine lv_aload_n hx hb dX6_apply_0 rfl (lv_at hl 0 rfl) ?_
  refine lv_iload_n hx hb dX6_apply_1 rfl (lv_at hl 2 rfl) ?_
  obtain ⟨ho, h⟩ := h
  refine zr_Vq (As := [.int a2]) (rest := []) S hK hw (kX6_find l lo g M a0 a2 _ h) (cwV 1 hts (zg_V zu_311 zu_312 zu_313 zu_303 zu_314) rfl rfl rfl (by decide +kernel) ⟨Nat.le_of_ble_eq_true rfl, Nat.le_of_ble_eq_true rfl⟩) (ci := 9) rfl ho rfl hl.1 rfl (Nat.le_of_ble_eq_true rfl) dX6_apply_2 ⟨Nat.le_of_ble_eq_true rfl, Nat.le_of_ble_eq_true rfl⟩ (fun r2 M1 H locs hw h => ?_)
  rcases r2 with _ | y3
  · have h := h.1 rfl
    refine lv_astoreN (lv' := [(4, .null), (0, .ref a0), (1, .int a1), (2, .int a2), (3, .int a3)]) hx hb dX6_apply_5 hl (by decide) rfl (fun ls hl => ?_)
    refine lv_aload_n hx hb dX6_apply_7 rfl (lv_at hl 1 rfl) ?_
    refine lv_iload_n hx hb dX6_apply_8 rfl (lv_at hl 4 rfl) ?_
    obtain ⟨ho, h⟩ := h
    refine zr_Vq (As := [.int a3]) (rest := []) S hK hw (kX6_find l lo g M1 a0 a3 _ h) (cwV 1 hts (zg_V zu_311 zu_312 zu_313 zu_303 zu_314) rfl rfl rfl (by decide +kernel) ⟨Nat.le_of_ble_eq_true rfl, Nat.le_of_ble_eq_true rfl⟩) (ci := 9) rfl ho rfl hl.1 rfl (Nat.le_of_ble_eq_true rfl) dX6_apply_9 ⟨Nat.le_of_ble_eq_true rfl, Nat.le_of_ble_eq_true rfl⟩ (fun r5 M4 H locs hw h => ?_)
    rcases r5 with _ | y6
    · have h := h.1 rfl
      refine lv_astoreN (lv' := [(5, .null), (4, .null), (0, .ref a0), (1, .int a1), (2, .int a2), (3, .int a3)]) hx hb dX6_apply_12 hl (by decide) rfl (fun ls hl => ?_)
      refine lv_aloadN hx hb dX6_apply_14 (lv_at hl 1 rfl) ?_
      refine lv_ifnullN (tgt := 33) hx hb dX6_apply_16 (by decide) ?_
      refine lv_iconst (v := (-1 : Int32)) hx hb dX6_apply_33 (by decide) ?_
      exact vx_ret (W.widen (k := 1) (n := 6) (by decide) (by decide) (zr_ri S hr hlocks hw h dX6_apply_34))
    · have h := h.2 y6 rfl
      refine lv_astore (lv' := [(5, .ref y6), (4, .null), (0, .ref a0), (1, .int a1), (2, .int a2), (3, .int a3)]) hx hb dX6_apply_12 hl (by decide) rfl (fun ls hl => ?_)
      refine lv_aloadN hx hb dX6_apply_14 (lv_at hl 1 rfl) ?_
      refine lv_ifnullN (tgt := 33) hx hb dX6_apply_16 (by decide) ?_
      refine lv_iconst (v := (-1 : Int32)) hx hb dX6_apply_33 (by decide) ?_
      exact vx_ret (W.widen (k := 1) (n := 6) (by decide) (by decide) (zr_ri S hr hlocks hw h dX6_apply_34))
  · have h := h.2 y3 rfl
    refine lv_astore (lv' := [(4, .ref y3), (0, .ref a0), (1, .int a1), (2, .int a2), (3, .int a3)]) hx hb dX6_apply_5 hl (by decide) rfl (fun ls hl => ?_)
    refine lv_aload_n hx hb dX6_apply_7 rfl (lv_at hl 1 rfl) ?_
    refine lv_iload_n hx hb dX6_apply_8 rfl (lv_at hl 4 rfl) ?_
    obtain ⟨ho, h⟩ := h
    refine zr_Vq (As := [.int a3]) (rest := []) S hK hw (kX6_find l lo g M1 a0 a3 _ h) (cwV 1 hts (zg_V zu_311 zu_312 zu_313 zu_303 zu_314) rfl rfl rfl (by decide +kernel) ⟨Nat.le_of_ble_eq_true rfl, Nat.le_of_ble_eq_true rfl⟩) (ci := 9) rfl ho rfl hl.1 rfl (Nat.le_of_ble_eq_true rfl) dX6_apply_9 ⟨Nat.le_of_ble_eq_true rfl, Nat.le_of_ble_eq_true rfl⟩ (fun r8 M7 H locs hw h => ?_)
    rcases r8 with _ | y9
    · have h := h.1 rfl
      refine lv_astoreN (lv' := [(5, .null), (4, .ref y3), (0, .ref a0), (1, .int a1), (2, .int a2), (3, .int a3)]) hx hb dX6_apply_12 hl (by decide) rfl (fun ls hl => ?_)
      refine lv_aload hx hb dX6_apply_14 (lv_at hl 1 rfl) ?_
      refine lv_ifnull hx hb dX6_apply_16 ?_
      refine lv_aloadN hx hb dX6_apply_19 (lv_at hl 0 rfl) ?_
      refine lv_ifnullN (tgt := 33) hx hb dX6_apply_21 (by decide) ?_
      refine lv_iconst (v := (-1 : Int32)) hx hb dX6_apply_33 (by decide) ?_
      exact vx_ret (W.widen (k := 1) (n := 6) (by decide) (by decide) (zr_ri S hr hlocks hw h dX6_apply_34))
    · have h := h.2 y9 rfl
      refine lv_astore (lv' := [(5, .ref y9), (4, .ref y3), (0, .ref a0), (1, .int a1), (2, .int a2), (3, .int a3)]) hx hb dX6_apply_12 hl (by decide) rfl (fun ls hl => ?_)
      refine lv_aload hx hb dX6_apply_14 (lv_at hl 1 rfl) ?_
      refine lv_ifnull hx hb dX6_apply_16 ?_
      refine lv_aload hx hb dX6_apply_19 (lv_at hl 0 rfl) ?_
      refine lv_ifnull hx hb dX6_apply_21 ?_
      refine lv_iload_n hx hb dX6_apply_24 rfl (lv_at hl 3 rfl) ?_
      refine lv_if_lt (tgt := 33) hx hb dX6_apply_25 (by decide) (fun hc => ?_) (fun hc => ?_)
      · have h := h.1 hc
        refine lv_iconst (v := (-1 : Int32)) hx hb dX6_apply_33 (by decide) ?_
        exact vx_ret (W.widen (k := 1) (n := 6) (by decide) (by decide) (zr_ri S hr hlocks hw h dX6_apply_34))
      · have h := h.2 hc
        refine lv_iload_n hx hb dX6_apply_28 rfl (lv_at hl 3 rfl) ?_
        refine lv_iconst (v := (3 : Int32)) hx hb dX6_apply_29 (by decide) ?_
        refine lv_icmp_le (tgt := 35) hx hb dX6_apply_30 (by decide) (fun hc => ?_) (fun hc => ?_)
        · have h := h.1 hc
          refine lv_iload_n hx hb dX6_apply_35 rfl (lv_at hl 3 rfl) ?_
          refine lv_iconst (v := (3 : Int32)) hx hb dX6_apply_36 (by decide) ?_
          refine lv_icmp_ne (tgt := 58) hx hb dX6_apply_37 (by decide) (fun hc => ?_) (fun hc => ?_)
          · have h := h.1 hc
            exact sX6_apply_58 S hr hlocks hK hl9 hno hX  a0 a1 y3 y9 _ h _ _ _ hw (lv_sub hl [2, 3, 1, 0] rfl)
          · have h := h.2 hc
            refine lv_aload hx hb dX6_apply_40 (lv_at hl 0 rfl) ?_
            refine zr_giN (C := RX2) (T := TX2) (N := 3) (ci := 5) (k := 0) (host := "LeastTerms") S hK hw zi_X2 rfl (by decide) (by decide +kernel) dX6_apply_42 h (fun sign_24 h => ?_)
            refine lv_if_ne (tgt := 58) hx hb dX6_apply_45 (by decide) (fun hc => ?_) (fun hc => ?_)
            · have h := h.1 hc
              exact sX6_apply_58 S hr hlocks hK hl9 hno hX  a0 a1 y3 y9 _ h _ _ _ hw (lv_sub hl [2, 3, 1, 0] rfl)
            · have h := h.2 hc
              exact zr_thr (cls := zxE1) (names := zxN1) (text := "a rest by 0") S hl9 hno hlocks hX hw hl.1 (by decide +kernel) (by decide +kernel) zv_679 zv_680 (by decide) (zx_h1 S hX) zx_g1 dX6_apply_48 dX6_apply_51 dX6_apply_52 dX6_apply_54 dX6_apply_57 (Nat.le_of_ble_eq_true rfl) (Nat.le_of_ble_eq_true rfl) (Nat.le_of_ble_eq_true rfl) (Nat.le_of_ble_eq_true rfl) h
        · have h := h.2 hc
          refine lv_iconst (v := (-1 : Int32)) hx hb dX6_apply_33 (by decide) ?_
          exact vx_ret (W.widen (k := 1) (n := 6) (by decide) (by decide) (zr_ri S hr hlocks hw h dX6_apply_34))
set_option maxHeartbeats 4000000 in
set_option maxRecDepth 100000 in
theorem sX6_power_47 {p : Program} {l : Launch} {e : Env} {s : State} {m : MethodId} {args : Array Value} {below : List Frame} {meth : Method} {c : Code} {lo : Nat} {g : zg} {px : zm_M → Prop} {post : Int32 → zm_M → Prop}  (S : CallFix p m c cX6_power 4 s args zU RX6) (hr : meth.sig.returnType = (some .int)) (hlocks : meth.locks = false) (hK : zk_K zNF zNM g s) (hl9 : l.stackTraces = false) (hno : ∀ x ∈ c.exceptionTable.toList, False) (hX : zx_K lo g s s.heap)  : ∀ (v0 : Nat) (v2 : Int32) (v3 : Nat) (M : zm_M), pX6_power_47 g.2 post px  v0 v2 v3 M → ∀ (H : Heap) (locs : List Loc) (ls : Array Slot), zW lo g s H locs M → lv_has ls 4 [(0, .ref v0), (2, .int v2), (3, .ref v3)] → W p l e ({ frames := 8, cells := 1, slots := 6, locals := 197 } : Room) s m args below meth c H locs 0 0 (vx_MQ below (va_Qi post (zc_B lo g) (zA lo)) (vx_X px (zx_B lo g zxE1) (zA lo)) args s 1 6 (zA lo)) (F0 m 47 ls []) := by
  obtain ⟨hx, hb, hml, hown, hts⟩ := id S
  intro v0 v2 v3 M h H locs ls hw hl
  unfold pX6_power_47 at h
  refine lv_aload_n hx hb dX6_power_47 rfl (lv_at hl 0 rfl) ?_
  obtain ⟨ho, h⟩ := h
  refine zr_Vi (As := []) (rest := []) S hK hw (kX6_isFull l lo g M v0  _ h) (cwV 0 hts (zg_V zu_300 zu_301 zu_302 zu_303 zu_304) rfl rfl rfl (by decide +kernel) ⟨Nat.le_of_ble_eq_true rfl, Nat.le_of_ble_eq_true rfl⟩) (ci := 9) rfl ho rfl hl.1 rfl (Nat.le_of_ble_eq_true rfl) dX6_power_48 ⟨Nat.le_of_ble_eq_true rfl, Nat.le_of_ble_eq_true rfl⟩ (fun r5 M4 H locs hw h => ?_)
  refine lv_if_eq (tgt := 57) hx hb dX6_power_51 (by decide) (fun hc => ?_) (fun hc => ?_)
  · have h := h.1 hc
    refine lv_aload_n hx hb dX6_power_57 rfl (lv_at hl 0 rfl) ?_
    refine zr_ga (C := RX6) (T := TX6) (N := 7) (ci := 9) (k := 3) S hK hw zi_X6 rfl (by decide) zu_285 dX6_power_58 h (fun bench_6 h => ?_)
    refine lv_aload_n hx hb dX6_power_61 rfl (lv_at hl 2 rfl) ?_
    refine lv_iload_n hx hb dX6_power_62 rfl (lv_at hl 1 rfl) ?_
    obtain ⟨ho, h⟩ := h
    refine zr_Vv (As := [.ref v3, .int v2]) (rest := []) S hK hw (kX0_powerOf l lo g M4 bench_6 v3 v2 _ h) (cwV 2 hts (zg_V zu_331 zu_332 zu_333 zu_90 zu_334) rfl rfl rfl (by decide +kernel) ⟨Nat.le_of_ble_eq_true rfl, Nat.le_of_ble_eq_true rfl⟩) (ci := 3) rfl ho rfl hl.1 rfl (Nat.le_of_ble_eq_true rfl) dX6_power_63 ⟨Nat.le_of_ble_eq_true rfl, Nat.le_of_ble_eq_true rfl⟩ (fun M7 H locs hw h => ?_)
    refine lv_aload_n hx hb dX6_power_66 rfl (lv_at hl 0 rfl) ?_
    obtain ⟨ho, h⟩ := h
    refine zr_Vi (As := []) (rest := []) S hK hw (kX6_keep l lo g M7 v0  _ h) (cwV 0 hts (zg_V zu_306 zu_307 zu_308 zu_303 zu_309) rfl rfl rfl (by decide +kernel) ⟨Nat.le_of_ble_eq_true rfl, Nat.le_of_ble_eq_true rfl⟩) (ci := 9) rfl ho rfl hl.1 rfl (Nat.le_of_ble_eq_true rfl) dX6_power_67 ⟨Nat.le_of_ble_eq_true rfl, Nat.le_of_ble_eq_true rfl⟩ (fun r9 M8 H locs hw h => ?_)
    exact vx_ret (W.widen (k := 1) (n := 6) (by decide) (by decide) (zr_ri S hr hlocks hw h dX6_power_70))
  · have h := h.2 hc
    refine lv_bipush (v := (-3 : Int32)) hx hb dX6_power_54 (by decide) ?_
    exact vx_ret (W.widen (k := 1) (n := 6) (by decide) (by decide) (zr_ri S hr hlocks hw h dX6_power_56))
set_option maxHeartbeats 4000000 in
set_option maxRecDepth 100000 in
theorem kX6_power (l : Launch) (hl9 : l.stackTraces = false) (lo : Nat) (g : zg) (M : zm_M) (a0 : Nat) (a1 : Int32) (a2 : Int32) (post : Int32 → zm_M → Prop) (px : zm_M → Prop) (h : pX6_power g.2 a0 a1 a2 post px M) : vx_Met l yX6_power (Cond.code yX6_power cX6_power 4 (some .int) :: zU) (({ frames := 8, cells := 1, slots := 6, locals := 197 } : Room)) (zx_P zNF zNM lo g M [.ref a0, .int a1, .int a2]) (va_Qi post (zc_B lo g) (zA lo)) (vx_X px (zx_B lo g zxE1) (zA lo)) 1 6 (zA lo) := by
  refine vx_ofW (cc := cX6_power) (maxL := 4) (ret := (some .int)) (by decide) rfl ?_
  intro p e s m args below meth c s₁ B hml hno hv
  obtain ⟨rfl, hR, hK, hX⟩ := hv
  have hts := atoms_spec (ws := Cond.code yX6_power cX6_power 4 (some .int) :: zU) B.pre
  have hts : ∀ w ∈ zU, w.before _ s = true := fun w hw => hts w (List.mem_cons_of_mem _ hw)
  have hown : s.vm.findClass RX6 = some m.cls := findClass_of_methodNamed B.named
  have hx := B.exec
  have hb := B.bytes
  have hr := B.returns
  have hlocks := B.notSynchronized
  have S : CallFix p m c cX6_power 4 s ([.ref a0, .int a1, .int a2] : List Value).toArray zU RX6 := ⟨hx, hb, hml, hown, hts⟩
  have hw : zW lo g s s.heap [] M := ⟨hR, va_S.rf⟩
  have hl := lv_entry ([.ref a0, .int a1, .int a2]) (n := 4) (Nat.le_of_ble_eq_true rfl)
  rw [lg_entry_eq]
  generalize (lg_sl ([.ref a0, .int a1, .int a2]) ++ List.replicate (4 - (lg_sl ([.ref a0, .int a1, .int a2])).length) Slot.unset).toArray = ls at hl ⊢
  have hl : lv_has ls 4 [(0, .ref a0), (1, .int a1), (2, .int a2)] := hl
  unfold pX6_power at h
  refine lv_aload_n hx hb dX6_power_0 rfl (lv_at hl 0 rfl) ?_
  refine lv_iload_n hx hb dX6_power_1 rfl (lv_at hl 1 rfl) ?_
  obtain ⟨ho, h⟩ := h
  refine zr_Vq (As := [.int a1]) (rest := []) S hK hw (kX6_find l lo g M a0 a1 _ h) (cwV 1 hts (zg_V zu_311 zu_312 zu_313 zu_303 zu_314) rfl rfl rfl (by decide +kernel) ⟨Nat.le_of_ble_eq_true rfl, Nat.le_of_ble_eq_true rfl⟩) (ci := 9) rfl ho rfl hl.1 rfl (Nat.le_of_ble_eq_true rfl) dX6_power_2 ⟨Nat.le_of_ble_eq_true rfl, Nat.le_of_ble_eq_true rfl⟩ (fun r2 M1 H locs hw h => ?_)
  rcases r2 with _ | y3
  · have h := h.1 rfl
    refine lv_astore_nN (lv' := [(3, .null), (0, .ref a0), (1, .int a1), (2, .int a2)]) hx hb dX6_power_5 rfl hl (by decide) rfl (fun ls hl => ?_)
    refine lv_aload_nN hx hb dX6_power_6 rfl (lv_at hl 0 rfl) ?_
    refine lv_ifnullN (tgt := 24) hx hb dX6_power_7 (by decide) ?_
    refine lv_iconst (v := (-1 : Int32)) hx hb dX6_power_24 (by decide) ?_
    exact vx_ret (W.widen (k := 1) (n := 6) (by decide) (by decide) (zr_ri S hr hlocks hw h dX6_power_25))
  · have h := h.2 y3 rfl
    refine lv_astore_n (lv' := [(3, .ref y3), (0, .ref a0), (1, .int a1), (2, .int a2)]) hx hb dX6_power_5 rfl hl (by decide) rfl (fun ls hl => ?_)
    refine lv_aload_n hx hb dX6_power_6 rfl (lv_at hl 0 rfl) ?_
    refine lv_ifnull hx hb dX6_power_7 ?_
    refine lv_iload_n hx hb dX6_power_10 rfl (lv_at hl 3 rfl) ?_
    refine lv_sipush (v := (-512 : Int32)) hx hb dX6_power_11 (by decide) ?_
    refine lv_icmp_lt (tgt := 24) hx hb dX6_power_14 (by decide) (fun hc => ?_) (fun hc => ?_)
    · have h := h.1 hc
      refine lv_iconst (v := (-1 : Int32)) hx hb dX6_power_24 (by decide) ?_
      exact vx_ret (W.widen (k := 1) (n := 6) (by decide) (by decide) (zr_ri S hr hlocks hw h dX6_power_25))
    · have h := h.2 hc
      refine lv_iload_n hx hb dX6_power_17 rfl (lv_at hl 3 rfl) ?_
      refine lv_sipush (v := (512 : Int32)) hx hb dX6_power_18 (by decide) ?_
      refine lv_icmp_le (tgt := 26) hx hb dX6_power_21 (by decide) (fun hc => ?_) (fun hc => ?_)
      · have h := h.1 hc
        refine lv_iload_n hx hb dX6_power_26 rfl (lv_at hl 3 rfl) ?_
        refine lv_if_ge (tgt := 47) hx hb dX6_power_27 (by decide) (fun hc => ?_) (fun hc => ?_)
        · have h := h.1 hc
          exact sX6_power_47 S hr hlocks hK hl9 hno hX  a0 a2 y3 _ h _ _ _ hw (lv_sub hl [1, 3, 0] rfl)
        · have h := h.2 hc
          refine lv_aload_n hx hb dX6_power_30 rfl (lv_at hl 0 rfl) ?_
          refine zr_giN (C := RX2) (T := TX2) (N := 3) (ci := 5) (k := 0) (host := "LeastTerms") S hK hw zi_X2 rfl (by decide) (by decide +kernel) dX6_power_31 h (fun sign_10 h => ?_)
          refine lv_if_ne (tgt := 47) hx hb dX6_power_34 (by decide) (fun hc => ?_) (fun hc => ?_)
          · have h := h.1 hc
            exact sX6_power_47 S hr hlocks hK hl9 hno hX  a0 a2 y3 _ h _ _ _ hw (lv_sub hl [1, 3, 0] rfl)
          · have h := h.2 hc
            exact zr_thr (cls := zxE1) (names := zxN1) (text := "0 to a power below 0") S hl9 hno hlocks hX hw hl.1 (by decide +kernel) (by decide +kernel) zv_679 zv_680 (by decide) (zx_h1 S hX) zx_g1 dX6_power_37 dX6_power_40 dX6_power_41 dX6_power_43 dX6_power_46 (Nat.le_of_ble_eq_true rfl) (Nat.le_of_ble_eq_true rfl) (Nat.le_of_ble_eq_true rfl) (Nat.le_of_ble_eq_true rfl) h
      · have h := h.2 hc
        refine lv_iconst (v := (-1 : Int32)) hx hb dX6_power_24 (by decide) ?_
        exact vx_ret (W.widen (k := 1) (n := 6) (by decide) (by decide) (zr_ri S hr hlocks hw h dX6_power_25))
set_option maxHeartbeats 4000000 in
set_option maxRecDepth 100000 in
theorem sX6_limb_55 {p : Program} {l : Launch} {e : Env} {s : State} {m : MethodId} {args : Array Value} {below : List Frame} {meth : Method} {c : Code} {lo : Nat} {g : zg} {px : zm_M → Prop} {post : Int32 → zm_M → Prop}  (S : CallFix p m c cX6_limb 6 s args zU RX6) (hr : meth.sig.returnType = (some .int)) (hlocks : meth.locks = false) (hK : zk_K zNF zNM g s) (hl9 : l.stackTraces = false) (hno : ∀ x ∈ c.exceptionTable.toList, False) (hX : zx_K lo g s s.heap)  : ∀  (M : zm_M), pX6_limb_55 g.2 post px   M → ∀ (H : Heap) (locs : List Loc) (ls : Array Slot), zW lo g s H locs M → lv_has ls 6 [] → W p l e ({ frames := 8, cells := 1, slots := 6, locals := 120 } : Room) s m args below meth c H locs 0 0 (vx_MQ below (va_Qi post (zc_B lo g) (zA lo)) (vx_X px (zx_B lo g zxE3) (zA lo)) args s 1 6 (zA lo)) (F0 m 55 ls []) := by
  obtain ⟨hx, hb, hml, hown, hts⟩ := id S
  intro  M h H locs ls hw hl
  unfold pX6_limb_55 at h
  exact zr_thr (cls := zxE3) (names := zxN3) (text := "no such limb") S hl9 hno hlocks hX hw hl.1 (by decide +kernel) (by decide +kernel) zv_681 zv_682 (by decide) (zx_h3 S hX) zx_g3 dX6_limb_55 dX6_limb_58 dX6_limb_59 dX6_limb_61 dX6_limb_64 (Nat.le_of_ble_eq_true rfl) (Nat.le_of_ble_eq_true rfl) (Nat.le_of_ble_eq_true rfl) (Nat.le_of_ble_eq_true rfl) h
set_option maxHeartbeats 4000000 in
set_option maxRecDepth 100000 in
theorem sX6_limb_40 {p : Program} {l : Launch} {e : Env} {s : State} {m : MethodId} {args : Array Value} {below : List Frame} {meth : Method} {c : Code} {lo : Nat} {g : zg} {px : zm_M → Prop} {post : Int32 → zm_M → Prop}  (S : CallFix p m c cX6_limb 6 s args zU RX6) (hr : meth.sig.returnType = (some .int)) (hlocks : meth.locks = false) (hK : zk_K zNF zNM g s) (hl9 : l.stackTraces = false) (hno : ∀ x ∈ c.exceptionTable.toList, False) (hX : zx_K lo g s s.heap)  : ∀ (v3 : Int32) (s0 : Nat) (M : zm_M), pX6_limb_40 g.2 post px  v3 s0 M → ∀ (H : Heap) (locs : List Loc) (ls : Array Slot), zW lo g s H locs M → lv_has ls 6 [(3, .int v3)] → W p l e ({ frames := 8, cells := 1, slots := 6, locals := 120 } : Room) s m args below meth c H locs 0 0 (vx_MQ below (va_Qi post (zc_B lo g) (zA lo)) (vx_X px (zx_B lo g zxE3) (zA lo)) args s 1 6 (zA lo)) (F0 m 40 ls [.ref s0]) := by
  obtain ⟨hx, hb, hml, hown, hts⟩ := id S
  intro v3 s0 M h H locs ls hw hl
  unfold pX6_limb_40 at h
  refine lv_astore (lv' := [(5, .ref s0), (3, .int v3)]) hx hb dX6_limb_40 hl (by decide) rfl (fun ls hl => ?_)
  refine lv_iload_n hx hb dX6_limb_42 rfl (lv_at hl 1 rfl) ?_
  refine lv_if_lt (tgt := 55) hx hb dX6_limb_43 (by decide) (fun hc => ?_) (fun hc => ?_)
  · have h := h.1 hc
    exact sX6_limb_55 S hr hlocks hK hl9 hno hX   _ h _ _ _ hw (lv_sub hl [] rfl)
  · have h := h.2 hc
    refine lv_iload_n hx hb dX6_limb_46 rfl (lv_at hl 1 rfl) ?_
    refine lv_aload hx hb dX6_limb_47 (lv_at hl 0 rfl) ?_
    refine zr_giN (C := RX5) (T := TX5) (N := 2) (ci := 8) (k := 1) (host := "LeastTerms") S (zx_N hK hX) hw zi_X5 rfl (by decide) (by decide +kernel) dX6_limb_49 h (fun used_5 h => ?_)
    refine lv_icmp_lt (tgt := 65) hx hb dX6_limb_52 (by decide) (fun hc => ?_) (fun hc => ?_)
    · have h := h.1 hc
      refine lv_aload hx hb dX6_limb_65 (lv_at hl 0 rfl) ?_
      refine lv_iload_n hx hb dX6_limb_67 rfl (lv_at hl 1 rfl) ?_
      obtain ⟨ho, h⟩ := h
      refine zr_Vl (As := [.int v3]) (rest := []) S hK hw (kX5_limbAt l lo g M s0 v3 _ h) (cwV 1 hts (zg_V zv_683 zu_27 zu_28 zu_12 zu_29) rfl rfl rfl (by decide +kernel) ⟨Nat.le_of_ble_eq_true rfl, Nat.le_of_ble_eq_true rfl⟩) (ci := 8) rfl ho rfl hl.1 rfl (Nat.le_of_ble_eq_true rfl) dX6_limb_68 ⟨Nat.le_of_ble_eq_true rfl, Nat.le_of_ble_eq_true rfl⟩ (fun r7 M6 H locs hw h => ?_)
      refine lv_l2i hx hb dX6_limb_71 rfl ?_
      exact vx_ret (W.widen (k := 1) (n := 6) (by decide) (by decide) (zr_ri S hr hlocks hw h dX6_limb_72))
    · have h := h.2 hc
      exact sX6_limb_55 S hr hlocks hK hl9 hno hX   _ h _ _ _ hw (lv_sub hl [] rfl)
set_option maxHeartbeats 4000000 in
set_option maxRecDepth 100000 in
theorem kX6_limb (l : Launch) (hl9 : l.stackTraces = false) (lo : Nat) (g : zg) (M : zm_M) (a0 : Nat) (a1 : Int32) (a2 : Int32) (a3 : Int32) (post : Int32 → zm_M → Prop) (px : zm_M → Prop) (h : pX6_limb g.2 a0 a1 a2 a3 post px M) : vx_Met l yX6_limb (Cond.code yX6_limb cX6_limb 6 (some .int) :: zU) (({ frames := 8, cells := 1, slots := 6, locals := 120 } : Room)) (zx_P zNF zNM lo g M [.ref a0, .int a1, .int a2, .int a3]) (va_Qi post (zc_B lo g) (zA lo)) (vx_X px (zx_B lo g zxE3) (zA lo)) 1 6 (zA lo) := by
  refine vx_ofW (cc := cX6_limb) (maxL := 6) (ret := (some .int)) (by decide) rfl ?_
  intro p e s m args below meth c s₁ B hml hno hv
  obtain ⟨rfl, hR, hK, hX⟩ := hv
  have hts := atoms_spec (ws := Cond.code yX6_limb cX6_limb 6 (some .int) :: zU) B.pre
  have hts : ∀ w ∈ zU, w.before _ s = true := fun w hw => hts w (List.mem_cons_of_mem _ hw)
  have hown : s.vm.findClass RX6 = some m.cls := findClass_of_methodNamed B.named
  have hx := B.exec
  have hb := B.bytes
  have hr := B.returns
  have hlocks := B.notSynchronized
  have S : CallFix p m c cX6_limb 6 s ([.ref a0, .int a1, .int a2, .int a3] : List Value).toArray zU RX6 := ⟨hx, hb, hml, hown, hts⟩
  have hw : zW lo g s s.heap [] M := ⟨hR, va_S.rf⟩
  have hl := lv_entry ([.ref a0, .int a1, .int a2, .int a3]) (n := 6) (Nat.le_of_ble_eq_true rfl)
  rw [lg_entry_eq]
  generalize (lg_sl ([.ref a0, .int a1, .int a2, .int a3]) ++ List.replicate (6 - (lg_sl ([.ref a0, .int a1, .int a2, .int a3])).length) Slot.unset).toArray = ls at hl ⊢
  have hl : lv_has ls 6 [(0, .ref a0), (1, .int a1), (2, .int a2), (3, .int a3)] := hl
  unfold pX6_limb at h
  refine lv_aload_n hx hb dX6_limb_0 rfl (lv_at hl 0 rfl) ?_
  refine lv_iload_n hx hb dX6_limb_1 rfl (lv_at hl 1 rfl) ?_
  obtain ⟨ho, h⟩ := h
  refine zr_Vq (As := [.int a1]) (rest := []) S hK hw (kX6_find l lo g M a0 a1 _ h) (cwV 1 hts (zg_V zu_311 zu_312 zu_313 zu_303 zu_314) rfl rfl rfl (by decide +kernel) ⟨Nat.le_of_ble_eq_true rfl, Nat.le_of_ble_eq_true rfl⟩) (ci := 9) rfl ho rfl hl.1 rfl (Nat.le_of_ble_eq_true rfl) dX6_limb_2 ⟨Nat.le_of_ble_eq_true rfl, Nat.le_of_ble_eq_true rfl⟩ (fun r2 M1 H locs hw h => ?_)
  rcases r2 with _ | y3
  · have h := h.1 rfl
    refine lv_astoreN (lv' := [(4, .null), (0, .ref a0), (1, .int a1), (2, .int a2), (3, .int a3)]) hx hb dX6_limb_5 hl (by decide) rfl (fun ls hl => ?_)
    refine lv_aloadN hx hb dX6_limb_7 (lv_at hl 0 rfl) ?_
    refine lv_ifnullN (tgt := 21) hx hb dX6_limb_9 (by decide) ?_
    refine lv_iconst (v := (-1 : Int32)) hx hb dX6_limb_21 (by decide) ?_
    exact vx_ret (W.widen (k := 1) (n := 6) (by decide) (by decide) (zr_ri S hr hlocks hw h dX6_limb_22))
  · have h := h.2 y3 rfl
    refine lv_astore (lv' := [(4, .ref y3), (0, .ref a0), (1, .int a1), (2, .int a2), (3, .int a3)]) hx hb dX6_limb_5 hl (by decide) rfl (fun ls hl => ?_)
    refine lv_aload hx hb dX6_limb_7 (lv_at hl 0 rfl) ?_
    refine lv_ifnull hx hb dX6_limb_9 ?_
    refine lv_iload_n hx hb dX6_limb_12 rfl (lv_at hl 3 rfl) ?_
    refine lv_if_lt (tgt := 21) hx hb dX6_limb_13 (by decide) (fun hc => ?_) (fun hc => ?_)
    · have h := h.1 hc
      refine lv_iconst (v := (-1 : Int32)) hx hb dX6_limb_21 (by decide) ?_
      exact vx_ret (W.widen (k := 1) (n := 6) (by decide) (by decide) (zr_ri S hr hlocks hw h dX6_limb_22))
    · have h := h.2 hc
      refine lv_iload_n hx hb dX6_limb_16 rfl (lv_at hl 3 rfl) ?_
      refine lv_iconst (v := (1 : Int32)) hx hb dX6_limb_17 (by decide) ?_
      refine lv_icmp_le (tgt := 23) hx hb dX6_limb_18 (by decide) (fun hc => ?_) (fun hc => ?_)
      · have h := h.1 hc
        refine lv_iload_n hx hb dX6_limb_23 rfl (lv_at hl 3 rfl) ?_
        refine lv_if_ne (tgt := 35) hx hb dX6_limb_24 (by decide) (fun hc => ?_) (fun hc => ?_)
        · have h := h.1 hc
          refine lv_aload hx hb dX6_limb_35 (lv_at hl 0 rfl) ?_
          refine zr_gaN (C := RX2) (T := TX2) (N := 3) (ci := 5) (k := 2) (host := "LeastTerms") S hK hw zi_X2 rfl (by decide) (by decide +kernel) dX6_limb_37 h (fun bottom_4 h => ?_)
          exact sX6_limb_40 S hr hlocks hK hl9 hno hX  a3 bottom_4 _ h _ _ _ hw (lv_sub hl [4] rfl)
        · have h := h.2 hc
          refine lv_aload hx hb dX6_limb_27 (lv_at hl 0 rfl) ?_
          refine zr_gaN (C := RX2) (T := TX2) (N := 3) (ci := 5) (k := 1) (host := "LeastTerms") S hK hw zi_X2 rfl (by decide) (by decide +kernel) dX6_limb_29 h (fun top_8 h => ?_)
          refine lv_goto (tgt := 40) hx hb dX6_limb_32 (by decide) ?_
          exact sX6_limb_40 S hr hlocks hK hl9 hno hX  a3 top_8 _ h _ _ _ hw (lv_sub hl [4] rfl)
      · have h := h.2 hc
        refine lv_iconst (v := (-1 : Int32)) hx hb dX6_limb_21 (by decide) ?_
        exact vx_ret (W.widen (k := 1) (n := 6) (by decide) (by decide) (zr_ri S hr hlocks hw h dX6_limb_22))
set_option maxHeartbeats 4000000 in
set_option maxRecDepth 100000 in
theorem sX6_exact_48 {p : Program} {l : Launch} {e : Env} {s : State} {m : MethodId} {args : Array Value} {below : List Frame} {meth : Method} {c : Code} {lo : Nat} {g : zg} {px : zm_M → Prop} {post : Int64 → zm_M → Prop}  (S : CallFix p m c cX6_exact 6 s args zU RX6) (hr : meth.sig.returnType = (some .long)) (hlocks : meth.locks = false) (hK : zk_K zNF zNM g s) (hl9 : l.stackTraces = false) (hno : ∀ x ∈ c.exceptionTable.toList, False) (hX : zx_K lo g s s.heap)  : ∀  (M : zm_M), pX6_exact_48 g.2 post px   M → ∀ (H : Heap) (locs : List Loc) (ls : Array Slot), zW lo g s H locs M → lv_has ls 6 [] → W p l e ({ frames := 8, cells := 1, slots := 6, locals := 120 } : Room) s m args below meth c H locs 0 0 (vx_MQ below (va_Ql post (zc_B lo g) (zA lo)) (vx_X px (zx_B lo g zxE1) (zA lo)) args s 1 6 (zA lo)) (F0 m 48 ls []) := by
  obtain ⟨hx, hb, hml, hown, hts⟩ := id S
  intro  M h H locs ls hw hl
  unfold pX6_exact_48 at h
  exact zr_thr (cls := zxE1) (names := zxN1) (text := "it is no whole number of a lane") S hl9 hno hlocks hX hw hl.1 (by decide +kernel) (by decide +kernel) zv_679 zv_680 (by decide) (zx_h1 S hX) zx_g1 dX6_exact_48 dX6_exact_51 dX6_exact_52 dX6_exact_54 dX6_exact_57 (Nat.le_of_ble_eq_true rfl) (Nat.le_of_ble_eq_true rfl) (Nat.le_of_ble_eq_true rfl) (Nat.le_of_ble_eq_true rfl) h
set_option maxHeartbeats 4000000 in
set_option maxRecDepth 100000 in
theorem sX6_exact_107 {p : Program} {l : Launch} {e : Env} {s : State} {m : MethodId} {args : Array Value} {below : List Frame} {meth : Method} {c : Code} {lo : Nat} {g : zg} {px : zm_M → Prop} {post : Int64 → zm_M → Prop}  (S : CallFix p m c cX6_exact 6 s args zU RX6) (hr : meth.sig.returnType = (some .long)) (hlocks : meth.locks = false) (hK : zk_K zNF zNM g s) (hl9 : l.stackTraces = false) (hno : ∀ x ∈ c.exceptionTable.toList, False) (hX : zx_K lo g s s.heap)  : ∀  (M : zm_M), pX6_exact_107 g.2 post px   M → ∀ (H : Heap) (locs : List Loc) (ls : Array Slot), zW lo g s H locs M → lv_has ls 6 [] → W p l e ({ frames := 8, cells := 1, slots := 6, locals := 120 } : Room) s m args below meth c H locs 0 0 (vx_MQ below (va_Ql post (zc_B lo g) (zA lo)) (vx_X px (zx_B lo g zxE1) (zA lo)) args s 1 6 (zA lo)) (F0 m 107 ls []) := by
  obtain ⟨hx, hb, hml, hown, hts⟩ := id S
  intro  M h H locs ls hw hl
  unfold pX6_exact_107 at h
  exact zr_thr (cls := zxE1) (names := zxN1) (text := "it has no room in the lane") S hl9 hno hlocks hX hw hl.1 (by decide +kernel) (by decide +kernel) zv_679 zv_680 (by decide) (zx_h1 S hX) zx_g1 dX6_exact_107 dX6_exact_110 dX6_exact_111 dX6_exact_113 dX6_exact_116 (Nat.le_of_ble_eq_true rfl) (Nat.le_of_ble_eq_true rfl) (Nat.le_of_ble_eq_true rfl) (Nat.le_of_ble_eq_true rfl) h
set_option maxHeartbeats 4000000 in
set_option maxRecDepth 100000 in
theorem sX6_exact_83 {p : Program} {l : Launch} {e : Env} {s : State} {m : MethodId} {args : Array Value} {below : List Frame} {meth : Method} {c : Code} {lo : Nat} {g : zg} {px : zm_M → Prop} {post : Int64 → zm_M → Prop}  (S : CallFix p m c cX6_exact 6 s args zU RX6) (hr : meth.sig.returnType = (some .long)) (hlocks : meth.locks = false) (hK : zk_K zNF zNM g s) (hl9 : l.stackTraces = false) (hno : ∀ x ∈ c.exceptionTable.toList, False) (hX : zx_K lo g s s.heap)  : ∀ (v2 : Int32) (s0 : Int64) (M : zm_M), pX6_exact_83 g.2 post px  v2 s0 M → ∀ (H : Heap) (locs : List Loc) (ls : Array Slot), zW lo g s H locs M → lv_has ls 6 [(2, .int v2)] → W p l e ({ frames := 8, cells := 1, slots := 6, locals := 120 } : Room) s m args below meth c H locs 0 0 (vx_MQ below (va_Ql post (zc_B lo g) (zA lo)) (vx_X px (zx_B lo g zxE1) (zA lo)) args s 1 6 (zA lo)) (F0 m 83 ls [.long s0]) := by
  obtain ⟨hx, hb, hml, hown, hts⟩ := id S
  intro v2 s0 M h H locs ls hw hl
  unfold pX6_exact_83 at h
  refine lv_lstore (lv' := [(4, .long s0), (2, .int v2)]) hx hb dX6_exact_83 hl (by decide) rfl (fun ls hl => ?_)
  refine lv_lload hx hb dX6_exact_85 (lv_at hl 0 rfl) ?_
  obtain ⟨⟨t1, hX1⟩, ⟨t2, hX2⟩, -⟩ := hX.2.2.2.2.2
  refine zr_gs S hX1 hw zv_684 dX6_exact_87 ?_
  refine lv_iload_n hx hb dX6_exact_90 rfl (lv_at hl 1 rfl) ?_
  refine zr_gx S hK hX1 hw dX6_exact_91 h.1 ?_
  have h := h.2
  refine W.lcmp hx hb dX6_exact_92 ?_
  refine lv_if_lt (tgt := 107) hx hb dX6_exact_93 (by decide) (fun hc => ?_) (fun hc => ?_)
  · have h := h.1 (zc_lt.mp hc)
    exact sX6_exact_107 S hr hlocks hK hl9 hno hX   _ h _ _ _ hw (lv_sub hl [] rfl)
  · have h := h.2 (fun q => hc (zc_lt.mpr q))
    refine lv_lload hx hb dX6_exact_96 (lv_at hl 0 rfl) ?_
    refine zr_gs S hX2 hw zv_685 dX6_exact_98 ?_
    refine lv_iload_n hx hb dX6_exact_101 rfl (lv_at hl 1 rfl) ?_
    refine zr_gx S hK hX2 hw dX6_exact_102 h.1 ?_
    have h := h.2
    refine W.lcmp hx hb dX6_exact_103 ?_
    refine lv_if_le (tgt := 117) hx hb dX6_exact_104 (by decide) (fun hc => ?_) (fun hc => ?_)
    · have h := h.1 (zc_le.mp hc)
      refine lv_lload hx hb dX6_exact_117 (lv_at hl 0 rfl) ?_
      exact vx_ret (W.widen (k := 1) (n := 6) (by decide) (by decide) (zr_rl S hr hlocks hw h dX6_exact_119))
    · have h := h.2 (fun q => hc (zc_le.mpr q))
      exact sX6_exact_107 S hr hlocks hK hl9 hno hX   _ h _ _ _ hw (lv_sub hl [] rfl)
set_option maxHeartbeats 4000000 in
set_option maxRecDepth 100000 in
theorem kX6_exact (l : Launch) (hl9 : l.stackTraces = false) (lo : Nat) (g : zg) (M : zm_M) (a0 : Nat) (a1 : Int32) (a2 : Int32) (post : Int64 → zm_M → Prop) (px : zm_M → Prop) (h : pX6_exact g.2 a0 a1 a2 post px M) : vx_Met l yX6_exact (Cond.code yX6_exact cX6_exact 6 (some .long) :: zU) (({ frames := 8, cells := 1, slots := 6, locals := 120 } : Room)) (zx_P zNF zNM lo g M [.ref a0, .int a1, .int a2]) (va_Ql post (zc_B lo g) (zA lo)) (vx_X px (zx_B lo g zxE1) (zA lo)) 1 6 (zA lo) := by
  refine vx_ofW (cc := cX6_exact) (maxL := 6) (ret := (some .long)) (by decide) rfl ?_
  intro p e s m args below meth c s₁ B hml hno hv
  obtain ⟨rfl, hR, hK, hX⟩ := hv
  have hts := atoms_spec (ws := Cond.code yX6_exact cX6_exact 6 (some .long) :: zU) B.pre
  have hts : ∀ w ∈ zU, w.before _ s = true := fun w hw => hts w (List.mem_cons_of_mem _ hw)
  have hown : s.vm.findClass RX6 = some m.cls := findClass_of_methodNamed B.named
  have hx := B.exec
  have hb := B.bytes
  have hr := B.returns
  have hlocks := B.notSynchronized
  have S : CallFix p m c cX6_exact 6 s ([.ref a0, .int a1, .int a2] : List Value).toArray zU RX6 := ⟨hx, hb, hml, hown, hts⟩
  have hw : zW lo g s s.heap [] M := ⟨hR, va_S.rf⟩
  have hl := lv_entry ([.ref a0, .int a1, .int a2]) (n := 6) (Nat.le_of_ble_eq_true rfl)
  rw [lg_entry_eq]
  generalize (lg_sl ([.ref a0, .int a1, .int a2]) ++ List.replicate (6 - (lg_sl ([.ref a0, .int a1, .int a2])).length) Slot.unset).toArray = ls at hl ⊢
  have hl : lv_has ls 6 [(0, .ref a0), (1, .int a1), (2, .int a2)] := hl
  unfold pX6_exact at h
  refine lv_aload_n hx hb dX6_exact_0 rfl (lv_at hl 0 rfl) ?_
  refine lv_iload_n hx hb dX6_exact_1 rfl (lv_at hl 1 rfl) ?_
  obtain ⟨ho, h⟩ := h
  refine zr_Vq (As := [.int a1]) (rest := []) S hK hw (kX6_find l lo g M a0 a1 _ h) (cwV 1 hts (zg_V zu_311 zu_312 zu_313 zu_303 zu_314) rfl rfl rfl (by decide +kernel) ⟨Nat.le_of_ble_eq_true rfl, Nat.le_of_ble_eq_true rfl⟩) (ci := 9) rfl ho rfl hl.1 rfl (Nat.le_of_ble_eq_true rfl) dX6_exact_2 ⟨Nat.le_of_ble_eq_true rfl, Nat.le_of_ble_eq_true rfl⟩ (fun r2 M1 H locs hw h => ?_)
  rcases r2 with _ | y3
  · have h := h.1 rfl
    refine lv_astore_nN (lv' := [(3, .null), (0, .ref a0), (1, .int a1), (2, .int a2)]) hx hb dX6_exact_5 rfl hl (by decide) rfl (fun ls hl => ?_)
    refine lv_aload_nN hx hb dX6_exact_6 rfl (lv_at hl 0 rfl) ?_
    refine lv_ifnullN (tgt := 30) hx hb dX6_exact_7 (by decide) ?_
    refine lv_ldc2 (v := (-1 : Int64)) hx hb hown (hts _ zu_379) dX6_exact_30 ?_
    exact vx_ret (W.widen (k := 1) (n := 6) (by decide) (by decide) (zr_rl S hr hlocks hw h dX6_exact_33))
  · have h := h.2 y3 rfl
    refine lv_astore_n (lv' := [(3, .ref y3), (0, .ref a0), (1, .int a1), (2, .int a2)]) hx hb dX6_exact_5 rfl hl (by decide) rfl (fun ls hl => ?_)
    refine lv_aload_n hx hb dX6_exact_6 rfl (lv_at hl 0 rfl) ?_
    refine lv_ifnull hx hb dX6_exact_7 ?_
    refine lv_iload_n hx hb dX6_exact_10 rfl (lv_at hl 3 rfl) ?_
    refine lv_if_lt (tgt := 30) hx hb dX6_exact_11 (by decide) (fun hc => ?_) (fun hc => ?_)
    · have h := h.1 hc
      refine lv_ldc2 (v := (-1 : Int64)) hx hb hown (hts _ zu_379) dX6_exact_30 ?_
      exact vx_ret (W.widen (k := 1) (n := 6) (by decide) (by decide) (zr_rl S hr hlocks hw h dX6_exact_33))
    · have h := h.2 hc
      refine lv_iload_n hx hb dX6_exact_14 rfl (lv_at hl 3 rfl) ?_
      obtain ⟨⟨t1, hX1⟩, ⟨t2, hX2⟩, -⟩ := hX.2.2.2.2.2
      refine zr_gs S hX1 hw zv_684 dX6_exact_15 ?_
      refine zr_gl S hK hX1 hw dX6_exact_18 ?_
      refine lv_icmp_ge (tgt := 30) hx hb dX6_exact_19 (by decide) (fun hc => ?_) (fun hc => ?_)
      · have h := h.1 hc
        refine lv_ldc2 (v := (-1 : Int64)) hx hb hown (hts _ zu_379) dX6_exact_30 ?_
        exact vx_ret (W.widen (k := 1) (n := 6) (by decide) (by decide) (zr_rl S hr hlocks hw h dX6_exact_33))
      · have h := h.2 hc
        refine lv_iload_n hx hb dX6_exact_22 rfl (lv_at hl 3 rfl) ?_
        refine zr_gs S hX2 hw zv_685 dX6_exact_23 ?_
        refine zr_gl S hK hX2 hw dX6_exact_26 ?_
        refine lv_icmp_lt (tgt := 34) hx hb dX6_exact_27 (by decide) (fun hc => ?_) (fun hc => ?_)
        · have h := h.1 hc
          refine lv_aload_n hx hb dX6_exact_34 rfl (lv_at hl 0 rfl) ?_
          obtain ⟨ho, h⟩ := h
          refine zr_Vi (As := []) (rest := []) S hK hw (kX2_isWhole l lo g M1 y3  _ h) (cwV 0 hts (zg_V zu_339 zu_340 zu_341 zu_99 zu_342) rfl rfl rfl (by decide +kernel) ⟨Nat.le_of_ble_eq_true rfl, Nat.le_of_ble_eq_true rfl⟩) (ci := 5) rfl ho rfl hl.1 rfl (Nat.le_of_ble_eq_true rfl) dX6_exact_35 ⟨Nat.le_of_ble_eq_true rfl, Nat.le_of_ble_eq_true rfl⟩ (fun r5 M4 H locs hw h => ?_)
          refine lv_if_eq (tgt := 48) hx hb dX6_exact_38 (by decide) (fun hc => ?_) (fun hc => ?_)
          · have h := h.1 hc
            exact sX6_exact_48 S hr hlocks hK hl9 hno hX   _ h _ _ _ hw (lv_sub hl [] rfl)
          · have h := h.2 hc
            refine lv_aload_n hx hb dX6_exact_41 rfl (lv_at hl 0 rfl) ?_
            obtain ⟨ho, h⟩ := h
            refine zr_Vi (As := []) (rest := []) S hK hw (kX2_fitsLong l lo g M4 y3  _ h) (cwV 0 hts (zg_V zv_686 zv_687 zv_688 zu_99 zv_689) rfl rfl rfl (by decide +kernel) ⟨Nat.le_of_ble_eq_true rfl, Nat.le_of_ble_eq_true rfl⟩) (ci := 5) rfl ho rfl hl.1 rfl (Nat.le_of_ble_eq_true rfl) dX6_exact_42 ⟨Nat.le_of_ble_eq_true rfl, Nat.le_of_ble_eq_true rfl⟩ (fun r7 M6 H locs hw h => ?_)
            refine lv_if_ne (tgt := 58) hx hb dX6_exact_45 (by decide) (fun hc => ?_) (fun hc => ?_)
            · have h := h.1 hc
              refine lv_aload_n hx hb dX6_exact_58 rfl (lv_at hl 0 rfl) ?_
              refine zr_giN (C := RX2) (T := TX2) (N := 3) (ci := 5) (k := 0) (host := "LeastTerms") S hK hw zi_X2 rfl (by decide) (by decide +kernel) dX6_exact_59 h (fun sign_8 h => ?_)
              refine lv_if_ge (tgt := 76) hx hb dX6_exact_62 (by decide) (fun hc => ?_) (fun hc => ?_)
              · have h := h.1 hc
                refine lv_aload_n hx hb dX6_exact_76 rfl (lv_at hl 0 rfl) ?_
                refine zr_gaN (C := RX2) (T := TX2) (N := 3) (ci := 5) (k := 1) (host := "LeastTerms") S hK hw zi_X2 rfl (by decide) (by decide +kernel) dX6_exact_77 h (fun top_9 h => ?_)
                obtain ⟨ho, h⟩ := h
                refine zr_Vl (As := []) (rest := []) S hK hw (kX5_low l lo g M6 top_9  _ h) (cwV 0 hts (zg_V zu_439 zu_167 zu_168 zu_12 zu_169) rfl rfl rfl (by decide +kernel) ⟨Nat.le_of_ble_eq_true rfl, Nat.le_of_ble_eq_true rfl⟩) (ci := 8) rfl ho rfl hl.1 rfl (Nat.le_of_ble_eq_true rfl) dX6_exact_80 ⟨Nat.le_of_ble_eq_true rfl, Nat.le_of_ble_eq_true rfl⟩ (fun r11 M10 H locs hw h => ?_)
                exact sX6_exact_83 S hr hlocks hK hl9 hno hX  a2 r11 _ h _ _ _ hw (lv_sub hl [3] rfl)
              · have h := h.2 hc
                refine lv_aload_n hx hb dX6_exact_65 rfl (lv_at hl 0 rfl) ?_
                refine zr_gaN (C := RX2) (T := TX2) (N := 3) (ci := 5) (k := 1) (host := "LeastTerms") S hK hw zi_X2 rfl (by decide) (by decide +kernel) dX6_exact_66 h (fun top_12 h => ?_)
                obtain ⟨ho, h⟩ := h
                refine zr_Vl (As := []) (rest := []) S hK hw (kX5_low l lo g M6 top_12  _ h) (cwV 0 hts (zg_V zu_439 zu_167 zu_168 zu_12 zu_169) rfl rfl rfl (by decide +kernel) ⟨Nat.le_of_ble_eq_true rfl, Nat.le_of_ble_eq_true rfl⟩) (ci := 8) rfl ho rfl hl.1 rfl (Nat.le_of_ble_eq_true rfl) dX6_exact_69 ⟨Nat.le_of_ble_eq_true rfl, Nat.le_of_ble_eq_true rfl⟩ (fun r14 M13 H locs hw h => ?_)
                refine lv_lneg hx hb dX6_exact_72 ?_
                refine lv_goto (tgt := 83) hx hb dX6_exact_73 (by decide) ?_
                exact sX6_exact_83 S hr hlocks hK hl9 hno hX  a2 (-r14) _ h _ _ _ hw (lv_sub hl [3] rfl)
            · have h := h.2 hc
              exact sX6_exact_48 S hr hlocks hK hl9 hno hX   _ h _ _ _ hw (lv_sub hl [] rfl)
        · have h := h.2 hc
          refine lv_ldc2 (v := (-1 : Int64)) hx hb hown (hts _ zu_379) dX6_exact_30 ?_
          exact vx_ret (W.widen (k := 1) (n := 6) (by decide) (by decide) (zr_rl S hr hlocks hw h dX6_exact_33))
set_option maxHeartbeats 4000000 in
set_option maxRecDepth 100000 in
theorem sX6_ofReal_92 {p : Program} {l : Launch} {e : Env} {s : State} {m : MethodId} {args : Array Value} {below : List Frame} {meth : Method} {c : Code} {lo : Nat} {g : zg} {px : zm_M → Prop} {post : Int32 → zm_M → Prop}  (S : CallFix p m c cX6_ofReal 9 s args zU RX6) (hr : meth.sig.returnType = (some .int)) (hlocks : meth.locks = false) (hK : zk_K zNF zNM g s) (hl9 : l.stackTraces = false) (hno : ∀ x ∈ c.exceptionTable.toList, False) (hX : zx_K lo g s s.heap)  : ∀ (v0 : Nat) (v6 : Int64) (v8 : Int32) (s0 : Nat) (s1 : Int32) (M : zm_M), pX6_ofReal_92 g.2 post px  v0 v6 v8 s0 s1 M → ∀ (H : Heap) (locs : List Loc) (ls : Array Slot), zW lo g s H locs M → lv_has ls 9 [(0, .ref v0), (6, .long v6), (8, .int v8)] → W p l e ({ frames := 8, cells := 1, slots := 6, locals := 197 } : Room) s m args below meth c H locs 0 0 (vx_MQ below (va_Qi post (zc_B lo g) (zA lo)) (vx_X px (zx_B lo g zxE1) (zA lo)) args s 1 6 (zA lo)) (F0 m 92 ls [.int s1, .ref s0]) := by
  obtain ⟨hx, hb, hml, hown, hts⟩ := id S
  intro v0 v6 v8 s0 s1 M h H locs ls hw hl
  unfold pX6_ofReal_92 at h
  refine lv_lload hx hb dX6_ofReal_92 (lv_at hl 1 rfl) ?_
  obtain ⟨ho, h⟩ := h
  refine zr_Vv (As := [.int s1, .long v6]) (rest := []) S hK hw (kX2_become l lo g M s0 s1 v6 _ h) (cwV 2 hts (zg_V zu_305 zu_97 zu_98 zu_99 zu_100) rfl rfl rfl (by decide +kernel) ⟨Nat.le_of_ble_eq_true rfl, Nat.le_of_ble_eq_true rfl⟩) (ci := 5) rfl ho rfl hl.1 rfl (Nat.le_of_ble_eq_true rfl) dX6_ofReal_94 ⟨Nat.le_of_ble_eq_true rfl, Nat.le_of_ble_eq_true rfl⟩ (fun M8 H locs hw h => ?_)
  refine lv_aload_n hx hb dX6_ofReal_97 rfl (lv_at hl 0 rfl) ?_
  refine zr_ga (C := RX6) (T := TX6) (N := 7) (ci := 9) (k := 3) S hK hw zi_X6 rfl (by decide) zu_285 dX6_ofReal_98 h (fun bench_9 h => ?_)
  refine zr_gaN (C := RX0) (T := TX0) (N := 5) (ci := 3) (k := 0) (host := "LeastTerms") S hK hw zi_X0 rfl (by decide) (by decide +kernel) dX6_ofReal_101 h (fun result_10 h => ?_)
  refine zr_gaN (C := RX2) (T := TX2) (N := 3) (ci := 5) (k := 1) (host := "LeastTerms") S hK hw zi_X2 rfl (by decide) (by decide +kernel) dX6_ofReal_104 h (fun top_11 h => ?_)
  refine lv_iload hx hb dX6_ofReal_107 (lv_at hl 2 rfl) ?_
  obtain ⟨ho, h⟩ := h
  refine zr_Vv (As := [.int v8]) (rest := []) S hK hw (kX5_shiftLeft l lo g M8 top_11 v8 _ h) (cwV 1 hts (zg_V zu_310 zu_146 zu_147 zu_12 zu_148) rfl rfl rfl (by decide +kernel) ⟨Nat.le_of_ble_eq_true rfl, Nat.le_of_ble_eq_true rfl⟩) (ci := 8) rfl ho rfl hl.1 rfl (Nat.le_of_ble_eq_true rfl) dX6_ofReal_109 ⟨Nat.le_of_ble_eq_true rfl, Nat.le_of_ble_eq_true rfl⟩ (fun M12 H locs hw h => ?_)
  refine lv_aload_n hx hb dX6_ofReal_112 rfl (lv_at hl 0 rfl) ?_
  refine zr_ga (C := RX6) (T := TX6) (N := 7) (ci := 9) (k := 3) S hK hw zi_X6 rfl (by decide) zu_285 dX6_ofReal_113 h (fun bench_13 h => ?_)
  refine zr_gaN (C := RX0) (T := TX0) (N := 5) (ci := 3) (k := 0) (host := "LeastTerms") S hK hw zi_X0 rfl (by decide) (by decide +kernel) dX6_ofReal_116 h (fun result_14 h => ?_)
  refine zr_gaN (C := RX2) (T := TX2) (N := 3) (ci := 5) (k := 2) (host := "LeastTerms") S hK hw zi_X2 rfl (by decide) (by decide +kernel) dX6_ofReal_119 h (fun bottom_15 h => ?_)
  refine lv_iload hx hb dX6_ofReal_122 (lv_at hl 2 rfl) ?_
  refine lv_ineg hx hb dX6_ofReal_124 ?_
  obtain ⟨ho, h⟩ := h
  refine zr_Vv (As := [.int (-v8)]) (rest := []) S hK hw (kX5_shiftLeft l lo g M12 bottom_15 (-v8) _ h) (cwV 1 hts (zg_V zu_310 zu_146 zu_147 zu_12 zu_148) rfl rfl rfl (by decide +kernel) ⟨Nat.le_of_ble_eq_true rfl, Nat.le_of_ble_eq_true rfl⟩) (ci := 8) rfl ho rfl hl.1 rfl (Nat.le_of_ble_eq_true rfl) dX6_ofReal_125 ⟨Nat.le_of_ble_eq_true rfl, Nat.le_of_ble_eq_true rfl⟩ (fun M16 H locs hw h => ?_)
  refine lv_aload_n hx hb dX6_ofReal_128 rfl (lv_at hl 0 rfl) ?_
  obtain ⟨ho, h⟩ := h
  refine zr_Vi (As := []) (rest := []) S hK hw (kX6_keep l lo g M16 v0  _ h) (cwV 0 hts (zg_V zu_306 zu_307 zu_308 zu_303 zu_309) rfl rfl rfl (by decide +kernel) ⟨Nat.le_of_ble_eq_true rfl, Nat.le_of_ble_eq_true rfl⟩) (ci := 9) rfl ho rfl hl.1 rfl (Nat.le_of_ble_eq_true rfl) dX6_ofReal_129 ⟨Nat.le_of_ble_eq_true rfl, Nat.le_of_ble_eq_true rfl⟩ (fun r18 M17 H locs hw h => ?_)
  exact vx_ret (W.widen (k := 1) (n := 6) (by decide) (by decide) (zr_ri S hr hlocks hw h dX6_ofReal_132))
set_option maxHeartbeats 4000000 in
set_option maxRecDepth 100000 in
theorem sX6_ofReal_59 {p : Program} {l : Launch} {e : Env} {s : State} {m : MethodId} {args : Array Value} {below : List Frame} {meth : Method} {c : Code} {lo : Nat} {g : zg} {px : zm_M → Prop} {post : Int32 → zm_M → Prop}  (S : CallFix p m c cX6_ofReal 9 s args zU RX6) (hr : meth.sig.returnType = (some .int)) (hlocks : meth.locks = false) (hK : zk_K zNF zNM g s) (hl9 : l.stackTraces = false) (hno : ∀ x ∈ c.exceptionTable.toList, False) (hX : zx_K lo g s s.heap)  : ∀ (v0 : Nat) (v1 : Int64) (v3 : Int32) (s0 : Int64) (M : zm_M), pX6_ofReal_59 g.2 post px  v0 v1 v3 s0 M → ∀ (H : Heap) (locs : List Loc) (ls : Array Slot), zW lo g s H locs M → lv_has ls 9 [(0, .ref v0), (1, .long v1), (3, .int v3)] → W p l e ({ frames := 8, cells := 1, slots := 6, locals := 197 } : Room) s m args below meth c H locs 0 0 (vx_MQ below (va_Qi post (zc_B lo g) (zA lo)) (vx_X px (zx_B lo g zxE1) (zA lo)) args s 1 6 (zA lo)) (F0 m 59 ls [.long s0]) := by
  obtain ⟨hx, hb, hml, hown, hts⟩ := id S
  intro v0 v1 v3 s0 M h H locs ls hw hl
  unfold pX6_ofReal_59 at h
  refine lv_lstore (lv' := [(6, .long s0), (0, .ref v0), (1, .long v1), (3, .int v3)]) hx hb dX6_ofReal_59 hl (by decide) rfl (fun ls hl => ?_)
  refine lv_iload_n hx hb dX6_ofReal_61 rfl (lv_at hl 3 rfl) ?_
  refine lv_iconst (v := (1 : Int32)) hx hb dX6_ofReal_62 (by decide) ?_
  refine zr_max S hl.1 zu_390 zu_7 zu_4 zu_8 (Nat.le_of_ble_eq_true rfl) (Nat.le_of_ble_eq_true rfl) (Nat.zero_le _) (Nat.zero_le _) dX6_ofReal_63 ?_
  refine lv_iconst (v := (1 : Int32)) hx hb dX6_ofReal_66 (by decide) ?_
  refine lv_isub hx hb dX6_ofReal_67 ?_
  refine lv_sipush (v := (-1074 : Int32)) hx hb dX6_ofReal_68 (by decide) ?_
  refine lv_iadd hx hb dX6_ofReal_71 ?_
  refine lv_topi (fun x5 ex5 => ?_)
  have h := h x5 ex5
  refine lv_istore (lv' := [(8, .int x5), (6, .long s0), (0, .ref v0), (1, .long v1), (3, .int v3)]) hx hb dX6_ofReal_72 hl (by decide) rfl (fun ls hl => ?_)
  refine lv_aload_n hx hb dX6_ofReal_74 rfl (lv_at hl 2 rfl) ?_
  refine zr_ga (C := RX6) (T := TX6) (N := 7) (ci := 9) (k := 3) S hK hw zi_X6 rfl (by decide) zu_285 dX6_ofReal_75 h (fun bench_6 h => ?_)
  refine zr_gaN (C := RX0) (T := TX0) (N := 5) (ci := 3) (k := 0) (host := "LeastTerms") S hK hw zi_X0 rfl (by decide) (by decide +kernel) dX6_ofReal_78 h (fun result_7 h => ?_)
  refine lv_lload_n hx hb dX6_ofReal_81 rfl (lv_at hl 3 rfl) ?_
  refine lv_lconst (v := (0 : Int64)) hx hb dX6_ofReal_82 (by decide) ?_
  refine W.lcmp hx hb dX6_ofReal_83 ?_
  refine lv_if_ge (tgt := 91) hx hb dX6_ofReal_84 (by decide) (fun hc => ?_) (fun hc => ?_)
  · have h := h.1 (zc_ge.mp hc)
    refine lv_iconst (v := (1 : Int32)) hx hb dX6_ofReal_91 (by decide) ?_
    exact sX6_ofReal_92 S hr hlocks hK hl9 hno hX  v0 s0 x5 result_7 (1 : Int32) _ h _ _ _ hw (lv_sub hl [2, 1, 0] rfl)
  · have h := h.2 (fun q => hc (zc_ge.mpr q))
    refine lv_iconst (v := (-1 : Int32)) hx hb dX6_ofReal_87 (by decide) ?_
    refine lv_goto (tgt := 92) hx hb dX6_ofReal_88 (by decide) ?_
    exact sX6_ofReal_92 S hr hlocks hK hl9 hno hX  v0 s0 x5 result_7 (-1 : Int32) _ h _ _ _ hw (lv_sub hl [2, 1, 0] rfl)
set_option maxHeartbeats 4000000 in
set_option maxRecDepth 100000 in
theorem kX6_ofReal (l : Launch) (hl9 : l.stackTraces = false) (lo : Nat) (g : zg) (M : zm_M) (a0 : Nat) (a1 : Int64) (post : Int32 → zm_M → Prop) (px : zm_M → Prop) (h : pX6_ofReal g.2 a0 a1 post px M) : vx_Met l yX6_ofReal (Cond.code yX6_ofReal cX6_ofReal 9 (some .int) :: zU) (({ frames := 8, cells := 1, slots := 6, locals := 197 } : Room)) (zx_P zNF zNM lo g M [.ref a0, .long a1]) (va_Qi post (zc_B lo g) (zA lo)) (vx_X px (zx_B lo g zxE1) (zA lo)) 1 6 (zA lo) := by
  refine vx_ofW (cc := cX6_ofReal) (maxL := 9) (ret := (some .int)) (by decide) rfl ?_
  intro p e s m args below meth c s₁ B hml hno hv
  obtain ⟨rfl, hR, hK, hX⟩ := hv
  have hts := atoms_spec (ws := Cond.code yX6_ofReal cX6_ofReal 9 (some .int) :: zU) B.pre
  have hts : ∀ w ∈ zU, w.before _ s = true := fun w hw => hts w (List.mem_cons_of_mem _ hw)
  have hown : s.vm.findClass RX6 = some m.cls := findClass_of_methodNamed B.named
  have hx := B.exec
  have hb := B.bytes
  have hr := B.returns
  have hlocks := B.notSynchronized
  have S : CallFix p m c cX6_ofReal 9 s ([.ref a0, .long a1] : List Value).toArray zU RX6 := ⟨hx, hb, hml, hown, hts⟩
  have hw : zW lo g s s.heap [] M := ⟨hR, va_S.rf⟩
  have hl := lv_entry ([.ref a0, .long a1]) (n := 9) (Nat.le_of_ble_eq_true rfl)
  rw [lg_entry_eq]
  generalize (lg_sl ([.ref a0, .long a1]) ++ List.replicate (9 - (lg_sl ([.ref a0, .long a1])).length) Slot.unset).toArray = ls at hl ⊢
  have hl : lv_has ls 9 [(0, .ref a0), (1, .long a1)] := hl
  unfold pX6_ofReal at h
  refine lv_lload_n hx hb dX6_ofReal_0 rfl (lv_at hl 1 rfl) ?_
  refine lv_bipush (v := (52 : Int32)) hx hb dX6_ofReal_1 (by decide) ?_
  refine lv_lushr hx hb dX6_ofReal_3 rfl ?_
  refine lv_l2i hx hb dX6_ofReal_4 rfl ?_
  refine lv_sipush (v := (2047 : Int32)) hx hb dX6_ofReal_5 (by decide) ?_
  refine lv_iand hx hb dX6_ofReal_8 ?_
  refine lv_topi (fun x1 ex1 => ?_)
  have h := h x1 ex1
  refine lv_istore_n (lv' := [(3, .int x1), (0, .ref a0), (1, .long a1)]) hx hb dX6_ofReal_9 rfl hl (by decide) rfl (fun ls hl => ?_)
  refine lv_iload_n hx hb dX6_ofReal_10 rfl (lv_at hl 0 rfl) ?_
  refine lv_sipush (v := (2047 : Int32)) hx hb dX6_ofReal_11 (by decide) ?_
  refine lv_icmp_ne (tgt := 27) hx hb dX6_ofReal_14 (by decide) (fun hc => ?_) (fun hc => ?_)
  · have h := h.1 hc
    refine lv_aload_n hx hb dX6_ofReal_27 rfl (lv_at hl 1 rfl) ?_
    obtain ⟨ho, h⟩ := h
    refine zr_Vi (As := []) (rest := []) S hK hw (kX6_isFull l lo g M a0  _ h) (cwV 0 hts (zg_V zu_300 zu_301 zu_302 zu_303 zu_304) rfl rfl rfl (by decide +kernel) ⟨Nat.le_of_ble_eq_true rfl, Nat.le_of_ble_eq_true rfl⟩) (ci := 9) rfl ho rfl hl.1 rfl (Nat.le_of_ble_eq_true rfl) dX6_ofReal_28 ⟨Nat.le_of_ble_eq_true rfl, Nat.le_of_ble_eq_true rfl⟩ (fun r3 M2 H locs hw h => ?_)
    refine lv_if_eq (tgt := 37) hx hb dX6_ofReal_31 (by decide) (fun hc => ?_) (fun hc => ?_)
    · have h := h.1 hc
      refine lv_lload_n hx hb dX6_ofReal_37 rfl (lv_at hl 2 rfl) ?_
      refine lv_ldc2 (v := (4503599627370495 : Int64)) hx hb hown (hts _ zu_388) dX6_ofReal_38 ?_
      refine lv_land hx hb dX6_ofReal_41 ?_
      refine lv_topl (fun x4 ex4 => ?_)
      have h := h x4 ex4
      refine lv_lstore (lv' := [(4, .long x4), (3, .int x1), (0, .ref a0), (1, .long a1)]) hx hb dX6_ofReal_42 hl (by decide) rfl (fun ls hl => ?_)
      refine lv_iload_n hx hb dX6_ofReal_44 rfl (lv_at hl 1 rfl) ?_
      refine lv_if_ne (tgt := 53) hx hb dX6_ofReal_45 (by decide) (fun hc => ?_) (fun hc => ?_)
      · have h := h.1 hc
        refine lv_lload hx hb dX6_ofReal_53 (lv_at hl 0 rfl) ?_
        refine lv_ldc2 (v := (4503599627370496 : Int64)) hx hb hown (hts _ zu_389) dX6_ofReal_55 ?_
        refine lv_lor hx hb dX6_ofReal_58 ?_
        exact sX6_ofReal_59 S hr hlocks hK hl9 hno hX  a0 a1 x1 (x4 ||| (4503599627370496 : Int64)) _ h _ _ _ hw (lv_sub hl [2, 3, 1] rfl)
      · have h := h.2 hc
        refine lv_lload hx hb dX6_ofReal_48 (lv_at hl 0 rfl) ?_
        refine lv_goto (tgt := 59) hx hb dX6_ofReal_50 (by decide) ?_
        exact sX6_ofReal_59 S hr hlocks hK hl9 hno hX  a0 a1 x1 x4 _ h _ _ _ hw (lv_sub hl [2, 3, 1] rfl)
    · have h := h.2 hc
      refine lv_bipush (v := (-3 : Int32)) hx hb dX6_ofReal_34 (by decide) ?_
      exact vx_ret (W.widen (k := 1) (n := 6) (by decide) (by decide) (zr_ri S hr hlocks hw h dX6_ofReal_36))
  · have h := h.2 hc
    exact zr_thr (cls := zxE1) (names := zxN1) (text := "an infinite double, or none") S hl9 hno hlocks hX hw hl.1 (by decide +kernel) (by decide +kernel) zv_679 zv_680 (by decide) (zx_h1 S hX) zx_g1 dX6_ofReal_17 dX6_ofReal_20 dX6_ofReal_21 dX6_ofReal_23 dX6_ofReal_26 (Nat.le_of_ble_eq_true rfl) (Nat.le_of_ble_eq_true rfl) (Nat.le_of_ble_eq_true rfl) (Nat.le_of_ble_eq_true rfl) h
set_option maxHeartbeats 4000000 in
set_option maxRecDepth 100000 in
theorem kX6_read (l : Launch) (hl9 : l.stackTraces = false) (lo : Nat) (g : zg) (M : zm_M) (a0 : Nat) (post : Int32 → zm_M → Prop) (px : zm_M → Prop) (h : pX6_read g.2 a0 post px M) : vx_Met l yX6_read (Cond.code yX6_read cX6_read 2 (some .int) :: zU) (({ frames := 8, cells := 1, slots := 6, locals := 197 } : Room)) (zx_P zNF zNM lo g M [.ref a0]) (va_Qi post (zc_B lo g) (zA lo)) (vx_X px (zx_B lo g zxE1) (zA lo)) 1 6 (zA lo) := by
  refine vx_ofW (cc := cX6_read) (maxL := 2) (ret := (some .int)) (by decide) rfl ?_
  intro p e s m args below meth c s₁ B hml hno hv
  obtain ⟨rfl, hR, hK, hX⟩ := hv
  have hts := atoms_spec (ws := Cond.code yX6_read cX6_read 2 (some .int) :: zU) B.pre
  have hts : ∀ w ∈ zU, w.before _ s = true := fun w hw => hts w (List.mem_cons_of_mem _ hw)
  have hown : s.vm.findClass RX6 = some m.cls := findClass_of_methodNamed B.named
  have hx := B.exec
  have hb := B.bytes
  have hr := B.returns
  have hlocks := B.notSynchronized
  have S : CallFix p m c cX6_read 2 s ([.ref a0] : List Value).toArray zU RX6 := ⟨hx, hb, hml, hown, hts⟩
  have hw : zW lo g s s.heap [] M := ⟨hR, va_S.rf⟩
  have hl := lv_entry ([.ref a0]) (n := 2) (Nat.le_of_ble_eq_true rfl)
  rw [lg_entry_eq]
  generalize (lg_sl ([.ref a0]) ++ List.replicate (2 - (lg_sl ([.ref a0])).length) Slot.unset).toArray = ls at hl ⊢
  have hl : lv_has ls 2 [(0, .ref a0)] := hl
  unfold pX6_read at h
  refine lv_aload_n hx hb dX6_read_0 rfl (lv_at hl 0 rfl) ?_
  refine zr_ga (C := RX6) (T := TX6) (N := 7) (ci := 9) (k := 5) S hK hw zi_X6 rfl (by decide) zu_391 dX6_read_1 h (fun tape_1 h => ?_)
  obtain ⟨ho, h⟩ := h
  refine zr_Vi (As := []) (rest := []) S hK hw (kX4_findFault l lo g M tape_1  _ h) (cwV 0 hts (zg_V zu_396 zu_397 zu_398 zu_264 zu_399) rfl rfl rfl (by decide +kernel) ⟨Nat.le_of_ble_eq_true rfl, Nat.le_of_ble_eq_true rfl⟩) (ci := 7) rfl ho rfl hl.1 rfl (Nat.le_of_ble_eq_true rfl) dX6_read_4 ⟨Nat.le_of_ble_eq_true rfl, Nat.le_of_ble_eq_true rfl⟩ (fun r3 M2 H locs hw h => ?_)
  refine lv_istore_n (lv' := [(1, .int r3), (0, .ref a0)]) hx hb dX6_read_7 rfl hl (by decide) rfl (fun ls hl => ?_)
  refine lv_iload_n hx hb dX6_read_8 rfl (lv_at hl 0 rfl) ?_
  refine lv_if_lt (tgt := 24) hx hb dX6_read_9 (by decide) (fun hc => ?_) (fun hc => ?_)
  · have h := h.1 hc
    refine lv_aload_n hx hb dX6_read_24 rfl (lv_at hl 1 rfl) ?_
    obtain ⟨ho, h⟩ := h
    refine zr_Vi (As := []) (rest := []) S hK hw (kX6_isFull l lo g M2 a0  _ h) (cwV 0 hts (zg_V zu_300 zu_301 zu_302 zu_303 zu_304) rfl rfl rfl (by decide +kernel) ⟨Nat.le_of_ble_eq_true rfl, Nat.le_of_ble_eq_true rfl⟩) (ci := 9) rfl ho rfl hl.1 rfl (Nat.le_of_ble_eq_true rfl) dX6_read_25 ⟨Nat.le_of_ble_eq_true rfl, Nat.le_of_ble_eq_true rfl⟩ (fun r5 M4 H locs hw h => ?_)
    refine lv_if_eq (tgt := 34) hx hb dX6_read_28 (by decide) (fun hc => ?_) (fun hc => ?_)
    · have h := h.1 hc
      refine lv_aload_n hx hb dX6_read_34 rfl (lv_at hl 1 rfl) ?_
      refine zr_ga (C := RX6) (T := TX6) (N := 7) (ci := 9) (k := 5) S hK hw zi_X6 rfl (by decide) zu_391 dX6_read_35 h (fun tape_6 h => ?_)
      refine lv_aload_n hx hb dX6_read_38 rfl (lv_at hl 1 rfl) ?_
      refine zr_ga (C := RX6) (T := TX6) (N := 7) (ci := 9) (k := 3) S hK hw zi_X6 rfl (by decide) zu_285 dX6_read_39 h (fun bench_7 h => ?_)
      refine zr_gaN (C := RX0) (T := TX0) (N := 5) (ci := 3) (k := 0) (host := "LeastTerms") S hK hw zi_X0 rfl (by decide) (by decide +kernel) dX6_read_42 h (fun result_8 h => ?_)
      obtain ⟨ho, h⟩ := h
      refine zr_Vv (As := [.ref result_8]) (rest := []) S hK hw (kX4_tell l lo g M4 tape_6 result_8 _ h) (cwV 1 hts (zg_V zu_400 zu_401 zu_402 zu_264 zu_403) rfl rfl rfl (by decide +kernel) ⟨Nat.le_of_ble_eq_true rfl, Nat.le_of_ble_eq_true rfl⟩) (ci := 7) rfl ho rfl hl.1 rfl (Nat.le_of_ble_eq_true rfl) dX6_read_45 ⟨Nat.le_of_ble_eq_true rfl, Nat.le_of_ble_eq_true rfl⟩ (fun M9 H locs hw h => ?_)
      refine lv_aload_n hx hb dX6_read_48 rfl (lv_at hl 1 rfl) ?_
      refine zr_ga (C := RX6) (T := TX6) (N := 7) (ci := 9) (k := 5) S hK hw zi_X6 rfl (by decide) zu_391 dX6_read_49 h (fun tape_10 h => ?_)
      obtain ⟨ho, h⟩ := h
      refine zr_Vv (As := []) (rest := []) S hK hw (kX4_clear l lo g M9 tape_10  _ h) (cwV 0 hts (zg_V zu_404 zu_405 zu_406 zu_264 zu_407) rfl rfl rfl (by decide +kernel) ⟨Nat.le_of_ble_eq_true rfl, Nat.le_of_ble_eq_true rfl⟩) (ci := 7) rfl ho rfl hl.1 rfl (Nat.le_of_ble_eq_true rfl) dX6_read_52 ⟨Nat.le_of_ble_eq_true rfl, Nat.le_of_ble_eq_true rfl⟩ (fun M11 H locs hw h => ?_)
      refine lv_aload_n hx hb dX6_read_55 rfl (lv_at hl 1 rfl) ?_
      refine zr_ga (C := RX6) (T := TX6) (N := 7) (ci := 9) (k := 3) S hK hw zi_X6 rfl (by decide) zu_285 dX6_read_56 h (fun bench_12 h => ?_)
      refine zr_gaN (C := RX0) (T := TX0) (N := 5) (ci := 3) (k := 0) (host := "LeastTerms") S hK hw zi_X0 rfl (by decide) (by decide +kernel) dX6_read_59 h (fun result_13 h => ?_)
      refine zr_gaN (C := RX2) (T := TX2) (N := 3) (ci := 5) (k := 2) (host := "LeastTerms") S hK hw zi_X2 rfl (by decide) (by decide +kernel) dX6_read_62 h (fun bottom_14 h => ?_)
      obtain ⟨ho, h⟩ := h
      refine zr_Vi (As := []) (rest := []) S hK hw (kX5_isZero l lo g M11 bottom_14  _ h) (cwV 0 hts (zg_V zu_408 zu_73 zu_74 zu_12 zu_75) rfl rfl rfl (by decide +kernel) ⟨Nat.le_of_ble_eq_true rfl, Nat.le_of_ble_eq_true rfl⟩) (ci := 8) rfl ho rfl hl.1 rfl (Nat.le_of_ble_eq_true rfl) dX6_read_65 ⟨Nat.le_of_ble_eq_true rfl, Nat.le_of_ble_eq_true rfl⟩ (fun r16 M15 H locs hw h => ?_)
      refine lv_if_eq (tgt := 81) hx hb dX6_read_68 (by decide) (fun hc => ?_) (fun hc => ?_)
      · have h := h.1 hc
        refine lv_aload_n hx hb dX6_read_81 rfl (lv_at hl 1 rfl) ?_
        obtain ⟨ho, h⟩ := h
        refine zr_Vi (As := []) (rest := []) S hK hw (kX6_keep l lo g M15 a0  _ h) (cwV 0 hts (zg_V zu_306 zu_307 zu_308 zu_303 zu_309) rfl rfl rfl (by decide +kernel) ⟨Nat.le_of_ble_eq_true rfl, Nat.le_of_ble_eq_true rfl⟩) (ci := 9) rfl ho rfl hl.1 rfl (Nat.le_of_ble_eq_true rfl) dX6_read_82 ⟨Nat.le_of_ble_eq_true rfl, Nat.le_of_ble_eq_true rfl⟩ (fun r18 M17 H locs hw h => ?_)
        exact vx_ret (W.widen (k := 1) (n := 6) (by decide) (by decide) (zr_ri S hr hlocks hw h dX6_read_85))
      · have h := h.2 hc
        exact zr_thr (cls := zxE1) (names := zxN1) (text := "0 is behind the stroke") S hl9 hno hlocks hX hw hl.1 (by decide +kernel) (by decide +kernel) zv_679 zv_680 (by decide) (zx_h1 S hX) zx_g1 dX6_read_71 dX6_read_74 dX6_read_75 dX6_read_77 dX6_read_80 (Nat.le_of_ble_eq_true rfl) (Nat.le_of_ble_eq_true rfl) (Nat.le_of_ble_eq_true rfl) (Nat.le_of_ble_eq_true rfl) h
    · have h := h.2 hc
      refine lv_bipush (v := (-3 : Int32)) hx hb dX6_read_31 (by decide) ?_
      exact vx_ret (W.widen (k := 1) (n := 6) (by decide) (by decide) (zr_ri S hr hlocks hw h dX6_read_33))
  · have h := h.2 hc
    refine lv_aload_n hx hb dX6_read_12 rfl (lv_at hl 1 rfl) ?_
    refine zr_ga (C := RX6) (T := TX6) (N := 7) (ci := 9) (k := 5) S hK hw zi_X6 rfl (by decide) zu_391 dX6_read_13 h (fun tape_19 h => ?_)
    obtain ⟨ho, h⟩ := h
    refine zr_Vv (As := []) (rest := []) S hK hw (kX4_clear l lo g M2 tape_19  _ h) (cwV 0 hts (zg_V zu_404 zu_405 zu_406 zu_264 zu_407) rfl rfl rfl (by decide +kernel) ⟨Nat.le_of_ble_eq_true rfl, Nat.le_of_ble_eq_true rfl⟩) (ci := 7) rfl ho rfl hl.1 rfl (Nat.le_of_ble_eq_true rfl) dX6_read_16 ⟨Nat.le_of_ble_eq_true rfl, Nat.le_of_ble_eq_true rfl⟩ (fun M20 H locs hw h => ?_)
    refine lv_bipush (v := (-10 : Int32)) hx hb dX6_read_19 (by decide) ?_
    refine lv_iload_n hx hb dX6_read_21 rfl (lv_at hl 0 rfl) ?_
    refine lv_isub hx hb dX6_read_22 ?_
    exact vx_ret (W.widen (k := 1) (n := 6) (by decide) (by decide) (zr_ri S hr hlocks hw h dX6_read_23))
