set_option maxHeartbeats 4000000 in
set_option maxRecDepth 100000 in
theorem kX6_part (l : Launch) (lo : Nat) (g : zg) (M : zm_M) (a0 : Nat) (a1 : Int32) (a2 : Int32) (post : Int32 → zm_M → Prop) (h : pX6_part g.2 a0 a1 a2 post M) : Met l yX6_part (Cond.code yX6_part cX6_part 4 (some .int) :: zU) (({ frames := 7, cells := 0, slots := 0, locals := 197 } : Room)) (zc_P zNF zNM lo g M [.ref a0, .int a1, .int a2]) (va_Qi post (zc_B lo g) (zA lo)) 0 0 (zA lo) := by
  refine Met.ofW (cc := cX6_part) (maxL := 4) (ret := (some .int)) (by decide) rfl ?_
  intro p e s m args below meth c s₁ B hml hv
  obtain ⟨rfl, hR, hK⟩ := hv
  have hts := atoms_spec (ws := Cond.code yX6_part cX6_part 4 (some .int) :: zU) B.pre
  have hts : ∀ w ∈ zU, w.before _ s = true := fun w hw => hts w (List.mem_cons_of_mem _ hw)
  have hown : s.vm.findClass RX6 = some m.cls := findClass_of_methodNamed B.named
  have hx := B.exec
  have hb := B.bytes
  have hr := B.returns
  have hlocks := B.notSynchronized
  have S : CallFix p m c cX6_part 4 s ([.ref a0, .int a1, .int a2] : List Value).toArray zU RX6 := ⟨hx, hb, hml, hown, hts⟩
  have hw : zW lo g s s.heap [] M := ⟨hR, va_S.rf⟩
  have hl := lv_entry ([.ref a0, .int a1, .int a2]) (n := 4) (Nat.le_of_ble_eq_true rfl)
  rw [lg_entry_eq]
  generalize (lg_sl ([.ref a0, .int a1, .int a2]) ++ List.replicate (4 - (lg_sl ([.ref a0, .int a1, .int a2])).length) Slot.unset).toArray = ls at hl ⊢
  have hl : lv_has ls 4 [(0, .ref a0), (1, .int a1), (2, .int a2)] := hl
  unfold pX6_part at h
  refine lv_aload_n hx hb dX6_part_0 rfl (lv_at hl 0 rfl) ?_
  refine lv_iload_n hx hb dX6_part_1 rfl (lv_at hl 1 rfl) ?_
  obtain ⟨ho, h⟩ := h
  refine zr_Vq (As := [.int a1]) (rest := []) S hK hw (kX6_find l lo g M a0 a1 _ h) (cwV 1 hts (zg_V zu_311 zu_312 zu_313 zu_303 zu_314) rfl rfl rfl (by decide +kernel) ⟨Nat.le_of_ble_eq_true rfl, Nat.le_of_ble_eq_true rfl⟩) (ci := 9) rfl ho rfl hl.1 rfl (Nat.le_of_ble_eq_true rfl) dX6_part_2 ⟨Nat.le_of_ble_eq_true rfl, Nat.le_of_ble_eq_true rfl⟩ (fun r2 M1 H locs hw h => ?_)
  rcases r2 with _ | a3
  · have h := h.1 rfl
    refine lv_astore_nN (lv' := [(3, .null), (0, .ref a0), (1, .int a1), (2, .int a2)]) hx hb dX6_part_5 rfl hl (by decide) rfl (fun ls hl => ?_)
    refine lv_aload_nN hx hb dX6_part_6 rfl (lv_at hl 0 rfl) ?_
    refine lv_ifnonnullN hx hb dX6_part_7 ?_
    refine lv_iconst (v := (-1 : Int32)) hx hb dX6_part_10 (by decide) ?_
    exact zr_ri S hr hlocks hw h dX6_part_11
  · have h := h.2 a3 rfl
    refine lv_astore_n (lv' := [(3, .ref a3), (0, .ref a0), (1, .int a1), (2, .int a2)]) hx hb dX6_part_5 rfl hl (by decide) rfl (fun ls hl => ?_)
    refine lv_aload_n hx hb dX6_part_6 rfl (lv_at hl 0 rfl) ?_
    refine lv_ifnonnull (tgt := 12) hx hb dX6_part_7 (by decide) ?_
    refine lv_aload_n hx hb dX6_part_12 rfl (lv_at hl 1 rfl) ?_
    refine zr_ga (C := RX6) (T := TX6) (N := 7) (ci := 9) (k := 4) S hK hw zi_X6 rfl (by decide) zu_353 dX6_part_13 h (fun chain_4 h => ?_)
    refine lv_aload_n hx hb dX6_part_16 rfl (lv_at hl 0 rfl) ?_
    obtain ⟨ho, h⟩ := h
    refine zr_Vv (As := [.ref a3]) (rest := []) S hK hw (kX1_begin l lo g M1 chain_4 a3 _ h) (cwV 1 hts (zg_V zu_354 zu_355 zu_356 zu_191 zu_357) rfl rfl rfl (by decide +kernel) ⟨Nat.le_of_ble_eq_true rfl, Nat.le_of_ble_eq_true rfl⟩) (ci := 4) rfl ho rfl hl.1 rfl (Nat.le_of_ble_eq_true rfl) dX6_part_17 ⟨Nat.le_of_ble_eq_true rfl, Nat.le_of_ble_eq_true rfl⟩ (fun M5 H locs hw h => ?_)
    refine lv_aload_n hx hb dX6_part_20 rfl (lv_at hl 1 rfl) ?_
    refine zr_ga (C := RX6) (T := TX6) (N := 7) (ci := 9) (k := 4) S hK hw zi_X6 rfl (by decide) zu_353 dX6_part_21 h (fun chain_6 h => ?_)
    refine lv_iload_n hx hb dX6_part_24 rfl (lv_at hl 3 rfl) ?_
    obtain ⟨ho, h⟩ := h
    refine zr_Vi (As := [.int a2]) (rest := []) S hK hw (kX1_gather l lo g M5 chain_6 a2 _ h) (cwV 1 hts (zg_V zu_366 zu_367 zu_368 zu_191 zu_369) rfl rfl rfl (by decide +kernel) ⟨Nat.le_of_ble_eq_true rfl, Nat.le_of_ble_eq_true rfl⟩) (ci := 4) rfl ho rfl hl.1 rfl (Nat.le_of_ble_eq_true rfl) dX6_part_25 ⟨Nat.le_of_ble_eq_true rfl, Nat.le_of_ble_eq_true rfl⟩ (fun r8 M7 H locs hw h => ?_)
    refine lv_if_ne (tgt := 33) hx hb dX6_part_28 (by decide) (fun hc => ?_) (fun hc => ?_)
    · have h := h.1 hc
      refine lv_aload_n hx hb dX6_part_33 rfl (lv_at hl 1 rfl) ?_
      obtain ⟨ho, h⟩ := h
      refine zr_Vi (As := []) (rest := []) S hK hw (kX6_isFull l lo g M7 a0  _ h) (cwV 0 hts (zg_V zu_300 zu_301 zu_302 zu_303 zu_304) rfl rfl rfl (by decide +kernel) ⟨Nat.le_of_ble_eq_true rfl, Nat.le_of_ble_eq_true rfl⟩) (ci := 9) rfl ho rfl hl.1 rfl (Nat.le_of_ble_eq_true rfl) dX6_part_34 ⟨Nat.le_of_ble_eq_true rfl, Nat.le_of_ble_eq_true rfl⟩ (fun r10 M9 H locs hw h => ?_)
      refine lv_if_eq (tgt := 43) hx hb dX6_part_37 (by decide) (fun hc => ?_) (fun hc => ?_)
      · have h := h.1 hc
        refine lv_aload_n hx hb dX6_part_43 rfl (lv_at hl 1 rfl) ?_
        refine zr_ga (C := RX6) (T := TX6) (N := 7) (ci := 9) (k := 4) S hK hw zi_X6 rfl (by decide) zu_353 dX6_part_44 h (fun chain_11 h => ?_)
        refine lv_aload_n hx hb dX6_part_47 rfl (lv_at hl 1 rfl) ?_
        refine zr_ga (C := RX6) (T := TX6) (N := 7) (ci := 9) (k := 3) S hK hw zi_X6 rfl (by decide) zu_285 dX6_part_48 h (fun bench_12 h => ?_)
        refine zr_gaN (C := RX0) (T := TX0) (N := 5) (ci := 3) (k := 0) (host := "LeastTerms") S hK hw zi_X0 rfl (by decide) (by decide +kernel) dX6_part_51 h (fun result_13 h => ?_)
        obtain ⟨ho, h⟩ := h
        refine zr_Vv (As := [.ref result_13]) (rest := []) S hK hw (kX1_tell l lo g M9 chain_11 result_13 _ h) (cwV 1 hts (zg_V zu_370 zu_371 zu_372 zu_191 zu_373) rfl rfl rfl (by decide +kernel) ⟨Nat.le_of_ble_eq_true rfl, Nat.le_of_ble_eq_true rfl⟩) (ci := 4) rfl ho rfl hl.1 rfl (Nat.le_of_ble_eq_true rfl) dX6_part_54 ⟨Nat.le_of_ble_eq_true rfl, Nat.le_of_ble_eq_true rfl⟩ (fun M14 H locs hw h => ?_)
        refine lv_aload_n hx hb dX6_part_57 rfl (lv_at hl 1 rfl) ?_
        obtain ⟨ho, h⟩ := h
        refine zr_Vi (As := []) (rest := []) S hK hw (kX6_keep l lo g M14 a0  _ h) (cwV 0 hts (zg_V zu_306 zu_307 zu_308 zu_303 zu_309) rfl rfl rfl (by decide +kernel) ⟨Nat.le_of_ble_eq_true rfl, Nat.le_of_ble_eq_true rfl⟩) (ci := 9) rfl ho rfl hl.1 rfl (Nat.le_of_ble_eq_true rfl) dX6_part_58 ⟨Nat.le_of_ble_eq_true rfl, Nat.le_of_ble_eq_true rfl⟩ (fun r16 M15 H locs hw h => ?_)
        exact zr_ri S hr hlocks hw h dX6_part_61
      · have h := h.2 hc
        refine lv_bipush (v := (-3 : Int32)) hx hb dX6_part_40 (by decide) ?_
        exact zr_ri S hr hlocks hw h dX6_part_42
    · have h := h.2 hc
      refine lv_iconst (v := (-1 : Int32)) hx hb dX6_part_31 (by decide) ?_
      exact zr_ri S hr hlocks hw h dX6_part_32
set_option maxHeartbeats 4000000 in
set_option maxRecDepth 100000 in
theorem sX6_best_93 {p : Program} {l : Launch} {e : Env} {s : State} {m : MethodId} {args : Array Value} {below : List Frame} {meth : Method} {c : Code} {lo : Nat} {g : zg} {post : Int32 → zm_M → Prop}  (S : CallFix p m c cX6_best 5 s args zU RX6) (hr : meth.sig.returnType = (some .int)) (hlocks : meth.locks = false) (hK : zk_K zNF zNM g s)  : ∀ (v0 : Nat) (M : zm_M), pX6_best_93 g.2 post  v0 M → ∀ (H : Heap) (locs : List Loc) (ls : Array Slot), zW lo g s H locs M → lv_has ls 5 [(0, .ref v0)] → W p l e ({ frames := 7, cells := 0, slots := 0, locals := 212 } : Room) s m args below meth c H locs 0 0 (MQ below (va_Qi post (zc_B lo g) (zA lo)) args s 0 0 (zA lo)) (F0 m 93 ls []) := by
  obtain ⟨hx, hb, hml, hown, hts⟩ := id S
  intro v0 M h H locs ls hw hl
  unfold pX6_best_93 at h
  refine lv_aload_n hx hb dX6_best_93 rfl (lv_at hl 0 rfl) ?_
  obtain ⟨ho, h⟩ := h
  refine zr_Vi (As := []) (rest := []) S hK hw (kX6_keep l lo g M v0  _ h) (cwV 0 hts (zg_V zu_306 zu_307 zu_308 zu_303 zu_309) rfl rfl rfl (by decide +kernel) ⟨Nat.le_of_ble_eq_true rfl, Nat.le_of_ble_eq_true rfl⟩) (ci := 9) rfl ho rfl hl.1 rfl (Nat.le_of_ble_eq_true rfl) dX6_best_94 ⟨Nat.le_of_ble_eq_true rfl, Nat.le_of_ble_eq_true rfl⟩ (fun r13 M12 H locs hw h => ?_)
  exact zr_ri S hr hlocks hw h dX6_best_97
set_option maxHeartbeats 4000000 in
set_option maxRecDepth 100000 in
theorem kX6_best (l : Launch) (lo : Nat) (g : zg) (M : zm_M) (a0 : Nat) (a1 : Int32) (a2 : Int64) (post : Int32 → zm_M → Prop) (h : pX6_best g.2 a0 a1 a2 post M) : Met l yX6_best (Cond.code yX6_best cX6_best 5 (some .int) :: zU) (({ frames := 7, cells := 0, slots := 0, locals := 212 } : Room)) (zc_P zNF zNM lo g M [.ref a0, .int a1, .long a2]) (va_Qi post (zc_B lo g) (zA lo)) 0 0 (zA lo) := by
  refine Met.ofW (cc := cX6_best) (maxL := 5) (ret := (some .int)) (by decide) rfl ?_
  intro p e s m args below meth c s₁ B hml hv
  obtain ⟨rfl, hR, hK⟩ := hv
  have hts := atoms_spec (ws := Cond.code yX6_best cX6_best 5 (some .int) :: zU) B.pre
  have hts : ∀ w ∈ zU, w.before _ s = true := fun w hw => hts w (List.mem_cons_of_mem _ hw)
  have hown : s.vm.findClass RX6 = some m.cls := findClass_of_methodNamed B.named
  have hx := B.exec
  have hb := B.bytes
  have hr := B.returns
  have hlocks := B.notSynchronized
  have S : CallFix p m c cX6_best 5 s ([.ref a0, .int a1, .long a2] : List Value).toArray zU RX6 := ⟨hx, hb, hml, hown, hts⟩
  have hw : zW lo g s s.heap [] M := ⟨hR, va_S.rf⟩
  have hl := lv_entry ([.ref a0, .int a1, .long a2]) (n := 5) (Nat.le_of_ble_eq_true rfl)
  rw [lg_entry_eq]
  generalize (lg_sl ([.ref a0, .int a1, .long a2]) ++ List.replicate (5 - (lg_sl ([.ref a0, .int a1, .long a2])).length) Slot.unset).toArray = ls at hl ⊢
  have hl : lv_has ls 5 [(0, .ref a0), (1, .int a1), (2, .long a2)] := hl
  unfold pX6_best at h
  refine lv_aload_n hx hb dX6_best_0 rfl (lv_at hl 0 rfl) ?_
  refine lv_iload_n hx hb dX6_best_1 rfl (lv_at hl 1 rfl) ?_
  obtain ⟨ho, h⟩ := h
  refine zr_Vq (As := [.int a1]) (rest := []) S hK hw (kX6_find l lo g M a0 a1 _ h) (cwV 1 hts (zg_V zu_311 zu_312 zu_313 zu_303 zu_314) rfl rfl rfl (by decide +kernel) ⟨Nat.le_of_ble_eq_true rfl, Nat.le_of_ble_eq_true rfl⟩) (ci := 9) rfl ho rfl hl.1 rfl (Nat.le_of_ble_eq_true rfl) dX6_best_2 ⟨Nat.le_of_ble_eq_true rfl, Nat.le_of_ble_eq_true rfl⟩ (fun r2 M1 H locs hw h => ?_)
  rcases r2 with _ | a3
  · have h := h.1 rfl
    refine lv_astoreN (lv' := [(4, .null), (0, .ref a0), (1, .int a1), (2, .long a2)]) hx hb dX6_best_5 hl (by decide) rfl (fun ls hl => ?_)
    refine lv_aloadN hx hb dX6_best_7 (lv_at hl 0 rfl) ?_
    refine lv_ifnullN (tgt := 18) hx hb dX6_best_9 (by decide) ?_
    refine lv_iconst (v := (-1 : Int32)) hx hb dX6_best_18 (by decide) ?_
    exact zr_ri S hr hlocks hw h dX6_best_19
  · have h := h.2 a3 rfl
    refine lv_astore (lv' := [(4, .ref a3), (0, .ref a0), (1, .int a1), (2, .long a2)]) hx hb dX6_best_5 hl (by decide) rfl (fun ls hl => ?_)
    refine lv_aload hx hb dX6_best_7 (lv_at hl 0 rfl) ?_
    refine lv_ifnull hx hb dX6_best_9 ?_
    refine lv_lload_n hx hb dX6_best_12 rfl (lv_at hl 3 rfl) ?_
    refine lv_lconst (v := (1 : Int64)) hx hb dX6_best_13 (by decide) ?_
    refine W.lcmp hx hb dX6_best_14 ?_
    refine lv_if_ge (tgt := 20) hx hb dX6_best_15 (by decide) (fun hc => ?_) (fun hc => ?_)
    · have h := h.1 (zc_ge.mp hc)
      refine lv_aload_n hx hb dX6_best_20 rfl (lv_at hl 1 rfl) ?_
      obtain ⟨ho, h⟩ := h
      refine zr_Vi (As := []) (rest := []) S hK hw (kX6_isFull l lo g M1 a0  _ h) (cwV 0 hts (zg_V zu_300 zu_301 zu_302 zu_303 zu_304) rfl rfl rfl (by decide +kernel) ⟨Nat.le_of_ble_eq_true rfl, Nat.le_of_ble_eq_true rfl⟩) (ci := 9) rfl ho rfl hl.1 rfl (Nat.le_of_ble_eq_true rfl) dX6_best_21 ⟨Nat.le_of_ble_eq_true rfl, Nat.le_of_ble_eq_true rfl⟩ (fun r5 M4 H locs hw h => ?_)
      refine lv_if_eq (tgt := 30) hx hb dX6_best_24 (by decide) (fun hc => ?_) (fun hc => ?_)
      · have h := h.1 hc
        refine lv_aload hx hb dX6_best_30 (lv_at hl 0 rfl) ?_
        refine zr_gaN (C := RX2) (T := TX2) (N := 3) (ci := 5) (k := 2) (host := "LeastTerms") S hK hw zi_X2 rfl (by decide) (by decide +kernel) dX6_best_32 h (fun bottom_6 h => ?_)
        refine lv_lload_n hx hb dX6_best_35 rfl (lv_at hl 3 rfl) ?_
        obtain ⟨ho, h⟩ := h
        refine zr_Vi (As := [.long a2]) (rest := []) S hK hw (kX5_isAbove l lo g M4 bottom_6 a2 _ h) (cwV 1 hts (zg_V zu_374 zu_223 zu_224 zu_12 zu_225) rfl rfl rfl (by decide +kernel) ⟨Nat.le_of_ble_eq_true rfl, Nat.le_of_ble_eq_true rfl⟩) (ci := 8) rfl ho rfl hl.1 rfl (Nat.le_of_ble_eq_true rfl) dX6_best_36 ⟨Nat.le_of_ble_eq_true rfl, Nat.le_of_ble_eq_true rfl⟩ (fun r8 M7 H locs hw h => ?_)
        refine lv_if_eq (tgt := 81) hx hb dX6_best_39 (by decide) (fun hc => ?_) (fun hc => ?_)
        · have h := h.1 hc
          refine lv_aload_n hx hb dX6_best_81 rfl (lv_at hl 1 rfl) ?_
          refine zr_ga (C := RX6) (T := TX6) (N := 7) (ci := 9) (k := 3) S hK hw zi_X6 rfl (by decide) zu_285 dX6_best_82 h (fun bench_9 h => ?_)
          refine zr_gaN (C := RX0) (T := TX0) (N := 5) (ci := 3) (k := 0) (host := "LeastTerms") S hK hw zi_X0 rfl (by decide) (by decide +kernel) dX6_best_85 h (fun result_10 h => ?_)
          refine lv_aload hx hb dX6_best_88 (lv_at hl 0 rfl) ?_
          obtain ⟨ho, h⟩ := h
          refine zr_Vv (As := [.ref a3]) (rest := []) S hK hw (kX2_copy l lo g M7 result_10 a3 _ h) (cwV 1 hts (zg_V zu_296 zu_297 zu_298 zu_99 zu_299) rfl rfl rfl (by decide +kernel) ⟨Nat.le_of_ble_eq_true rfl, Nat.le_of_ble_eq_true rfl⟩) (ci := 5) rfl ho rfl hl.1 rfl (Nat.le_of_ble_eq_true rfl) dX6_best_90 ⟨Nat.le_of_ble_eq_true rfl, Nat.le_of_ble_eq_true rfl⟩ (fun M11 H locs hw h => ?_)
          exact sX6_best_93 S hr hlocks hK  a0 _ h _ _ _ hw (lv_sub hl [1] rfl)
        · have h := h.2 hc
          refine lv_aload_n hx hb dX6_best_42 rfl (lv_at hl 1 rfl) ?_
          refine zr_ga (C := RX6) (T := TX6) (N := 7) (ci := 9) (k := 4) S hK hw zi_X6 rfl (by decide) zu_353 dX6_best_43 h (fun chain_14 h => ?_)
          refine lv_aload hx hb dX6_best_46 (lv_at hl 0 rfl) ?_
          obtain ⟨ho, h⟩ := h
          refine zr_Vv (As := [.ref a3]) (rest := []) S hK hw (kX1_begin l lo g M7 chain_14 a3 _ h) (cwV 1 hts (zg_V zu_354 zu_355 zu_356 zu_191 zu_357) rfl rfl rfl (by decide +kernel) ⟨Nat.le_of_ble_eq_true rfl, Nat.le_of_ble_eq_true rfl⟩) (ci := 4) rfl ho rfl hl.1 rfl (Nat.le_of_ble_eq_true rfl) dX6_best_48 ⟨Nat.le_of_ble_eq_true rfl, Nat.le_of_ble_eq_true rfl⟩ (fun M15 H locs hw h => ?_)
          refine lv_aload_n hx hb dX6_best_51 rfl (lv_at hl 1 rfl) ?_
          refine zr_ga (C := RX6) (T := TX6) (N := 7) (ci := 9) (k := 4) S hK hw zi_X6 rfl (by decide) zu_353 dX6_best_52 h (fun chain_16 h => ?_)
          refine lv_aload hx hb dX6_best_55 (lv_at hl 0 rfl) ?_
          refine zr_gaN (C := RX2) (T := TX2) (N := 3) (ci := 5) (k := 2) (host := "LeastTerms") S hK hw zi_X2 rfl (by decide) (by decide +kernel) dX6_best_57 h (fun bottom_17 h => ?_)
          refine lv_lload_n hx hb dX6_best_60 rfl (lv_at hl 3 rfl) ?_
          obtain ⟨ho, h⟩ := h
          refine zr_Vv (As := [.ref bottom_17, .long a2]) (rest := []) S hK hw (kX1_seekNearest l lo g M15 chain_16 bottom_17 a2 _ h) (cwV 2 hts (zg_V zu_375 zu_376 zu_377 zu_191 zu_378) rfl rfl rfl (by decide +kernel) ⟨Nat.le_of_ble_eq_true rfl, Nat.le_of_ble_eq_true rfl⟩) (ci := 4) rfl ho rfl hl.1 rfl (Nat.le_of_ble_eq_true rfl) dX6_best_61 ⟨Nat.le_of_ble_eq_true rfl, Nat.le_of_ble_eq_true rfl⟩ (fun M18 H locs hw h => ?_)
          refine lv_aload_n hx hb dX6_best_64 rfl (lv_at hl 1 rfl) ?_
          refine zr_ga (C := RX6) (T := TX6) (N := 7) (ci := 9) (k := 4) S hK hw zi_X6 rfl (by decide) zu_353 dX6_best_65 h (fun chain_19 h => ?_)
          refine lv_aload_n hx hb dX6_best_68 rfl (lv_at hl 1 rfl) ?_
          refine zr_ga (C := RX6) (T := TX6) (N := 7) (ci := 9) (k := 3) S hK hw zi_X6 rfl (by decide) zu_285 dX6_best_69 h (fun bench_20 h => ?_)
          refine zr_gaN (C := RX0) (T := TX0) (N := 5) (ci := 3) (k := 0) (host := "LeastTerms") S hK hw zi_X0 rfl (by decide) (by decide +kernel) dX6_best_72 h (fun result_21 h => ?_)
          obtain ⟨ho, h⟩ := h
          refine zr_Vv (As := [.ref result_21]) (rest := []) S hK hw (kX1_tell l lo g M18 chain_19 result_21 _ h) (cwV 1 hts (zg_V zu_370 zu_371 zu_372 zu_191 zu_373) rfl rfl rfl (by decide +kernel) ⟨Nat.le_of_ble_eq_true rfl, Nat.le_of_ble_eq_true rfl⟩) (ci := 4) rfl ho rfl hl.1 rfl (Nat.le_of_ble_eq_true rfl) dX6_best_75 ⟨Nat.le_of_ble_eq_true rfl, Nat.le_of_ble_eq_true rfl⟩ (fun M22 H locs hw h => ?_)
          refine lv_goto (tgt := 93) hx hb dX6_best_78 (by decide) ?_
          exact sX6_best_93 S hr hlocks hK  a0 _ h _ _ _ hw (lv_sub hl [1] rfl)
      · have h := h.2 hc
        refine lv_bipush (v := (-3 : Int32)) hx hb dX6_best_27 (by decide) ?_
        exact zr_ri S hr hlocks hw h dX6_best_29
    · have h := h.2 (fun q => hc (zc_ge.mpr q))
      refine lv_iconst (v := (-1 : Int32)) hx hb dX6_best_18 (by decide) ?_
      exact zr_ri S hr hlocks hw h dX6_best_19
set_option maxHeartbeats 4000000 in
set_option maxRecDepth 100000 in
theorem kX6_real (l : Launch) (lo : Nat) (g : zg) (M : zm_M) (a0 : Nat) (a1 : Int32) (post : Int64 → zm_M → Prop) (h : pX6_real g.2 a0 a1 post M) : Met l yX6_real (Cond.code yX6_real cX6_real 5 (some .long) :: zU) (({ frames := 5, cells := 0, slots := 0, locals := 158 } : Room)) (zc_P zNF zNM lo g M [.ref a0, .int a1]) (va_Ql post (zc_B lo g) (zA lo)) 0 0 (zA lo) := by
  refine Met.ofW (cc := cX6_real) (maxL := 5) (ret := (some .long)) (by decide) rfl ?_
  intro p e s m args below meth c s₁ B hml hv
  obtain ⟨rfl, hR, hK⟩ := hv
  have hts := atoms_spec (ws := Cond.code yX6_real cX6_real 5 (some .long) :: zU) B.pre
  have hts : ∀ w ∈ zU, w.before _ s = true := fun w hw => hts w (List.mem_cons_of_mem _ hw)
  have hown : s.vm.findClass RX6 = some m.cls := findClass_of_methodNamed B.named
  have hx := B.exec
  have hb := B.bytes
  have hr := B.returns
  have hlocks := B.notSynchronized
  have S : CallFix p m c cX6_real 5 s ([.ref a0, .int a1] : List Value).toArray zU RX6 := ⟨hx, hb, hml, hown, hts⟩
  have hw : zW lo g s s.heap [] M := ⟨hR, va_S.rf⟩
  have hl := lv_entry ([.ref a0, .int a1]) (n := 5) (Nat.le_of_ble_eq_true rfl)
  rw [lg_entry_eq]
  generalize (lg_sl ([.ref a0, .int a1]) ++ List.replicate (5 - (lg_sl ([.ref a0, .int a1])).length) Slot.unset).toArray = ls at hl ⊢
  have hl : lv_has ls 5 [(0, .ref a0), (1, .int a1)] := hl
  unfold pX6_real at h
  refine lv_aload_n hx hb dX6_real_0 rfl (lv_at hl 0 rfl) ?_
  refine lv_iload_n hx hb dX6_real_1 rfl (lv_at hl 1 rfl) ?_
  obtain ⟨ho, h⟩ := h
  refine zr_Vq (As := [.int a1]) (rest := []) S hK hw (kX6_find l lo g M a0 a1 _ h) (cwV 1 hts (zg_V zu_311 zu_312 zu_313 zu_303 zu_314) rfl rfl rfl (by decide +kernel) ⟨Nat.le_of_ble_eq_true rfl, Nat.le_of_ble_eq_true rfl⟩) (ci := 9) rfl ho rfl hl.1 rfl (Nat.le_of_ble_eq_true rfl) dX6_real_2 ⟨Nat.le_of_ble_eq_true rfl, Nat.le_of_ble_eq_true rfl⟩ (fun r2 M1 H locs hw h => ?_)
  rcases r2 with _ | a3
  · have h := h.1 rfl
    refine lv_astore_nN (lv' := [(2, .null), (0, .ref a0), (1, .int a1)]) hx hb dX6_real_5 rfl hl (by decide) rfl (fun ls hl => ?_)
    refine lv_aload_nN hx hb dX6_real_6 rfl (lv_at hl 0 rfl) ?_
    refine lv_ifnonnullN hx hb dX6_real_7 ?_
    refine lv_ldc2 (v := (-1 : Int64)) hx hb hown (hts _ zu_379) dX6_real_10 ?_
    exact zr_rl S hr hlocks hw h dX6_real_13
  · have h := h.2 a3 rfl
    refine lv_astore_n (lv' := [(2, .ref a3), (0, .ref a0), (1, .int a1)]) hx hb dX6_real_5 rfl hl (by decide) rfl (fun ls hl => ?_)
    refine lv_aload_n hx hb dX6_real_6 rfl (lv_at hl 0 rfl) ?_
    refine lv_ifnonnull (tgt := 14) hx hb dX6_real_7 (by decide) ?_
    refine lv_aload_n hx hb dX6_real_14 rfl (lv_at hl 1 rfl) ?_
    refine zr_ga (C := RX6) (T := TX6) (N := 7) (ci := 9) (k := 3) S hK hw zi_X6 rfl (by decide) zu_285 dX6_real_15 h (fun bench_4 h => ?_)
    refine lv_aload_n hx hb dX6_real_18 rfl (lv_at hl 0 rfl) ?_
    refine lv_bipush (v := (53 : Int32)) hx hb dX6_real_19 (by decide) ?_
    refine lv_sipush (v := (-1074 : Int32)) hx hb dX6_real_21 (by decide) ?_
    refine lv_ldc2 (v := (9218868437227405312 : Int64)) hx hb hown (hts _ zu_380) dX6_real_24 ?_
    obtain ⟨ho, h⟩ := h
    refine zr_Vl (As := [.ref a3, .int (53 : Int32), .int (-1074 : Int32), .long (9218868437227405312 : Int64)]) (rest := []) S hK hw (kX0_nearestBits l lo g M1 bench_4 a3 (53 : Int32) (-1074 : Int32) (9218868437227405312 : Int64) _ h) (cwV 4 hts (zg_V zu_381 zu_382 zu_383 zu_90 zu_384) rfl rfl rfl (by decide +kernel) ⟨Nat.le_of_ble_eq_true rfl, Nat.le_of_ble_eq_true rfl⟩) (ci := 3) rfl ho rfl hl.1 rfl (Nat.le_of_ble_eq_true rfl) dX6_real_27 ⟨Nat.le_of_ble_eq_true rfl, Nat.le_of_ble_eq_true rfl⟩ (fun r6 M5 H locs hw h => ?_)
    refine lv_lstore_n (lv' := [(3, .long r6), (2, .ref a3), (0, .ref a0), (1, .int a1)]) hx hb dX6_real_30 rfl hl (by decide) rfl (fun ls hl => ?_)
    refine lv_aload_n hx hb dX6_real_31 rfl (lv_at hl 1 rfl) ?_
    refine zr_giN (C := RX2) (T := TX2) (N := 3) (ci := 5) (k := 0) (host := "LeastTerms") S hK hw zi_X2 rfl (by decide) (by decide +kernel) dX6_real_32 h (fun sign_7 h => ?_)
    refine lv_if_ge (tgt := 46) hx hb dX6_real_35 (by decide) (fun hc => ?_) (fun hc => ?_)
    · have h := h.1 hc
      refine lv_lload_n hx hb dX6_real_46 rfl (lv_at hl 0 rfl) ?_
      exact zr_rl S hr hlocks hw h dX6_real_47
    · have h := h.2 hc
      refine lv_lload_n hx hb dX6_real_38 rfl (lv_at hl 0 rfl) ?_
      refine lv_ldc2 (v := (-9223372036854775808 : Int64)) hx hb hown (hts _ zu_385) dX6_real_39 ?_
      refine lv_lor hx hb dX6_real_42 ?_
      refine lv_goto (tgt := 47) hx hb dX6_real_43 (by decide) ?_
      exact zr_rl S hr hlocks hw h dX6_real_47
set_option maxHeartbeats 4000000 in
set_option maxRecDepth 100000 in
theorem kX6_single (l : Launch) (lo : Nat) (g : zg) (M : zm_M) (a0 : Nat) (a1 : Int32) (post : Int32 → zm_M → Prop) (h : pX6_single g.2 a0 a1 post M) : Met l yX6_single (Cond.code yX6_single cX6_single 5 (some .int) :: zU) (({ frames := 5, cells := 0, slots := 0, locals := 158 } : Room)) (zc_P zNF zNM lo g M [.ref a0, .int a1]) (va_Qi post (zc_B lo g) (zA lo)) 0 0 (zA lo) := by
  refine Met.ofW (cc := cX6_single) (maxL := 5) (ret := (some .int)) (by decide) rfl ?_
  intro p e s m args below meth c s₁ B hml hv
  obtain ⟨rfl, hR, hK⟩ := hv
  have hts := atoms_spec (ws := Cond.code yX6_single cX6_single 5 (some .int) :: zU) B.pre
  have hts : ∀ w ∈ zU, w.before _ s = true := fun w hw => hts w (List.mem_cons_of_mem _ hw)
  have hown : s.vm.findClass RX6 = some m.cls := findClass_of_methodNamed B.named
  have hx := B.exec
  have hb := B.bytes
  have hr := B.returns
  have hlocks := B.notSynchronized
  have S : CallFix p m c cX6_single 5 s ([.ref a0, .int a1] : List Value).toArray zU RX6 := ⟨hx, hb, hml, hown, hts⟩
  have hw : zW lo g s s.heap [] M := ⟨hR, va_S.rf⟩
  have hl := lv_entry ([.ref a0, .int a1]) (n := 5) (Nat.le_of_ble_eq_true rfl)
  rw [lg_entry_eq]
  generalize (lg_sl ([.ref a0, .int a1]) ++ List.replicate (5 - (lg_sl ([.ref a0, .int a1])).length) Slot.unset).toArray = ls at hl ⊢
  have hl : lv_has ls 5 [(0, .ref a0), (1, .int a1)] := hl
  unfold pX6_single at h
  refine lv_aload_n hx hb dX6_single_0 rfl (lv_at hl 0 rfl) ?_
  refine lv_iload_n hx hb dX6_single_1 rfl (lv_at hl 1 rfl) ?_
  obtain ⟨ho, h⟩ := h
  refine zr_Vq (As := [.int a1]) (rest := []) S hK hw (kX6_find l lo g M a0 a1 _ h) (cwV 1 hts (zg_V zu_311 zu_312 zu_313 zu_303 zu_314) rfl rfl rfl (by decide +kernel) ⟨Nat.le_of_ble_eq_true rfl, Nat.le_of_ble_eq_true rfl⟩) (ci := 9) rfl ho rfl hl.1 rfl (Nat.le_of_ble_eq_true rfl) dX6_single_2 ⟨Nat.le_of_ble_eq_true rfl, Nat.le_of_ble_eq_true rfl⟩ (fun r2 M1 H locs hw h => ?_)
  rcases r2 with _ | a3
  · have h := h.1 rfl
    refine lv_astore_nN (lv' := [(2, .null), (0, .ref a0), (1, .int a1)]) hx hb dX6_single_5 rfl hl (by decide) rfl (fun ls hl => ?_)
    refine lv_aload_nN hx hb dX6_single_6 rfl (lv_at hl 0 rfl) ?_
    refine lv_ifnonnullN hx hb dX6_single_7 ?_
    refine lv_iconst (v := (-1 : Int32)) hx hb dX6_single_10 (by decide) ?_
    exact zr_ri S hr hlocks hw h dX6_single_11
  · have h := h.2 a3 rfl
    refine lv_astore_n (lv' := [(2, .ref a3), (0, .ref a0), (1, .int a1)]) hx hb dX6_single_5 rfl hl (by decide) rfl (fun ls hl => ?_)
    refine lv_aload_n hx hb dX6_single_6 rfl (lv_at hl 0 rfl) ?_
    refine lv_ifnonnull (tgt := 12) hx hb dX6_single_7 (by decide) ?_
    refine lv_aload_n hx hb dX6_single_12 rfl (lv_at hl 1 rfl) ?_
    refine zr_ga (C := RX6) (T := TX6) (N := 7) (ci := 9) (k := 3) S hK hw zi_X6 rfl (by decide) zu_285 dX6_single_13 h (fun bench_4 h => ?_)
    refine lv_aload_n hx hb dX6_single_16 rfl (lv_at hl 0 rfl) ?_
    refine lv_bipush (v := (24 : Int32)) hx hb dX6_single_17 (by decide) ?_
    refine lv_sipush (v := (-149 : Int32)) hx hb dX6_single_19 (by decide) ?_
    refine lv_ldc2 (v := (2139095040 : Int64)) hx hb hown (hts _ zu_386) dX6_single_22 ?_
    obtain ⟨ho, h⟩ := h
    refine zr_Vl (As := [.ref a3, .int (24 : Int32), .int (-149 : Int32), .long (2139095040 : Int64)]) (rest := []) S hK hw (kX0_nearestBits l lo g M1 bench_4 a3 (24 : Int32) (-149 : Int32) (2139095040 : Int64) _ h) (cwV 4 hts (zg_V zu_381 zu_382 zu_383 zu_90 zu_384) rfl rfl rfl (by decide +kernel) ⟨Nat.le_of_ble_eq_true rfl, Nat.le_of_ble_eq_true rfl⟩) (ci := 3) rfl ho rfl hl.1 rfl (Nat.le_of_ble_eq_true rfl) dX6_single_25 ⟨Nat.le_of_ble_eq_true rfl, Nat.le_of_ble_eq_true rfl⟩ (fun r6 M5 H locs hw h => ?_)
    refine lv_lstore_n (lv' := [(3, .long r6), (2, .ref a3), (0, .ref a0), (1, .int a1)]) hx hb dX6_single_28 rfl hl (by decide) rfl (fun ls hl => ?_)
    refine lv_aload_n hx hb dX6_single_29 rfl (lv_at hl 1 rfl) ?_
    refine zr_giN (C := RX2) (T := TX2) (N := 3) (ci := 5) (k := 0) (host := "LeastTerms") S hK hw zi_X2 rfl (by decide) (by decide +kernel) dX6_single_30 h (fun sign_7 h => ?_)
    refine lv_if_ge (tgt := 44) hx hb dX6_single_33 (by decide) (fun hc => ?_) (fun hc => ?_)
    · have h := h.1 hc
      refine lv_lload_n hx hb dX6_single_44 rfl (lv_at hl 0 rfl) ?_
      refine lv_l2i hx hb dX6_single_45 rfl ?_
      exact zr_ri S hr hlocks hw h dX6_single_46
    · have h := h.2 hc
      refine lv_lload_n hx hb dX6_single_36 rfl (lv_at hl 0 rfl) ?_
      refine lv_ldc2 (v := (2147483648 : Int64)) hx hb hown (hts _ zu_387) dX6_single_37 ?_
      refine lv_lor hx hb dX6_single_40 ?_
      refine lv_goto (tgt := 45) hx hb dX6_single_41 (by decide) ?_
      refine lv_l2i hx hb dX6_single_45 rfl ?_
      exact zr_ri S hr hlocks hw h dX6_single_46
set_option maxHeartbeats 4000000 in
set_option maxRecDepth 100000 in
theorem kX6_feed (l : Launch) (lo : Nat) (g : zg) (M : zm_M) (a0 : Nat) (a1 : Int32) (post : Int32 → zm_M → Prop) (h : pX6_feed g.2 a0 a1 post M) : Met l yX6_feed (Cond.code yX6_feed cX6_feed 2 (some .int) :: zU) (({ frames := 2, cells := 0, slots := 0, locals := 61 } : Room)) (zc_P zNF zNM lo g M [.ref a0, .int a1]) (va_Qi post (zc_B lo g) (zA lo)) 0 0 (zA lo) := by
  refine Met.ofW (cc := cX6_feed) (maxL := 2) (ret := (some .int)) (by decide) rfl ?_
  intro p e s m args below meth c s₁ B hml hv
  obtain ⟨rfl, hR, hK⟩ := hv
  have hts := atoms_spec (ws := Cond.code yX6_feed cX6_feed 2 (some .int) :: zU) B.pre
  have hts : ∀ w ∈ zU, w.before _ s = true := fun w hw => hts w (List.mem_cons_of_mem _ hw)
  have hown : s.vm.findClass RX6 = some m.cls := findClass_of_methodNamed B.named
  have hx := B.exec
  have hb := B.bytes
  have hr := B.returns
  have hlocks := B.notSynchronized
  have S : CallFix p m c cX6_feed 2 s ([.ref a0, .int a1] : List Value).toArray zU RX6 := ⟨hx, hb, hml, hown, hts⟩
  have hw : zW lo g s s.heap [] M := ⟨hR, va_S.rf⟩
  have hl := lv_entry ([.ref a0, .int a1]) (n := 2) (Nat.le_of_ble_eq_true rfl)
  rw [lg_entry_eq]
  generalize (lg_sl ([.ref a0, .int a1]) ++ List.replicate (2 - (lg_sl ([.ref a0, .int a1])).length) Slot.unset).toArray = ls at hl ⊢
  have hl : lv_has ls 2 [(0, .ref a0), (1, .int a1)] := hl
  unfold pX6_feed at h
  refine lv_iload_n hx hb dX6_feed_0 rfl (lv_at hl 1 rfl) ?_
  refine lv_if_lt (tgt := 11) hx hb dX6_feed_1 (by decide) (fun hc => ?_) (fun hc => ?_)
  · have h := h.1 hc
    refine lv_iconst (v := (-1 : Int32)) hx hb dX6_feed_11 (by decide) ?_
    exact zr_ri S hr hlocks hw h dX6_feed_12
  · have h := h.2 hc
    refine lv_iload_n hx hb dX6_feed_4 rfl (lv_at hl 1 rfl) ?_
    refine lv_sipush (v := (255 : Int32)) hx hb dX6_feed_5 (by decide) ?_
    refine lv_icmp_le (tgt := 13) hx hb dX6_feed_8 (by decide) (fun hc => ?_) (fun hc => ?_)
    · have h := h.1 hc
      refine lv_aload_n hx hb dX6_feed_13 rfl (lv_at hl 0 rfl) ?_
      refine zr_ga (C := RX6) (T := TX6) (N := 7) (ci := 9) (k := 5) S hK hw zi_X6 rfl (by decide) zu_391 dX6_feed_14 h (fun tape_1 h => ?_)
      refine lv_iload_n hx hb dX6_feed_17 rfl (lv_at hl 1 rfl) ?_
      obtain ⟨ho, h⟩ := h
      refine zr_Vi (As := [.int a1]) (rest := []) S hK hw (kX4_add l lo g M tape_1 a1 _ h) (cwV 1 hts (zg_V zu_392 zu_393 zu_394 zu_264 zu_395) rfl rfl rfl (by decide +kernel) ⟨Nat.le_of_ble_eq_true rfl, Nat.le_of_ble_eq_true rfl⟩) (ci := 7) rfl ho rfl hl.1 rfl (Nat.le_of_ble_eq_true rfl) dX6_feed_18 ⟨Nat.le_of_ble_eq_true rfl, Nat.le_of_ble_eq_true rfl⟩ (fun r3 M2 H locs hw h => ?_)
      refine lv_if_eq (tgt := 34) hx hb dX6_feed_21 (by decide) (fun hc => ?_) (fun hc => ?_)
      · have h := h.1 hc
        refine lv_bipush (v := (-3 : Int32)) hx hb dX6_feed_34 (by decide) ?_
        exact zr_ri S hr hlocks hw h dX6_feed_36
      · have h := h.2 hc
        refine lv_aload_n hx hb dX6_feed_24 rfl (lv_at hl 0 rfl) ?_
        refine zr_ga (C := RX6) (T := TX6) (N := 7) (ci := 9) (k := 5) S hK hw zi_X6 rfl (by decide) zu_391 dX6_feed_25 h (fun tape_4 h => ?_)
        refine zr_giN (C := RX4) (T := TX4) (N := 5) (ci := 7) (k := 1) (host := "LeastTerms") S hK hw zi_X4 rfl (by decide) (by decide +kernel) dX6_feed_28 h (fun length_5 h => ?_)
        refine lv_goto (tgt := 36) hx hb dX6_feed_31 (by decide) ?_
        exact zr_ri S hr hlocks hw h dX6_feed_36
    · have h := h.2 hc
      refine lv_iconst (v := (-1 : Int32)) hx hb dX6_feed_11 (by decide) ?_
      exact zr_ri S hr hlocks hw h dX6_feed_12
set_option maxHeartbeats 4000000 in
set_option maxRecDepth 100000 in
theorem sX6_text_28 {p : Program} {l : Launch} {e : Env} {s : State} {m : MethodId} {args : Array Value} {below : List Frame} {meth : Method} {c : Code} {lo : Nat} {g : zg} {post : Int32 → zm_M → Prop}  (S : CallFix p m c cX6_text 3 s args zU RX6) (hr : meth.sig.returnType = (some .int)) (hlocks : meth.locks = false) (hK : zk_K zNF zNM g s)  : ∀ (v0 : Nat) (v2 : Nat) (s0 : Nat) (s1 : Int32) (M : zm_M), pX6_text_28 g.2 post  v0 v2 s0 s1 M → ∀ (H : Heap) (locs : List Loc) (ls : Array Slot), zW lo g s H locs M → lv_has ls 3 [(0, .ref v0), (2, .ref v2)] → W p l e ({ frames := 4, cells := 0, slots := 0, locals := 112 } : Room) s m args below meth c H locs 0 0 (MQ below (va_Qi post (zc_B lo g) (zA lo)) args s 0 0 (zA lo)) (F0 m 28 ls [.int s1, .ref s0]) := by
  obtain ⟨hx, hb, hml, hown, hts⟩ := id S
  intro v0 v2 s0 s1 M h H locs ls hw hl
  unfold pX6_text_28 at h
  obtain ⟨ho, h⟩ := h
  refine zr_Vv (As := [.int s1]) (rest := []) S hK hw (kX3_begin l lo g M s0 s1 _ h) (cwV 1 hts (zg_V zu_410 zu_411 zu_412 zu_240 zu_413) rfl rfl rfl (by decide +kernel) ⟨Nat.le_of_ble_eq_true rfl, Nat.le_of_ble_eq_true rfl⟩) (ci := 6) rfl ho rfl hl.1 rfl (Nat.le_of_ble_eq_true rfl) dX6_text_28 ⟨Nat.le_of_ble_eq_true rfl, Nat.le_of_ble_eq_true rfl⟩ (fun M6 H locs hw h => ?_)
  refine lv_aload_n hx hb dX6_text_31 rfl (lv_at hl 0 rfl) ?_
  refine zr_ga (C := RX6) (T := TX6) (N := 7) (ci := 9) (k := 6) S hK hw zi_X6 rfl (by decide) zu_409 dX6_text_32 h (fun sheet_7 h => ?_)
  refine lv_aload_n hx hb dX6_text_35 rfl (lv_at hl 1 rfl) ?_
  refine zr_gaN (C := RX2) (T := TX2) (N := 3) (ci := 5) (k := 1) (host := "LeastTerms") S hK hw zi_X2 rfl (by decide) (by decide +kernel) dX6_text_36 h (fun top_8 h => ?_)
  obtain ⟨ho, h⟩ := h
  refine zr_Vv (As := [.ref top_8]) (rest := []) S hK hw (kX3_addSize l lo g M6 sheet_7 top_8 _ h) (cwV 1 hts (zg_V zu_414 zu_254 zu_255 zu_240 zu_256) rfl rfl rfl (by decide +kernel) ⟨Nat.le_of_ble_eq_true rfl, Nat.le_of_ble_eq_true rfl⟩) (ci := 6) rfl ho rfl hl.1 rfl (Nat.le_of_ble_eq_true rfl) dX6_text_39 ⟨Nat.le_of_ble_eq_true rfl, Nat.le_of_ble_eq_true rfl⟩ (fun M9 H locs hw h => ?_)
  refine lv_aload_n hx hb dX6_text_42 rfl (lv_at hl 1 rfl) ?_
  obtain ⟨ho, h⟩ := h
  refine zr_Vi (As := []) (rest := []) S hK hw (kX2_isWhole l lo g M9 v2  _ h) (cwV 0 hts (zg_V zu_339 zu_340 zu_341 zu_99 zu_342) rfl rfl rfl (by decide +kernel) ⟨Nat.le_of_ble_eq_true rfl, Nat.le_of_ble_eq_true rfl⟩) (ci := 5) rfl ho rfl hl.1 rfl (Nat.le_of_ble_eq_true rfl) dX6_text_43 ⟨Nat.le_of_ble_eq_true rfl, Nat.le_of_ble_eq_true rfl⟩ (fun r11 M10 H locs hw h => ?_)
  refine lv_if_ne (tgt := 69) hx hb dX6_text_46 (by decide) (fun hc => ?_) (fun hc => ?_)
  · have h := h.1 hc
    refine lv_aload_n hx hb dX6_text_69 rfl (lv_at hl 0 rfl) ?_
    refine zr_ga (C := RX6) (T := TX6) (N := 7) (ci := 9) (k := 6) S hK hw zi_X6 rfl (by decide) zu_409 dX6_text_70 h (fun sheet_12 h => ?_)
    refine zr_giN (C := RX3) (T := TX3) (N := 5) (ci := 6) (k := 1) (host := "LeastTerms") S hK hw zi_X3 rfl (by decide) (by decide +kernel) dX6_text_73 h (fun length_13 h => ?_)
    exact zr_ri S hr hlocks hw h dX6_text_76
  · have h := h.2 hc
    refine lv_aload_n hx hb dX6_text_49 rfl (lv_at hl 0 rfl) ?_
    refine zr_ga (C := RX6) (T := TX6) (N := 7) (ci := 9) (k := 6) S hK hw zi_X6 rfl (by decide) zu_409 dX6_text_50 h (fun sheet_14 h => ?_)
    refine lv_bipush (v := (47 : Int32)) hx hb dX6_text_53 (by decide) ?_
    obtain ⟨ho, h⟩ := h
    refine zr_Vv (As := [.int (47 : Int32)]) (rest := []) S hK hw (kX3_add l lo g M10 sheet_14 (47 : Int32) _ h) (cwV 1 hts (zg_V zu_415 zu_238 zu_239 zu_240 zu_241) rfl rfl rfl (by decide +kernel) ⟨Nat.le_of_ble_eq_true rfl, Nat.le_of_ble_eq_true rfl⟩) (ci := 6) rfl ho rfl hl.1 rfl (Nat.le_of_ble_eq_true rfl) dX6_text_55 ⟨Nat.le_of_ble_eq_true rfl, Nat.le_of_ble_eq_true rfl⟩ (fun M15 H locs hw h => ?_)
    refine lv_aload_n hx hb dX6_text_58 rfl (lv_at hl 0 rfl) ?_
    refine zr_ga (C := RX6) (T := TX6) (N := 7) (ci := 9) (k := 6) S hK hw zi_X6 rfl (by decide) zu_409 dX6_text_59 h (fun sheet_16 h => ?_)
    refine lv_aload_n hx hb dX6_text_62 rfl (lv_at hl 1 rfl) ?_
    refine zr_gaN (C := RX2) (T := TX2) (N := 3) (ci := 5) (k := 2) (host := "LeastTerms") S hK hw zi_X2 rfl (by decide) (by decide +kernel) dX6_text_63 h (fun bottom_17 h => ?_)
    obtain ⟨ho, h⟩ := h
    refine zr_Vv (As := [.ref bottom_17]) (rest := []) S hK hw (kX3_addSize l lo g M15 sheet_16 bottom_17 _ h) (cwV 1 hts (zg_V zu_414 zu_254 zu_255 zu_240 zu_256) rfl rfl rfl (by decide +kernel) ⟨Nat.le_of_ble_eq_true rfl, Nat.le_of_ble_eq_true rfl⟩) (ci := 6) rfl ho rfl hl.1 rfl (Nat.le_of_ble_eq_true rfl) dX6_text_66 ⟨Nat.le_of_ble_eq_true rfl, Nat.le_of_ble_eq_true rfl⟩ (fun M18 H locs hw h => ?_)
    refine lv_aload_n hx hb dX6_text_69 rfl (lv_at hl 0 rfl) ?_
    refine zr_ga (C := RX6) (T := TX6) (N := 7) (ci := 9) (k := 6) S hK hw zi_X6 rfl (by decide) zu_409 dX6_text_70 h (fun sheet_19 h => ?_)
    refine zr_giN (C := RX3) (T := TX3) (N := 5) (ci := 6) (k := 1) (host := "LeastTerms") S hK hw zi_X3 rfl (by decide) (by decide +kernel) dX6_text_73 h (fun length_20 h => ?_)
    exact zr_ri S hr hlocks hw h dX6_text_76
set_option maxHeartbeats 4000000 in
set_option maxRecDepth 100000 in
theorem kX6_text (l : Launch) (lo : Nat) (g : zg) (M : zm_M) (a0 : Nat) (a1 : Int32) (post : Int32 → zm_M → Prop) (h : pX6_text g.2 a0 a1 post M) : Met l yX6_text (Cond.code yX6_text cX6_text 3 (some .int) :: zU) (({ frames := 4, cells := 0, slots := 0, locals := 112 } : Room)) (zc_P zNF zNM lo g M [.ref a0, .int a1]) (va_Qi post (zc_B lo g) (zA lo)) 0 0 (zA lo) := by
  refine Met.ofW (cc := cX6_text) (maxL := 3) (ret := (some .int)) (by decide) rfl ?_
  intro p e s m args below meth c s₁ B hml hv
  obtain ⟨rfl, hR, hK⟩ := hv
  have hts := atoms_spec (ws := Cond.code yX6_text cX6_text 3 (some .int) :: zU) B.pre
  have hts : ∀ w ∈ zU, w.before _ s = true := fun w hw => hts w (List.mem_cons_of_mem _ hw)
  have hown : s.vm.findClass RX6 = some m.cls := findClass_of_methodNamed B.named
  have hx := B.exec
  have hb := B.bytes
  have hr := B.returns
  have hlocks := B.notSynchronized
  have S : CallFix p m c cX6_text 3 s ([.ref a0, .int a1] : List Value).toArray zU RX6 := ⟨hx, hb, hml, hown, hts⟩
  have hw : zW lo g s s.heap [] M := ⟨hR, va_S.rf⟩
  have hl := lv_entry ([.ref a0, .int a1]) (n := 3) (Nat.le_of_ble_eq_true rfl)
  rw [lg_entry_eq]
  generalize (lg_sl ([.ref a0, .int a1]) ++ List.replicate (3 - (lg_sl ([.ref a0, .int a1])).length) Slot.unset).toArray = ls at hl ⊢
  have hl : lv_has ls 3 [(0, .ref a0), (1, .int a1)] := hl
  unfold pX6_text at h
  refine lv_aload_n hx hb dX6_text_0 rfl (lv_at hl 0 rfl) ?_
  refine lv_iload_n hx hb dX6_text_1 rfl (lv_at hl 1 rfl) ?_
  obtain ⟨ho, h⟩ := h
  refine zr_Vq (As := [.int a1]) (rest := []) S hK hw (kX6_find l lo g M a0 a1 _ h) (cwV 1 hts (zg_V zu_311 zu_312 zu_313 zu_303 zu_314) rfl rfl rfl (by decide +kernel) ⟨Nat.le_of_ble_eq_true rfl, Nat.le_of_ble_eq_true rfl⟩) (ci := 9) rfl ho rfl hl.1 rfl (Nat.le_of_ble_eq_true rfl) dX6_text_2 ⟨Nat.le_of_ble_eq_true rfl, Nat.le_of_ble_eq_true rfl⟩ (fun r2 M1 H locs hw h => ?_)
  rcases r2 with _ | a3
  · have h := h.1 rfl
    refine lv_astore_nN (lv' := [(2, .null), (0, .ref a0), (1, .int a1)]) hx hb dX6_text_5 rfl hl (by decide) rfl (fun ls hl => ?_)
    refine lv_aload_nN hx hb dX6_text_6 rfl (lv_at hl 0 rfl) ?_
    refine lv_ifnonnullN hx hb dX6_text_7 ?_
    refine lv_iconst (v := (-1 : Int32)) hx hb dX6_text_10 (by decide) ?_
    exact zr_ri S hr hlocks hw h dX6_text_11
  · have h := h.2 a3 rfl
    refine lv_astore_n (lv' := [(2, .ref a3), (0, .ref a0), (1, .int a1)]) hx hb dX6_text_5 rfl hl (by decide) rfl (fun ls hl => ?_)
    refine lv_aload_n hx hb dX6_text_6 rfl (lv_at hl 0 rfl) ?_
    refine lv_ifnonnull (tgt := 12) hx hb dX6_text_7 (by decide) ?_
    refine lv_aload_n hx hb dX6_text_12 rfl (lv_at hl 1 rfl) ?_
    refine zr_ga (C := RX6) (T := TX6) (N := 7) (ci := 9) (k := 6) S hK hw zi_X6 rfl (by decide) zu_409 dX6_text_13 h (fun sheet_4 h => ?_)
    refine lv_aload_n hx hb dX6_text_16 rfl (lv_at hl 0 rfl) ?_
    refine zr_giN (C := RX2) (T := TX2) (N := 3) (ci := 5) (k := 0) (host := "LeastTerms") S hK hw zi_X2 rfl (by decide) (by decide +kernel) dX6_text_17 h (fun sign_5 h => ?_)
    refine lv_if_ge (tgt := 27) hx hb dX6_text_20 (by decide) (fun hc => ?_) (fun hc => ?_)
    · have h := h.1 hc
      refine lv_iconst (v := (0 : Int32)) hx hb dX6_text_27 (by decide) ?_
      exact sX6_text_28 S hr hlocks hK  a0 a3 sheet_4 (0 : Int32) _ h _ _ _ hw (lv_sub hl [1, 0] rfl)
    · have h := h.2 hc
      refine lv_iconst (v := (1 : Int32)) hx hb dX6_text_23 (by decide) ?_
      refine lv_goto (tgt := 28) hx hb dX6_text_24 (by decide) ?_
      exact sX6_text_28 S hr hlocks hK  a0 a3 sheet_4 (1 : Int32) _ h _ _ _ hw (lv_sub hl [1, 0] rfl)
set_option maxHeartbeats 4000000 in
set_option maxRecDepth 100000 in
theorem sX6_figures_38 {p : Program} {l : Launch} {e : Env} {s : State} {m : MethodId} {args : Array Value} {below : List Frame} {meth : Method} {c : Code} {lo : Nat} {g : zg} {post : Int32 → zm_M → Prop}  (S : CallFix p m c cX6_figures 4 s args zU RX6) (hr : meth.sig.returnType = (some .int)) (hlocks : meth.locks = false) (hK : zk_K zNF zNM g s)  : ∀ (v0 : Nat) (v2 : Int32) (v3 : Nat) (s0 : Nat) (s1 : Int32) (M : zm_M), pX6_figures_38 g.2 post  v0 v2 v3 s0 s1 M → ∀ (H : Heap) (locs : List Loc) (ls : Array Slot), zW lo g s H locs M → lv_has ls 4 [(0, .ref v0), (2, .int v2), (3, .ref v3)] → W p l e ({ frames := 5, cells := 0, slots := 0, locals := 152 } : Room) s m args below meth c H locs 0 0 (MQ below (va_Qi post (zc_B lo g) (zA lo)) args s 0 0 (zA lo)) (F0 m 38 ls [.int s1, .ref s0]) := by
  obtain ⟨hx, hb, hml, hown, hts⟩ := id S
  intro v0 v2 v3 s0 s1 M h H locs ls hw hl
  unfold pX6_figures_38 at h
  obtain ⟨ho, h⟩ := h
  refine zr_Vv (As := [.int s1]) (rest := []) S hK hw (kX3_begin l lo g M s0 s1 _ h) (cwV 1 hts (zg_V zu_410 zu_411 zu_412 zu_240 zu_413) rfl rfl rfl (by decide +kernel) ⟨Nat.le_of_ble_eq_true rfl, Nat.le_of_ble_eq_true rfl⟩) (ci := 6) rfl ho rfl hl.1 rfl (Nat.le_of_ble_eq_true rfl) dX6_figures_38 ⟨Nat.le_of_ble_eq_true rfl, Nat.le_of_ble_eq_true rfl⟩ (fun M6 H locs hw h => ?_)
  refine lv_aload_n hx hb dX6_figures_41 rfl (lv_at hl 0 rfl) ?_
  refine zr_ga (C := RX6) (T := TX6) (N := 7) (ci := 9) (k := 6) S hK hw zi_X6 rfl (by decide) zu_409 dX6_figures_42 h (fun sheet_7 h => ?_)
  refine lv_aload_n hx hb dX6_figures_45 rfl (lv_at hl 2 rfl) ?_
  refine lv_iload_n hx hb dX6_figures_46 rfl (lv_at hl 1 rfl) ?_
  obtain ⟨ho, h⟩ := h
  refine zr_Vv (As := [.ref v3, .int v2]) (rest := []) S hK hw (kX3_addCut l lo g M6 sheet_7 v3 v2 _ h) (cwV 2 hts (zg_V zu_416 zu_417 zu_418 zu_240 zu_419) rfl rfl rfl (by decide +kernel) ⟨Nat.le_of_ble_eq_true rfl, Nat.le_of_ble_eq_true rfl⟩) (ci := 6) rfl ho rfl hl.1 rfl (Nat.le_of_ble_eq_true rfl) dX6_figures_47 ⟨Nat.le_of_ble_eq_true rfl, Nat.le_of_ble_eq_true rfl⟩ (fun M8 H locs hw h => ?_)
  refine lv_aload_n hx hb dX6_figures_50 rfl (lv_at hl 0 rfl) ?_
  refine zr_ga (C := RX6) (T := TX6) (N := 7) (ci := 9) (k := 6) S hK hw zi_X6 rfl (by decide) zu_409 dX6_figures_51 h (fun sheet_9 h => ?_)
  refine zr_giN (C := RX3) (T := TX3) (N := 5) (ci := 6) (k := 1) (host := "LeastTerms") S hK hw zi_X3 rfl (by decide) (by decide +kernel) dX6_figures_54 h (fun length_10 h => ?_)
  exact zr_ri S hr hlocks hw h dX6_figures_57
set_option maxHeartbeats 4000000 in
set_option maxRecDepth 100000 in
theorem kX6_figures (l : Launch) (lo : Nat) (g : zg) (M : zm_M) (a0 : Nat) (a1 : Int32) (a2 : Int32) (post : Int32 → zm_M → Prop) (h : pX6_figures g.2 a0 a1 a2 post M) : Met l yX6_figures (Cond.code yX6_figures cX6_figures 4 (some .int) :: zU) (({ frames := 5, cells := 0, slots := 0, locals := 152 } : Room)) (zc_P zNF zNM lo g M [.ref a0, .int a1, .int a2]) (va_Qi post (zc_B lo g) (zA lo)) 0 0 (zA lo) := by
  refine Met.ofW (cc := cX6_figures) (maxL := 4) (ret := (some .int)) (by decide) rfl ?_
  intro p e s m args below meth c s₁ B hml hv
  obtain ⟨rfl, hR, hK⟩ := hv
  have hts := atoms_spec (ws := Cond.code yX6_figures cX6_figures 4 (some .int) :: zU) B.pre
  have hts : ∀ w ∈ zU, w.before _ s = true := fun w hw => hts w (List.mem_cons_of_mem _ hw)
  have hown : s.vm.findClass RX6 = some m.cls := findClass_of_methodNamed B.named
  have hx := B.exec
  have hb := B.bytes
  have hr := B.returns
  have hlocks := B.notSynchronized
  have S : CallFix p m c cX6_figures 4 s ([.ref a0, .int a1, .int a2] : List Value).toArray zU RX6 := ⟨hx, hb, hml, hown, hts⟩
  have hw : zW lo g s s.heap [] M := ⟨hR, va_S.rf⟩
  have hl := lv_entry ([.ref a0, .int a1, .int a2]) (n := 4) (Nat.le_of_ble_eq_true rfl)
  rw [lg_entry_eq]
  generalize (lg_sl ([.ref a0, .int a1, .int a2]) ++ List.replicate (4 - (lg_sl ([.ref a0, .int a1, .int a2])).length) Slot.unset).toArray = ls at hl ⊢
  have hl : lv_has ls 4 [(0, .ref a0), (1, .int a1), (2, .int a2)] := hl
  unfold pX6_figures at h
  refine lv_aload_n hx hb dX6_figures_0 rfl (lv_at hl 0 rfl) ?_
  refine lv_iload_n hx hb dX6_figures_1 rfl (lv_at hl 1 rfl) ?_
  obtain ⟨ho, h⟩ := h
  refine zr_Vq (As := [.int a1]) (rest := []) S hK hw (kX6_find l lo g M a0 a1 _ h) (cwV 1 hts (zg_V zu_311 zu_312 zu_313 zu_303 zu_314) rfl rfl rfl (by decide +kernel) ⟨Nat.le_of_ble_eq_true rfl, Nat.le_of_ble_eq_true rfl⟩) (ci := 9) rfl ho rfl hl.1 rfl (Nat.le_of_ble_eq_true rfl) dX6_figures_2 ⟨Nat.le_of_ble_eq_true rfl, Nat.le_of_ble_eq_true rfl⟩ (fun r2 M1 H locs hw h => ?_)
  rcases r2 with _ | a3
  · have h := h.1 rfl
    refine lv_astore_nN (lv' := [(3, .null), (0, .ref a0), (1, .int a1), (2, .int a2)]) hx hb dX6_figures_5 rfl hl (by decide) rfl (fun ls hl => ?_)
    refine lv_aload_nN hx hb dX6_figures_6 rfl (lv_at hl 0 rfl) ?_
    refine lv_ifnullN (tgt := 20) hx hb dX6_figures_7 (by decide) ?_
    refine lv_iconst (v := (-1 : Int32)) hx hb dX6_figures_20 (by decide) ?_
    exact zr_ri S hr hlocks hw h dX6_figures_21
  · have h := h.2 a3 rfl
    refine lv_astore_n (lv' := [(3, .ref a3), (0, .ref a0), (1, .int a1), (2, .int a2)]) hx hb dX6_figures_5 rfl hl (by decide) rfl (fun ls hl => ?_)
    refine lv_aload_n hx hb dX6_figures_6 rfl (lv_at hl 0 rfl) ?_
    refine lv_ifnull hx hb dX6_figures_7 ?_
    refine lv_iload_n hx hb dX6_figures_10 rfl (lv_at hl 3 rfl) ?_
    refine lv_if_lt (tgt := 20) hx hb dX6_figures_11 (by decide) (fun hc => ?_) (fun hc => ?_)
    · have h := h.1 hc
      refine lv_iconst (v := (-1 : Int32)) hx hb dX6_figures_20 (by decide) ?_
      exact zr_ri S hr hlocks hw h dX6_figures_21
    · have h := h.2 hc
      refine lv_iload_n hx hb dX6_figures_14 rfl (lv_at hl 3 rfl) ?_
      refine lv_bipush (v := (100 : Int32)) hx hb dX6_figures_15 (by decide) ?_
      refine lv_icmp_le (tgt := 22) hx hb dX6_figures_17 (by decide) (fun hc => ?_) (fun hc => ?_)
      · have h := h.1 hc
        refine lv_aload_n hx hb dX6_figures_22 rfl (lv_at hl 1 rfl) ?_
        refine zr_ga (C := RX6) (T := TX6) (N := 7) (ci := 9) (k := 6) S hK hw zi_X6 rfl (by decide) zu_409 dX6_figures_23 h (fun sheet_4 h => ?_)
        refine lv_aload_n hx hb dX6_figures_26 rfl (lv_at hl 0 rfl) ?_
        refine zr_giN (C := RX2) (T := TX2) (N := 3) (ci := 5) (k := 0) (host := "LeastTerms") S hK hw zi_X2 rfl (by decide) (by decide +kernel) dX6_figures_27 h (fun sign_5 h => ?_)
        refine lv_if_ge (tgt := 37) hx hb dX6_figures_30 (by decide) (fun hc => ?_) (fun hc => ?_)
        · have h := h.1 hc
          refine lv_iconst (v := (0 : Int32)) hx hb dX6_figures_37 (by decide) ?_
          exact sX6_figures_38 S hr hlocks hK  a0 a2 a3 sheet_4 (0 : Int32) _ h _ _ _ hw (lv_sub hl [1, 3, 0] rfl)
        · have h := h.2 hc
          refine lv_iconst (v := (1 : Int32)) hx hb dX6_figures_33 (by decide) ?_
          refine lv_goto (tgt := 38) hx hb dX6_figures_34 (by decide) ?_
          exact sX6_figures_38 S hr hlocks hK  a0 a2 a3 sheet_4 (1 : Int32) _ h _ _ _ hw (lv_sub hl [1, 3, 0] rfl)
      · have h := h.2 hc
        refine lv_iconst (v := (-1 : Int32)) hx hb dX6_figures_20 (by decide) ?_
        exact zr_ri S hr hlocks hw h dX6_figures_21
set_option maxHeartbeats 4000000 in
set_option maxRecDepth 100000 in
theorem kX6_out (l : Launch) (lo : Nat) (g : zg) (M : zm_M) (a0 : Nat) (a1 : Int32) (post : Int32 → zm_M → Prop) (h : pX6_out g.2 a0 a1 post M) : Met l yX6_out (Cond.code yX6_out cX6_out 2 (some .int) :: zU) (({ frames := 2, cells := 0, slots := 0, locals := 61 } : Room)) (zc_P zNF zNM lo g M [.ref a0, .int a1]) (va_Qi post (zc_B lo g) (zA lo)) 0 0 (zA lo) := by
  refine Met.ofW (cc := cX6_out) (maxL := 2) (ret := (some .int)) (by decide) rfl ?_
  intro p e s m args below meth c s₁ B hml hv
  obtain ⟨rfl, hR, hK⟩ := hv
  have hts := atoms_spec (ws := Cond.code yX6_out cX6_out 2 (some .int) :: zU) B.pre
  have hts : ∀ w ∈ zU, w.before _ s = true := fun w hw => hts w (List.mem_cons_of_mem _ hw)
  have hown : s.vm.findClass RX6 = some m.cls := findClass_of_methodNamed B.named
  have hx := B.exec
  have hb := B.bytes
  have hr := B.returns
  have hlocks := B.notSynchronized
  have S : CallFix p m c cX6_out 2 s ([.ref a0, .int a1] : List Value).toArray zU RX6 := ⟨hx, hb, hml, hown, hts⟩
  have hw : zW lo g s s.heap [] M := ⟨hR, va_S.rf⟩
  have hl := lv_entry ([.ref a0, .int a1]) (n := 2) (Nat.le_of_ble_eq_true rfl)
  rw [lg_entry_eq]
  generalize (lg_sl ([.ref a0, .int a1]) ++ List.replicate (2 - (lg_sl ([.ref a0, .int a1])).length) Slot.unset).toArray = ls at hl ⊢
  have hl : lv_has ls 2 [(0, .ref a0), (1, .int a1)] := hl
  unfold pX6_out at h
  refine lv_aload_n hx hb dX6_out_0 rfl (lv_at hl 0 rfl) ?_
  refine zr_ga (C := RX6) (T := TX6) (N := 7) (ci := 9) (k := 6) S hK hw zi_X6 rfl (by decide) zu_409 dX6_out_1 h (fun sheet_1 h => ?_)
  refine lv_iload_n hx hb dX6_out_4 rfl (lv_at hl 1 rfl) ?_
  obtain ⟨ho, h⟩ := h
  refine zr_Vi (As := [.int a1]) (rest := []) S hK hw (kX3_at l lo g M sheet_1 a1 _ h) (cwV 1 hts (zg_V zu_420 zu_421 zu_422 zu_240 zu_423) rfl rfl rfl (by decide +kernel) ⟨Nat.le_of_ble_eq_true rfl, Nat.le_of_ble_eq_true rfl⟩) (ci := 6) rfl ho rfl hl.1 rfl (Nat.le_of_ble_eq_true rfl) dX6_out_5 ⟨Nat.le_of_ble_eq_true rfl, Nat.le_of_ble_eq_true rfl⟩ (fun r3 M2 H locs hw h => ?_)
  exact zr_ri S hr hlocks hw h dX6_out_8
set_option maxHeartbeats 4000000 in
set_option maxRecDepth 100000 in
theorem sX6_leastFactor_2 {p : Program} {l : Launch} {e : Env} {s : State} {m : MethodId} {args : Array Value} {below : List Frame} {meth : Method} {c : Code} {lo : Nat} {g : zg} {post : Int32 → zm_M → Prop} {k23 : Int32 → zm_M → Prop} (S : CallFix p m c cX6_leastFactor 2 s args zU RX6) (hr : meth.sig.returnType = (some .int)) (hlocks : meth.locks = false) (hK : zk_K zNF zNM g s) (hk23 : ∀ (v0 : Int32) (M : zm_M), k23 v0 M → ∀ (H : Heap) (locs : List Loc) (ls : Array Slot), zW lo g s H locs M → lv_has ls 2 [(0, .int v0)] → W p l e ({ frames := 1, cells := 0, slots := 0, locals := 40 } : Room) s m args below meth c H locs 0 0 (MQ below (va_Qi post (zc_B lo g) (zA lo)) args s 0 0 (zA lo)) (F0 m 23 ls [])) : ∀ (n : Nat) (v0 : Int32) (v1 : Int32) (M : zm_M), pX6_leastFactor_2 g.2 post k23 n v0 v1 M → ∀ (H : Heap) (locs : List Loc) (ls : Array Slot), zW lo g s H locs M → lv_has ls 2 [(0, .int v0), (1, .int v1)] → W p l e ({ frames := 1, cells := 0, slots := 0, locals := 40 } : Room) s m args below meth c H locs 0 0 (MQ below (va_Qi post (zc_B lo g) (zA lo)) args s 0 0 (zA lo)) (F0 m 2 ls []) := by
  obtain ⟨hx, hb, hml, hown, hts⟩ := id S
  intro n
  induction n with
  | zero =>
    intro v0 v1 M h
    exact False.elim h
  | succ n2 ih =>
    intro v0 v1 M h H locs ls hw hl
    rw [pX6_leastFactor_2] at h
    refine lv_iload_n hx hb dX6_leastFactor_2 rfl (lv_at hl 1 rfl) ?_
    refine lv_iload_n hx hb dX6_leastFactor_3 rfl (lv_at hl 0 rfl) ?_
    refine lv_iload_n hx hb dX6_leastFactor_4 rfl (lv_at hl 1 rfl) ?_
    refine lv_idiv hx hb dX6_leastFactor_5 h.1 ?_
    have h := h.2
    refine lv_icmp_gt (tgt := 23) hx hb dX6_leastFactor_6 (by decide) (fun hc => ?_) (fun hc => ?_)
    · have h := h.1 hc
      exact hk23 v0 _ h _ _ _ hw (lv_sub hl [0] rfl)
    · have h := h.2 hc
      refine lv_iload_n hx hb dX6_leastFactor_9 rfl (lv_at hl 0 rfl) ?_
      refine lv_iload_n hx hb dX6_leastFactor_10 rfl (lv_at hl 1 rfl) ?_
      refine lv_irem hx hb dX6_leastFactor_11 h.1 ?_
      have h := h.2
      refine lv_if_ne (tgt := 17) hx hb dX6_leastFactor_12 (by decide) (fun hc => ?_) (fun hc => ?_)
      · have h := h.1 hc
        obtain ⟨x2, ex2⟩ : ∃ z : Int32, z = v1 + (1 : Int32) := ⟨_, rfl⟩
        have h := h x2 ex2
        refine lv_iinc (v := x2) (lv' := [(1, .int x2), (0, .int v0)]) hx hb dX6_leastFactor_17 hl (k := 1) rfl (by rw [ex2]; rfl) (by decide) rfl (fun ls hl => ?_)
        refine lv_goto (tgt := 2) hx hb dX6_leastFactor_20 (by decide) ?_
        exact ih v0 x2 _ h _ _ _ hw (lv_sub hl [1, 0] rfl)
      · have h := h.2 hc
        refine lv_iload_n hx hb dX6_leastFactor_15 rfl (lv_at hl 1 rfl) ?_
        exact zr_ri S hr hlocks hw h dX6_leastFactor_16
set_option maxHeartbeats 4000000 in
set_option maxRecDepth 100000 in
theorem kX6_leastFactor (l : Launch) (lo : Nat) (g : zg) (M : zm_M) (a0 : Int32) (post : Int32 → zm_M → Prop) (h : pX6_leastFactor g.2 a0 post M) : Met l yX6_leastFactor (Cond.code yX6_leastFactor cX6_leastFactor 2 (some .int) :: zU) (({ frames := 1, cells := 0, slots := 0, locals := 40 } : Room)) (zc_P zNF zNM lo g M [.int a0]) (va_Qi post (zc_B lo g) (zA lo)) 0 0 (zA lo) := by
  refine Met.ofW (cc := cX6_leastFactor) (maxL := 2) (ret := (some .int)) (by decide) rfl ?_
  intro p e s m args below meth c s₁ B hml hv
  obtain ⟨rfl, hR, hK⟩ := hv
  have hts := atoms_spec (ws := Cond.code yX6_leastFactor cX6_leastFactor 2 (some .int) :: zU) B.pre
  have hts : ∀ w ∈ zU, w.before _ s = true := fun w hw => hts w (List.mem_cons_of_mem _ hw)
  have hown : s.vm.findClass RX6 = some m.cls := findClass_of_methodNamed B.named
  have hx := B.exec
  have hb := B.bytes
  have hr := B.returns
  have hlocks := B.notSynchronized
  have S : CallFix p m c cX6_leastFactor 2 s ([.int a0] : List Value).toArray zU RX6 := ⟨hx, hb, hml, hown, hts⟩
  have hw : zW lo g s s.heap [] M := ⟨hR, va_S.rf⟩
  have hl := lv_entry ([.int a0]) (n := 2) (Nat.le_of_ble_eq_true rfl)
  rw [lg_entry_eq]
  generalize (lg_sl ([.int a0]) ++ List.replicate (2 - (lg_sl ([.int a0])).length) Slot.unset).toArray = ls at hl ⊢
  have hl : lv_has ls 2 [(0, .int a0)] := hl
  unfold pX6_leastFactor at h
  refine lv_iconst (v := (2 : Int32)) hx hb dX6_leastFactor_0 (by decide) ?_
  refine lv_topi (fun x1 ex1 => ?_)
  have h := h x1 ex1
  refine lv_istore_n (lv' := [(1, .int x1), (0, .int a0)]) hx hb dX6_leastFactor_1 rfl hl (by decide) rfl (fun ls hl => ?_)
  obtain ⟨n2, h⟩ := h
  refine sX6_leastFactor_2 S hr hlocks hK (fun w3 M4 h H locs ls hw hl => ?_) n2 a0 x1 _ h _ _ _ hw (lv_sub hl [1, 0] rfl)
  refine lv_iload_n hx hb dX6_leastFactor_23 rfl (lv_at hl 0 rfl) ?_
  refine lv_iconst (v := (2 : Int32)) hx hb dX6_leastFactor_24 (by decide) ?_
  refine zr_max S hl.1 zu_390 zu_7 zu_4 zu_8 (Nat.le_of_ble_eq_true rfl) (Nat.le_of_ble_eq_true rfl) (Nat.zero_le _) (Nat.zero_le _) dX6_leastFactor_25 ?_
  exact zr_ri S hr hlocks hw h dX6_leastFactor_28
set_option maxHeartbeats 4000000 in
set_option maxRecDepth 100000 in
theorem sX6_totient_40 {p : Program} {l : Launch} {e : Env} {s : State} {m : MethodId} {args : Array Value} {below : List Frame} {meth : Method} {c : Code} {lo : Nat} {g : zg} {post : Int32 → zm_M → Prop} {k9 : Int32 → Int32 → Int32 → Int32 → zm_M → Prop} (S : CallFix p m c cX6_totient 6 s args zU RX6) (hr : meth.sig.returnType = (some .int)) (hlocks : meth.locks = false) (hK : zk_K zNF zNM g s) (hk9 : ∀ (v1 : Int32) (v2 : Int32) (v3 : Int32) (v4 : Int32) (M : zm_M), k9 v1 v2 v3 v4 M → ∀ (H : Heap) (locs : List Loc) (ls : Array Slot), zW lo g s H locs M → lv_has ls 6 [(1, .int v1), (2, .int v2), (3, .int v3), (4, .int v4)] → W p l e ({ frames := 2, cells := 0, slots := 0, locals := 61 } : Room) s m args below meth c H locs 0 0 (MQ below (va_Qi post (zc_B lo g) (zA lo)) args s 0 0 (zA lo)) (F0 m 9 ls [])) : ∀ (v1 : Int32) (v2 : Int32) (v4 : Int32) (v5 : Int32) (M : zm_M), pX6_totient_40 g.2 post k9 v1 v2 v4 v5 M → ∀ (H : Heap) (locs : List Loc) (ls : Array Slot), zW lo g s H locs M → lv_has ls 6 [(1, .int v1), (2, .int v2), (4, .int v4), (5, .int v5)] → W p l e ({ frames := 2, cells := 0, slots := 0, locals := 61 } : Room) s m args below meth c H locs 0 0 (MQ below (va_Qi post (zc_B lo g) (zA lo)) args s 0 0 (zA lo)) (F0 m 40 ls []) := by
  obtain ⟨hx, hb, hml, hown, hts⟩ := id S
  intro v1 v2 v4 v5 M h H locs ls hw hl
  unfold pX6_totient_40 at h
  refine lv_iload_n hx hb dX6_totient_40 rfl (lv_at hl 1 rfl) ?_
  refine lv_iload hx hb dX6_totient_41 (lv_at hl 3 rfl) ?_
  refine lv_idiv hx hb dX6_totient_43 h.1 ?_
  have h := h.2
  refine lv_topi (fun x5 ex5 => ?_)
  have h := h x5 ex5
  refine lv_istore_n (lv' := [(2, .int x5), (1, .int v1), (4, .int v4), (5, .int v5)]) hx hb dX6_totient_44 rfl hl (by decide) rfl (fun ls hl => ?_)
  refine lv_iload hx hb dX6_totient_45 (lv_at hl 3 rfl) ?_
  refine lv_istore_n (lv' := [(3, .int v5), (2, .int x5), (1, .int v1), (4, .int v4), (5, .int v5)]) hx hb dX6_totient_47 rfl hl (by decide) rfl (fun ls hl => ?_)
  obtain ⟨x6, ex6⟩ : ∃ z : Int32, z = v4 + (1 : Int32) := ⟨_, rfl⟩
  have h := h x6 ex6
  refine lv_iinc (v := x6) (lv' := [(4, .int x6), (3, .int v5), (2, .int x5), (1, .int v1), (5, .int v5)]) hx hb dX6_totient_48 hl (k := 3) rfl (by rw [ex6]; rfl) (by decide) rfl (fun ls hl => ?_)
  refine lv_goto (tgt := 9) hx hb dX6_totient_51 (by decide) ?_
  exact hk9 v1 x5 v5 x6 _ h _ _ _ hw (lv_sub hl [3, 2, 1, 0] rfl)
set_option maxHeartbeats 4000000 in
set_option maxRecDepth 100000 in
theorem sX6_totient_9 {p : Program} {l : Launch} {e : Env} {s : State} {m : MethodId} {args : Array Value} {below : List Frame} {meth : Method} {c : Code} {lo : Nat} {g : zg} {post : Int32 → zm_M → Prop}  (S : CallFix p m c cX6_totient 6 s args zU RX6) (hr : meth.sig.returnType = (some .int)) (hlocks : meth.locks = false) (hK : zk_K zNF zNM g s)  : ∀ (n : Nat) (v1 : Int32) (v2 : Int32) (v3 : Int32) (v4 : Int32) (M : zm_M), pX6_totient_9 g.2 post  n v1 v2 v3 v4 M → ∀ (H : Heap) (locs : List Loc) (ls : Array Slot), zW lo g s H locs M → lv_has ls 6 [(1, .int v1), (2, .int v2), (3, .int v3), (4, .int v4)] → W p l e ({ frames := 2, cells := 0, slots := 0, locals := 61 } : Room) s m args below meth c H locs 0 0 (MQ below (va_Qi post (zc_B lo g) (zA lo)) args s 0 0 (zA lo)) (F0 m 9 ls []) := by
  obtain ⟨hx, hb, hml, hown, hts⟩ := id S
  intro n
  induction n with
  | zero =>
    intro v1 v2 v3 v4 M h
    exact False.elim h
  | succ n9 ih =>
    intro v1 v2 v3 v4 M h H locs ls hw hl
    rw [pX6_totient_9] at h
    refine lv_iload hx hb dX6_totient_9 (lv_at hl 3 rfl) ?_
    refine lv_bipush (v := (32 : Int32)) hx hb dX6_totient_11 (by decide) ?_
    refine lv_icmp_ge (tgt := 54) hx hb dX6_totient_13 (by decide) (fun hc => ?_) (fun hc => ?_)
    · have h := h.1 hc
      refine lv_iload_n hx hb dX6_totient_54 rfl (lv_at hl 0 rfl) ?_
      exact zr_ri S hr hlocks hw h dX6_totient_55
    · have h := h.2 hc
      refine lv_iload_n hx hb dX6_totient_16 rfl (lv_at hl 1 rfl) ?_
      refine lv_iconst (v := (1 : Int32)) hx hb dX6_totient_17 (by decide) ?_
      refine lv_icmp_le (tgt := 54) hx hb dX6_totient_18 (by decide) (fun hc => ?_) (fun hc => ?_)
      · have h := h.1 hc
        refine lv_iload_n hx hb dX6_totient_54 rfl (lv_at hl 0 rfl) ?_
        exact zr_ri S hr hlocks hw h dX6_totient_55
      · have h := h.2 hc
        refine lv_iload_n hx hb dX6_totient_21 rfl (lv_at hl 1 rfl) ?_
        refine zr_Si (As := [.int v2]) (rest := []) S hK hw (kX6_leastFactor l lo g M v2 _ h) (va_cwS 1 hts (zg_S zu_424 zu_425 zu_303 zu_426) rfl rfl rfl (by decide +kernel) ⟨Nat.le_of_ble_eq_true rfl, Nat.le_of_ble_eq_true rfl⟩) rfl hl.1 rfl (Nat.le_of_ble_eq_true rfl) dX6_totient_22 ⟨Nat.le_of_ble_eq_true rfl, Nat.le_of_ble_eq_true rfl⟩ (fun r4 M3 H locs hw h => ?_)
        refine lv_istore (lv' := [(5, .int r4), (1, .int v1), (2, .int v2), (3, .int v3), (4, .int v4)]) hx hb dX6_totient_25 hl (by decide) rfl (fun ls hl => ?_)
        refine lv_iload hx hb dX6_totient_27 (lv_at hl 0 rfl) ?_
        refine lv_iload_n hx hb dX6_totient_29 rfl (lv_at hl 3 rfl) ?_
        refine lv_icmp_eq (tgt := 40) hx hb dX6_totient_30 (by decide) (fun hc => ?_) (fun hc => ?_)
        · have h := h.1 hc
          exact sX6_totient_40 S hr hlocks hK ih v1 v2 v4 r4 _ h _ _ _ hw (lv_sub hl [1, 2, 4, 0] rfl)
        · have h := h.2 hc
          refine lv_iload_n hx hb dX6_totient_33 rfl (lv_at hl 1 rfl) ?_
          refine lv_iload_n hx hb dX6_totient_34 rfl (lv_at hl 1 rfl) ?_
          refine lv_iload hx hb dX6_totient_35 (lv_at hl 0 rfl) ?_
          refine lv_idiv hx hb dX6_totient_37 h.1 ?_
          have h := h.2
          refine lv_isub hx hb dX6_totient_38 ?_
          refine lv_topi (fun x7 ex7 => ?_)
          have h := h x7 ex7
          refine lv_istore_n (lv' := [(1, .int x7), (5, .int r4), (2, .int v2), (3, .int v3), (4, .int v4)]) hx hb dX6_totient_39 rfl hl (by decide) rfl (fun ls hl => ?_)
          exact sX6_totient_40 S hr hlocks hK ih x7 v2 v4 r4 _ h _ _ _ hw (lv_sub hl [0, 2, 4, 1] rfl)
set_option maxHeartbeats 4000000 in
set_option maxRecDepth 100000 in
theorem kX6_totient (l : Launch) (lo : Nat) (g : zg) (M : zm_M) (a0 : Int32) (post : Int32 → zm_M → Prop) (h : pX6_totient g.2 a0 post M) : Met l yX6_totient (Cond.code yX6_totient cX6_totient 6 (some .int) :: zU) (({ frames := 2, cells := 0, slots := 0, locals := 61 } : Room)) (zc_P zNF zNM lo g M [.int a0]) (va_Qi post (zc_B lo g) (zA lo)) 0 0 (zA lo) := by
  refine Met.ofW (cc := cX6_totient) (maxL := 6) (ret := (some .int)) (by decide) rfl ?_
  intro p e s m args below meth c s₁ B hml hv
  obtain ⟨rfl, hR, hK⟩ := hv
  have hts := atoms_spec (ws := Cond.code yX6_totient cX6_totient 6 (some .int) :: zU) B.pre
  have hts : ∀ w ∈ zU, w.before _ s = true := fun w hw => hts w (List.mem_cons_of_mem _ hw)
  have hown : s.vm.findClass RX6 = some m.cls := findClass_of_methodNamed B.named
  have hx := B.exec
  have hb := B.bytes
  have hr := B.returns
  have hlocks := B.notSynchronized
  have S : CallFix p m c cX6_totient 6 s ([.int a0] : List Value).toArray zU RX6 := ⟨hx, hb, hml, hown, hts⟩
  have hw : zW lo g s s.heap [] M := ⟨hR, va_S.rf⟩
  have hl := lv_entry ([.int a0]) (n := 6) (Nat.le_of_ble_eq_true rfl)
  rw [lg_entry_eq]
  generalize (lg_sl ([.int a0]) ++ List.replicate (6 - (lg_sl ([.int a0])).length) Slot.unset).toArray = ls at hl ⊢
  have hl : lv_has ls 6 [(0, .int a0)] := hl
  unfold pX6_totient at h
  refine lv_iload_n hx hb dX6_totient_0 rfl (lv_at hl 0 rfl) ?_
  refine lv_istore_n (lv' := [(1, .int a0), (0, .int a0)]) hx hb dX6_totient_1 rfl hl (by decide) rfl (fun ls hl => ?_)
  refine lv_iload_n hx hb dX6_totient_2 rfl (lv_at hl 1 rfl) ?_
  refine lv_istore_n (lv' := [(2, .int a0), (1, .int a0), (0, .int a0)]) hx hb dX6_totient_3 rfl hl (by decide) rfl (fun ls hl => ?_)
  refine lv_iconst (v := (1 : Int32)) hx hb dX6_totient_4 (by decide) ?_
  refine lv_topi (fun x1 ex1 => ?_)
  have h := h x1 ex1
  refine lv_istore_n (lv' := [(3, .int x1), (2, .int a0), (1, .int a0), (0, .int a0)]) hx hb dX6_totient_5 rfl hl (by decide) rfl (fun ls hl => ?_)
  refine lv_iconst (v := (0 : Int32)) hx hb dX6_totient_6 (by decide) ?_
  refine lv_topi (fun x2 ex2 => ?_)
  have h := h x2 ex2
  refine lv_istore (lv' := [(4, .int x2), (3, .int x1), (2, .int a0), (1, .int a0), (0, .int a0)]) hx hb dX6_totient_7 hl (by decide) rfl (fun ls hl => ?_)
  obtain ⟨n9, h⟩ := h
  refine sX6_totient_9 S hr hlocks hK  n9 a0 a0 x1 x2 _ h _ _ _ hw (lv_sub hl [3, 2, 1, 0] rfl)
set_option maxHeartbeats 4000000 in
set_option maxRecDepth 100000 in
theorem sX6_tenToThe_43 {p : Program} {l : Launch} {e : Env} {s : State} {m : MethodId} {args : Array Value} {below : List Frame} {meth : Method} {c : Code} {lo : Nat} {g : zg} {post : Int32 → zm_M → Prop} {k22 : Int32 → Int64 → Int64 → Int32 → zm_M → Prop} (S : CallFix p m c cX6_tenToThe 7 s args zU RX6) (hr : meth.sig.returnType = (some .int)) (hlocks : meth.locks = false) (hK : zk_K zNF zNM g s) (hk22 : ∀ (v1 : Int32) (v2 : Int64) (v4 : Int64) (v6 : Int32) (M : zm_M), k22 v1 v2 v4 v6 M → ∀ (H : Heap) (locs : List Loc) (ls : Array Slot), zW lo g s H locs M → lv_has ls 7 [(1, .int v1), (2, .long v2), (4, .long v4), (6, .int v6)] → W p l e ({ frames := 1, cells := 0, slots := 0, locals := 40 } : Room) s m args below meth c H locs 0 0 (MQ below (va_Qi post (zc_B lo g) (zA lo)) args s 0 0 (zA lo)) (F0 m 22 ls [])) : ∀ (v1 : Int32) (v2 : Int64) (v4 : Int64) (v6 : Int32) (M : zm_M), pX6_tenToThe_43 g.2 post k22 v1 v2 v4 v6 M → ∀ (H : Heap) (locs : List Loc) (ls : Array Slot), zW lo g s H locs M → lv_has ls 7 [(1, .int v1), (2, .long v2), (4, .long v4), (6, .int v6)] → W p l e ({ frames := 1, cells := 0, slots := 0, locals := 40 } : Room) s m args below meth c H locs 0 0 (MQ below (va_Qi post (zc_B lo g) (zA lo)) args s 0 0 (zA lo)) (F0 m 43 ls []) := by
  obtain ⟨hx, hb, hml, hown, hts⟩ := id S
  intro v1 v2 v4 v6 M h H locs ls hw hl
  unfold pX6_tenToThe_43 at h
  refine lv_lload hx hb dX6_tenToThe_43 (lv_at hl 2 rfl) ?_
  refine lv_lload hx hb dX6_tenToThe_45 (lv_at hl 2 rfl) ?_
  refine lv_lmul hx hb dX6_tenToThe_47 ?_
  refine lv_iload_n hx hb dX6_tenToThe_48 rfl (lv_at hl 0 rfl) ?_
  refine lv_i2l hx hb dX6_tenToThe_49 rfl ?_
  refine lv_lrem hx hb dX6_tenToThe_50 h.1 ?_
  have h := h.2
  refine lv_topl (fun x3 ex3 => ?_)
  have h := h x3 ex3
  refine lv_lstore (lv' := [(4, .long x3), (1, .int v1), (2, .long v2), (6, .int v6)]) hx hb dX6_tenToThe_51 hl (by decide) rfl (fun ls hl => ?_)
  refine lv_iload hx hb dX6_tenToThe_53 (lv_at hl 3 rfl) ?_
  refine lv_iconst (v := (1 : Int32)) hx hb dX6_tenToThe_55 (by decide) ?_
  refine lv_ishr hx hb dX6_tenToThe_56 ?_
  refine lv_topi (fun x4 ex4 => ?_)
  have h := h x4 ex4
  refine lv_istore (lv' := [(6, .int x4), (4, .long x3), (1, .int v1), (2, .long v2)]) hx hb dX6_tenToThe_57 hl (by decide) rfl (fun ls hl => ?_)
  refine lv_goto (tgt := 22) hx hb dX6_tenToThe_59 (by decide) ?_
  exact hk22 v1 v2 x3 x4 _ h _ _ _ hw (lv_sub hl [2, 3, 1, 0] rfl)
set_option maxHeartbeats 4000000 in
set_option maxRecDepth 100000 in
theorem sX6_tenToThe_22 {p : Program} {l : Launch} {e : Env} {s : State} {m : MethodId} {args : Array Value} {below : List Frame} {meth : Method} {c : Code} {lo : Nat} {g : zg} {post : Int32 → zm_M → Prop}  (S : CallFix p m c cX6_tenToThe 7 s args zU RX6) (hr : meth.sig.returnType = (some .int)) (hlocks : meth.locks = false) (hK : zk_K zNF zNM g s)  : ∀ (n : Nat) (v1 : Int32) (v2 : Int64) (v4 : Int64) (v6 : Int32) (M : zm_M), pX6_tenToThe_22 g.2 post  n v1 v2 v4 v6 M → ∀ (H : Heap) (locs : List Loc) (ls : Array Slot), zW lo g s H locs M → lv_has ls 7 [(1, .int v1), (2, .long v2), (4, .long v4), (6, .int v6)] → W p l e ({ frames := 1, cells := 0, slots := 0, locals := 40 } : Room) s m args below meth c H locs 0 0 (MQ below (va_Qi post (zc_B lo g) (zA lo)) args s 0 0 (zA lo)) (F0 m 22 ls []) := by
  obtain ⟨hx, hb, hml, hown, hts⟩ := id S
  intro n
  induction n with
  | zero =>
    intro v1 v2 v4 v6 M h
    exact False.elim h
  | succ n22 ih =>
    intro v1 v2 v4 v6 M h H locs ls hw hl
    rw [pX6_tenToThe_22] at h
    refine lv_iload hx hb dX6_tenToThe_22 (lv_at hl 3 rfl) ?_
    refine lv_if_le (tgt := 62) hx hb dX6_tenToThe_24 (by decide) (fun hc => ?_) (fun hc => ?_)
    · have h := h.1 hc
      refine lv_lload_n hx hb dX6_tenToThe_62 rfl (lv_at hl 1 rfl) ?_
      refine lv_l2i hx hb dX6_tenToThe_63 rfl ?_
      exact zr_ri S hr hlocks hw h dX6_tenToThe_64
    · have h := h.2 hc
      refine lv_iload hx hb dX6_tenToThe_27 (lv_at hl 3 rfl) ?_
      refine lv_iconst (v := (1 : Int32)) hx hb dX6_tenToThe_29 (by decide) ?_
      refine lv_iand hx hb dX6_tenToThe_30 ?_
      refine lv_iconst (v := (1 : Int32)) hx hb dX6_tenToThe_31 (by decide) ?_
      refine lv_icmp_ne (tgt := 43) hx hb dX6_tenToThe_32 (by decide) (fun hc => ?_) (fun hc => ?_)
      · have h := h.1 hc
        exact sX6_tenToThe_43 S hr hlocks hK ih v1 v2 v4 v6 _ h _ _ _ hw (lv_sub hl [0, 1, 2, 3] rfl)
      · have h := h.2 hc
        refine lv_lload_n hx hb dX6_tenToThe_35 rfl (lv_at hl 1 rfl) ?_
        refine lv_lload hx hb dX6_tenToThe_36 (lv_at hl 2 rfl) ?_
        refine lv_lmul hx hb dX6_tenToThe_38 ?_
        refine lv_iload_n hx hb dX6_tenToThe_39 rfl (lv_at hl 0 rfl) ?_
        refine lv_i2l hx hb dX6_tenToThe_40 rfl ?_
        refine lv_lrem hx hb dX6_tenToThe_41 h.1 ?_
        have h := h.2
        refine lv_topl (fun x5 ex5 => ?_)
        have h := h x5 ex5
        refine lv_lstore_n (lv' := [(2, .long x5), (1, .int v1), (4, .long v4), (6, .int v6)]) hx hb dX6_tenToThe_42 rfl hl (by decide) rfl (fun ls hl => ?_)
        exact sX6_tenToThe_43 S hr hlocks hK ih v1 x5 v4 v6 _ h _ _ _ hw (lv_sub hl [1, 0, 2, 3] rfl)
set_option maxHeartbeats 4000000 in
set_option maxRecDepth 100000 in
theorem kX6_tenToThe (l : Launch) (lo : Nat) (g : zg) (M : zm_M) (a0 : Int32) (a1 : Int32) (post : Int32 → zm_M → Prop) (h : pX6_tenToThe g.2 a0 a1 post M) : Met l yX6_tenToThe (Cond.code yX6_tenToThe cX6_tenToThe 7 (some .int) :: zU) (({ frames := 1, cells := 0, slots := 0, locals := 40 } : Room)) (zc_P zNF zNM lo g M [.int a0, .int a1]) (va_Qi post (zc_B lo g) (zA lo)) 0 0 (zA lo) := by
  refine Met.ofW (cc := cX6_tenToThe) (maxL := 7) (ret := (some .int)) (by decide) rfl ?_
  intro p e s m args below meth c s₁ B hml hv
  obtain ⟨rfl, hR, hK⟩ := hv
  have hts := atoms_spec (ws := Cond.code yX6_tenToThe cX6_tenToThe 7 (some .int) :: zU) B.pre
  have hts : ∀ w ∈ zU, w.before _ s = true := fun w hw => hts w (List.mem_cons_of_mem _ hw)
  have hown : s.vm.findClass RX6 = some m.cls := findClass_of_methodNamed B.named
  have hx := B.exec
  have hb := B.bytes
  have hr := B.returns
  have hlocks := B.notSynchronized
  have S : CallFix p m c cX6_tenToThe 7 s ([.int a0, .int a1] : List Value).toArray zU RX6 := ⟨hx, hb, hml, hown, hts⟩
  have hw : zW lo g s s.heap [] M := ⟨hR, va_S.rf⟩
  have hl := lv_entry ([.int a0, .int a1]) (n := 7) (Nat.le_of_ble_eq_true rfl)
  rw [lg_entry_eq]
  generalize (lg_sl ([.int a0, .int a1]) ++ List.replicate (7 - (lg_sl ([.int a0, .int a1])).length) Slot.unset).toArray = ls at hl ⊢
  have hl : lv_has ls 7 [(0, .int a0), (1, .int a1)] := hl
  unfold pX6_tenToThe at h
  refine lv_iload_n hx hb dX6_tenToThe_0 rfl (lv_at hl 1 rfl) ?_
  refine lv_iconst (v := (1 : Int32)) hx hb dX6_tenToThe_1 (by decide) ?_
  refine lv_icmp_ge (tgt := 7) hx hb dX6_tenToThe_2 (by decide) (fun hc => ?_) (fun hc => ?_)
  · have h := h.1 hc
    refine lv_iconst (v := (1 : Int32)) hx hb dX6_tenToThe_7 (by decide) ?_
    refine lv_iload_n hx hb dX6_tenToThe_8 rfl (lv_at hl 1 rfl) ?_
    refine lv_irem hx hb dX6_tenToThe_9 h.1 ?_
    have h := h.2
    refine lv_i2l hx hb dX6_tenToThe_10 rfl ?_
    refine lv_topl (fun x1 ex1 => ?_)
    have h := h x1 ex1
    refine lv_lstore_n (lv' := [(2, .long x1), (0, .int a0), (1, .int a1)]) hx hb dX6_tenToThe_11 rfl hl (by decide) rfl (fun ls hl => ?_)
    refine lv_bipush (v := (10 : Int32)) hx hb dX6_tenToThe_12 (by decide) ?_
    refine lv_iload_n hx hb dX6_tenToThe_14 rfl (lv_at hl 2 rfl) ?_
    refine lv_irem hx hb dX6_tenToThe_15 h.1 ?_
    have h := h.2
    refine lv_i2l hx hb dX6_tenToThe_16 rfl ?_
    refine lv_topl (fun x2 ex2 => ?_)
    have h := h x2 ex2
    refine lv_lstore (lv' := [(4, .long x2), (2, .long x1), (0, .int a0), (1, .int a1)]) hx hb dX6_tenToThe_17 hl (by decide) rfl (fun ls hl => ?_)
    refine lv_iload_n hx hb dX6_tenToThe_19 rfl (lv_at hl 2 rfl) ?_
    refine lv_istore (lv' := [(6, .int a0), (4, .long x2), (2, .long x1), (0, .int a0), (1, .int a1)]) hx hb dX6_tenToThe_20 hl (by decide) rfl (fun ls hl => ?_)
    obtain ⟨n22, h⟩ := h
    refine sX6_tenToThe_22 S hr hlocks hK  n22 a1 x1 x2 a0 _ h _ _ _ hw (lv_sub hl [4, 2, 1, 0] rfl)
  · have h := h.2 hc
    refine lv_iconst (v := (0 : Int32)) hx hb dX6_tenToThe_5 (by decide) ?_
    exact zr_ri S hr hlocks hw h dX6_tenToThe_6
set_option maxHeartbeats 4000000 in
set_option maxRecDepth 100000 in
theorem sX6_orderOfTen_16 {p : Program} {l : Launch} {e : Env} {s : State} {m : MethodId} {args : Array Value} {below : List Frame} {meth : Method} {c : Code} {lo : Nat} {g : zg} {post : Int32 → zm_M → Prop}  (S : CallFix p m c cX6_orderOfTen 5 s args zU RX6) (hr : meth.sig.returnType = (some .int)) (hlocks : meth.locks = false) (hK : zk_K zNF zNM g s)  : ∀ (n : Nat) (v0 : Int32) (v1 : Int32) (v2 : Int32) (v3 : Int32) (M : zm_M), pX6_orderOfTen_16 g.2 post  n v0 v1 v2 v3 M → ∀ (H : Heap) (locs : List Loc) (ls : Array Slot), zW lo g s H locs M → lv_has ls 5 [(0, .int v0), (1, .int v1), (2, .int v2), (3, .int v3)] → W p l e ({ frames := 3, cells := 0, slots := 0, locals := 86 } : Room) s m args below meth c H locs 0 0 (MQ below (va_Qi post (zc_B lo g) (zA lo)) args s 0 0 (zA lo)) (F0 m 16 ls []) := by
  obtain ⟨hx, hb, hml, hown, hts⟩ := id S
  intro n
  induction n with
  | zero =>
    intro v0 v1 v2 v3 M h
    exact False.elim h
  | succ n16 ih =>
    intro v0 v1 v2 v3 M h H locs ls hw hl
    rw [pX6_orderOfTen_16] at h
    refine lv_iload_n hx hb dX6_orderOfTen_16 rfl (lv_at hl 3 rfl) ?_
    refine lv_bipush (v := (32 : Int32)) hx hb dX6_orderOfTen_17 (by decide) ?_
    refine lv_icmp_ge (tgt := 61) hx hb dX6_orderOfTen_19 (by decide) (fun hc => ?_) (fun hc => ?_)
    · have h := h.1 hc
      refine lv_iload_n hx hb dX6_orderOfTen_61 rfl (lv_at hl 1 rfl) ?_
      exact zr_ri S hr hlocks hw h dX6_orderOfTen_62
    · have h := h.2 hc
      refine lv_iload_n hx hb dX6_orderOfTen_22 rfl (lv_at hl 2 rfl) ?_
      refine lv_iconst (v := (1 : Int32)) hx hb dX6_orderOfTen_23 (by decide) ?_
      refine lv_icmp_le (tgt := 61) hx hb dX6_orderOfTen_24 (by decide) (fun hc => ?_) (fun hc => ?_)
      · have h := h.1 hc
        refine lv_iload_n hx hb dX6_orderOfTen_61 rfl (lv_at hl 1 rfl) ?_
        exact zr_ri S hr hlocks hw h dX6_orderOfTen_62
      · have h := h.2 hc
        refine lv_iload_n hx hb dX6_orderOfTen_27 rfl (lv_at hl 2 rfl) ?_
        refine zr_Si (As := [.int v2]) (rest := []) S hK hw (kX6_leastFactor l lo g M v2 _ h) (va_cwS 1 hts (zg_S zu_424 zu_425 zu_303 zu_426) rfl rfl rfl (by decide +kernel) ⟨Nat.le_of_ble_eq_true rfl, Nat.le_of_ble_eq_true rfl⟩) rfl hl.1 rfl (Nat.le_of_ble_eq_true rfl) dX6_orderOfTen_28 ⟨Nat.le_of_ble_eq_true rfl, Nat.le_of_ble_eq_true rfl⟩ (fun r5 M4 H locs hw h => ?_)
        refine lv_istore (lv' := [(4, .int r5), (0, .int v0), (1, .int v1), (2, .int v2), (3, .int v3)]) hx hb dX6_orderOfTen_31 hl (by decide) rfl (fun ls hl => ?_)
        refine lv_iload_n hx hb dX6_orderOfTen_33 rfl (lv_at hl 3 rfl) ?_
        refine lv_iload hx hb dX6_orderOfTen_34 (lv_at hl 0 rfl) ?_
        refine lv_idiv hx hb dX6_orderOfTen_36 h.1 ?_
        have h := h.2
        refine lv_topi (fun x6 ex6 => ?_)
        have h := h x6 ex6
        refine lv_istore_n (lv' := [(2, .int x6), (4, .int r5), (0, .int v0), (1, .int v1), (3, .int v3)]) hx hb dX6_orderOfTen_37 rfl hl (by decide) rfl (fun ls hl => ?_)
        refine lv_iload_n hx hb dX6_orderOfTen_38 rfl (lv_at hl 3 rfl) ?_
        refine lv_iload hx hb dX6_orderOfTen_39 (lv_at hl 1 rfl) ?_
        refine lv_idiv hx hb dX6_orderOfTen_41 h.1 ?_
        have h := h.2
        refine lv_iload_n hx hb dX6_orderOfTen_42 rfl (lv_at hl 2 rfl) ?_
        refine zr_Si (As := [.int (v1 / r5), .int v0]) (rest := []) S hK hw (kX6_tenToThe l lo g M4 (v1 / r5) v0 _ h) (va_cwS 2 hts (zg_S zu_430 zu_431 zu_303 zu_432) rfl rfl rfl (by decide +kernel) ⟨Nat.le_of_ble_eq_true rfl, Nat.le_of_ble_eq_true rfl⟩) rfl hl.1 rfl (Nat.le_of_ble_eq_true rfl) dX6_orderOfTen_43 ⟨Nat.le_of_ble_eq_true rfl, Nat.le_of_ble_eq_true rfl⟩ (fun r8 M7 H locs hw h => ?_)
        refine lv_iconst (v := (1 : Int32)) hx hb dX6_orderOfTen_46 (by decide) ?_
        refine lv_icmp_ne (tgt := 55) hx hb dX6_orderOfTen_47 (by decide) (fun hc => ?_) (fun hc => ?_)
        · have h := h.1 hc
          obtain ⟨x9, ex9⟩ : ∃ z : Int32, z = v3 + (1 : Int32) := ⟨_, rfl⟩
          have h := h x9 ex9
          refine lv_iinc (v := x9) (lv' := [(3, .int x9), (2, .int x6), (4, .int r5), (0, .int v0), (1, .int v1)]) hx hb dX6_orderOfTen_55 hl (k := 4) rfl (by rw [ex9]; rfl) (by decide) rfl (fun ls hl => ?_)
          refine lv_goto (tgt := 16) hx hb dX6_orderOfTen_58 (by decide) ?_
          exact ih v0 v1 x6 x9 _ h _ _ _ hw (lv_sub hl [3, 4, 1, 0] rfl)
        · have h := h.2 hc
          refine lv_iload_n hx hb dX6_orderOfTen_50 rfl (lv_at hl 3 rfl) ?_
          refine lv_iload hx hb dX6_orderOfTen_51 (lv_at hl 1 rfl) ?_
          refine lv_idiv hx hb dX6_orderOfTen_53 h.1 ?_
          have h := h.2
          refine lv_topi (fun x10 ex10 => ?_)
          have h := h x10 ex10
          refine lv_istore_n (lv' := [(1, .int x10), (2, .int x6), (4, .int r5), (0, .int v0), (3, .int v3)]) hx hb dX6_orderOfTen_54 rfl hl (by decide) rfl (fun ls hl => ?_)
          obtain ⟨x11, ex11⟩ : ∃ z : Int32, z = v3 + (1 : Int32) := ⟨_, rfl⟩
          have h := h x11 ex11
          refine lv_iinc (v := x11) (lv' := [(3, .int x11), (1, .int x10), (2, .int x6), (4, .int r5), (0, .int v0)]) hx hb dX6_orderOfTen_55 hl (k := 4) rfl (by rw [ex11]; rfl) (by decide) rfl (fun ls hl => ?_)
          refine lv_goto (tgt := 16) hx hb dX6_orderOfTen_58 (by decide) ?_
          exact ih v0 x10 x6 x11 _ h _ _ _ hw (lv_sub hl [4, 1, 2, 0] rfl)
set_option maxHeartbeats 4000000 in
set_option maxRecDepth 100000 in
theorem kX6_orderOfTen (l : Launch) (lo : Nat) (g : zg) (M : zm_M) (a0 : Int32) (post : Int32 → zm_M → Prop) (h : pX6_orderOfTen g.2 a0 post M) : Met l yX6_orderOfTen (Cond.code yX6_orderOfTen cX6_orderOfTen 5 (some .int) :: zU) (({ frames := 3, cells := 0, slots := 0, locals := 86 } : Room)) (zc_P zNF zNM lo g M [.int a0]) (va_Qi post (zc_B lo g) (zA lo)) 0 0 (zA lo) := by
  refine Met.ofW (cc := cX6_orderOfTen) (maxL := 5) (ret := (some .int)) (by decide) rfl ?_
  intro p e s m args below meth c s₁ B hml hv
  obtain ⟨rfl, hR, hK⟩ := hv
  have hts := atoms_spec (ws := Cond.code yX6_orderOfTen cX6_orderOfTen 5 (some .int) :: zU) B.pre
  have hts : ∀ w ∈ zU, w.before _ s = true := fun w hw => hts w (List.mem_cons_of_mem _ hw)
  have hown : s.vm.findClass RX6 = some m.cls := findClass_of_methodNamed B.named
  have hx := B.exec
  have hb := B.bytes
  have hr := B.returns
  have hlocks := B.notSynchronized
  have S : CallFix p m c cX6_orderOfTen 5 s ([.int a0] : List Value).toArray zU RX6 := ⟨hx, hb, hml, hown, hts⟩
  have hw : zW lo g s s.heap [] M := ⟨hR, va_S.rf⟩
  have hl := lv_entry ([.int a0]) (n := 5) (Nat.le_of_ble_eq_true rfl)
  rw [lg_entry_eq]
  generalize (lg_sl ([.int a0]) ++ List.replicate (5 - (lg_sl ([.int a0])).length) Slot.unset).toArray = ls at hl ⊢
  have hl : lv_has ls 5 [(0, .int a0)] := hl
  unfold pX6_orderOfTen at h
  refine lv_iload_n hx hb dX6_orderOfTen_0 rfl (lv_at hl 0 rfl) ?_
  refine lv_iconst (v := (2 : Int32)) hx hb dX6_orderOfTen_1 (by decide) ?_
  refine lv_icmp_ge (tgt := 7) hx hb dX6_orderOfTen_2 (by decide) (fun hc => ?_) (fun hc => ?_)
  · have h := h.1 hc
    refine lv_iload_n hx hb dX6_orderOfTen_7 rfl (lv_at hl 0 rfl) ?_
    refine zr_Si (As := [.int a0]) (rest := []) S hK hw (kX6_totient l lo g M a0 _ h) (va_cwS 1 hts (zg_S zu_427 zu_428 zu_303 zu_429) rfl rfl rfl (by decide +kernel) ⟨Nat.le_of_ble_eq_true rfl, Nat.le_of_ble_eq_true rfl⟩) rfl hl.1 rfl (Nat.le_of_ble_eq_true rfl) dX6_orderOfTen_8 ⟨Nat.le_of_ble_eq_true rfl, Nat.le_of_ble_eq_true rfl⟩ (fun r2 M1 H locs hw h => ?_)
    refine lv_istore_n (lv' := [(1, .int r2), (0, .int a0)]) hx hb dX6_orderOfTen_11 rfl hl (by decide) rfl (fun ls hl => ?_)
    refine lv_iload_n hx hb dX6_orderOfTen_12 rfl (lv_at hl 0 rfl) ?_
    refine lv_istore_n (lv' := [(2, .int r2), (1, .int r2), (0, .int a0)]) hx hb dX6_orderOfTen_13 rfl hl (by decide) rfl (fun ls hl => ?_)
    refine lv_iconst (v := (0 : Int32)) hx hb dX6_orderOfTen_14 (by decide) ?_
    refine lv_topi (fun x3 ex3 => ?_)
    have h := h x3 ex3
    refine lv_istore_n (lv' := [(3, .int x3), (2, .int r2), (1, .int r2), (0, .int a0)]) hx hb dX6_orderOfTen_15 rfl hl (by decide) rfl (fun ls hl => ?_)
    obtain ⟨n16, h⟩ := h
    refine sX6_orderOfTen_16 S hr hlocks hK  n16 a0 r2 r2 x3 _ h _ _ _ hw (lv_sub hl [3, 2, 1, 0] rfl)
  · have h := h.2 hc
    refine lv_iconst (v := (0 : Int32)) hx hb dX6_orderOfTen_5 (by decide) ?_
    exact zr_ri S hr hlocks hw h dX6_orderOfTen_6
set_option maxHeartbeats 4000000 in
set_option maxRecDepth 100000 in
theorem kX6_period (l : Launch) (lo : Nat) (g : zg) (M : zm_M) (a0 : Nat) (a1 : Int32) (a2 : Int32) (post : Int32 → zm_M → Prop) (h : pX6_period g.2 a0 a1 a2 post M) : Met l yX6_period (Cond.code yX6_period cX6_period 7 (some .int) :: zU) (({ frames := 4, cells := 0, slots := 0, locals := 112 } : Room)) (zc_P zNF zNM lo g M [.ref a0, .int a1, .int a2]) (va_Qi post (zc_B lo g) (zA lo)) 0 0 (zA lo) := by
  refine Met.ofW (cc := cX6_period) (maxL := 7) (ret := (some .int)) (by decide) rfl ?_
  intro p e s m args below meth c s₁ B hml hv
  obtain ⟨rfl, hR, hK⟩ := hv
  have hts := atoms_spec (ws := Cond.code yX6_period cX6_period 7 (some .int) :: zU) B.pre
  have hts : ∀ w ∈ zU, w.before _ s = true := fun w hw => hts w (List.mem_cons_of_mem _ hw)
  have hown : s.vm.findClass RX6 = some m.cls := findClass_of_methodNamed B.named
  have hx := B.exec
  have hb := B.bytes
  have hr := B.returns
  have hlocks := B.notSynchronized
  have S : CallFix p m c cX6_period 7 s ([.ref a0, .int a1, .int a2] : List Value).toArray zU RX6 := ⟨hx, hb, hml, hown, hts⟩
  have hw : zW lo g s s.heap [] M := ⟨hR, va_S.rf⟩
  have hl := lv_entry ([.ref a0, .int a1, .int a2]) (n := 7) (Nat.le_of_ble_eq_true rfl)
  rw [lg_entry_eq]
  generalize (lg_sl ([.ref a0, .int a1, .int a2]) ++ List.replicate (7 - (lg_sl ([.ref a0, .int a1, .int a2])).length) Slot.unset).toArray = ls at hl ⊢
  have hl : lv_has ls 7 [(0, .ref a0), (1, .int a1), (2, .int a2)] := hl
  unfold pX6_period at h
  refine lv_aload_n hx hb dX6_period_0 rfl (lv_at hl 0 rfl) ?_
  refine lv_iload_n hx hb dX6_period_1 rfl (lv_at hl 1 rfl) ?_
  obtain ⟨ho, h⟩ := h
  refine zr_Vq (As := [.int a1]) (rest := []) S hK hw (kX6_find l lo g M a0 a1 _ h) (cwV 1 hts (zg_V zu_311 zu_312 zu_313 zu_303 zu_314) rfl rfl rfl (by decide +kernel) ⟨Nat.le_of_ble_eq_true rfl, Nat.le_of_ble_eq_true rfl⟩) (ci := 9) rfl ho rfl hl.1 rfl (Nat.le_of_ble_eq_true rfl) dX6_period_2 ⟨Nat.le_of_ble_eq_true rfl, Nat.le_of_ble_eq_true rfl⟩ (fun r2 M1 H locs hw h => ?_)
  rcases r2 with _ | a3
  · have h := h.1 rfl
    refine lv_astore_nN (lv' := [(3, .null), (0, .ref a0), (1, .int a1), (2, .int a2)]) hx hb dX6_period_5 rfl hl (by decide) rfl (fun ls hl => ?_)
    refine lv_aload_nN hx hb dX6_period_6 rfl (lv_at hl 0 rfl) ?_
    refine lv_ifnullN (tgt := 19) hx hb dX6_period_7 (by decide) ?_
    refine lv_iconst (v := (-1 : Int32)) hx hb dX6_period_19 (by decide) ?_
    exact zr_ri S hr hlocks hw h dX6_period_20
  · have h := h.2 a3 rfl
    refine lv_astore_n (lv' := [(3, .ref a3), (0, .ref a0), (1, .int a1), (2, .int a2)]) hx hb dX6_period_5 rfl hl (by decide) rfl (fun ls hl => ?_)
    refine lv_aload_n hx hb dX6_period_6 rfl (lv_at hl 0 rfl) ?_
    refine lv_ifnull hx hb dX6_period_7 ?_
    refine lv_iload_n hx hb dX6_period_10 rfl (lv_at hl 3 rfl) ?_
    refine lv_if_lt (tgt := 19) hx hb dX6_period_11 (by decide) (fun hc => ?_) (fun hc => ?_)
    · have h := h.1 hc
      refine lv_iconst (v := (-1 : Int32)) hx hb dX6_period_19 (by decide) ?_
      exact zr_ri S hr hlocks hw h dX6_period_20
    · have h := h.2 hc
      refine lv_iload_n hx hb dX6_period_14 rfl (lv_at hl 3 rfl) ?_
      refine lv_iconst (v := (1 : Int32)) hx hb dX6_period_15 (by decide) ?_
      refine lv_icmp_le (tgt := 21) hx hb dX6_period_16 (by decide) (fun hc => ?_) (fun hc => ?_)
      · have h := h.1 hc
        refine lv_aload_n hx hb dX6_period_21 rfl (lv_at hl 1 rfl) ?_
        refine zr_ga (C := RX6) (T := TX6) (N := 7) (ci := 9) (k := 3) S hK hw zi_X6 rfl (by decide) zu_285 dX6_period_22 h (fun bench_4 h => ?_)
        refine zr_gaN (C := RX0) (T := TX0) (N := 5) (ci := 3) (k := 1) (host := "LeastTerms") S hK hw zi_X0 rfl (by decide) (by decide +kernel) dX6_period_25 h (fun left_5 h => ?_)
        refine lv_astore (lv' := [(4, .ref left_5), (3, .ref a3), (0, .ref a0), (1, .int a1), (2, .int a2)]) hx hb dX6_period_28 hl (by decide) rfl (fun ls hl => ?_)
        refine lv_aload hx hb dX6_period_30 (lv_at hl 0 rfl) ?_
        refine lv_aload_n hx hb dX6_period_32 rfl (lv_at hl 1 rfl) ?_
        refine zr_gaN (C := RX2) (T := TX2) (N := 3) (ci := 5) (k := 2) (host := "LeastTerms") S hK hw zi_X2 rfl (by decide) (by decide +kernel) dX6_period_33 h (fun bottom_6 h => ?_)
        obtain ⟨ho, h⟩ := h
        refine zr_Vv (As := [.ref bottom_6]) (rest := []) S hK hw (kX5_copy l lo g M1 left_5 bottom_6 _ h) (cwV 1 hts (zg_V zu_433 zu_69 zu_70 zu_12 zu_71) rfl rfl rfl (by decide +kernel) ⟨Nat.le_of_ble_eq_true rfl, Nat.le_of_ble_eq_true rfl⟩) (ci := 8) rfl ho rfl hl.1 rfl (Nat.le_of_ble_eq_true rfl) dX6_period_36 ⟨Nat.le_of_ble_eq_true rfl, Nat.le_of_ble_eq_true rfl⟩ (fun M7 H locs hw h => ?_)
        refine lv_aload_n hx hb dX6_period_39 rfl (lv_at hl 2 rfl) ?_
        refine zr_ga (C := RX6) (T := TX6) (N := 7) (ci := 9) (k := 3) S hK hw zi_X6 rfl (by decide) zu_285 dX6_period_40 h (fun bench_8 h => ?_)
        refine lv_aload hx hb dX6_period_43 (lv_at hl 0 rfl) ?_
        refine lv_iconst (v := (2 : Int32)) hx hb dX6_period_45 (by decide) ?_
        obtain ⟨ho, h⟩ := h
        refine zr_Vi (As := [.ref left_5, .int (2 : Int32)]) (rest := []) S hK hw (kX0_takeFactors l lo g M7 bench_8 left_5 (2 : Int32) _ h) (cwV 2 hts (zg_V zu_434 zu_435 zu_436 zu_90 zu_437) rfl rfl rfl (by decide +kernel) ⟨Nat.le_of_ble_eq_true rfl, Nat.le_of_ble_eq_true rfl⟩) (ci := 3) rfl ho rfl hl.1 rfl (Nat.le_of_ble_eq_true rfl) dX6_period_46 ⟨Nat.le_of_ble_eq_true rfl, Nat.le_of_ble_eq_true rfl⟩ (fun r10 M9 H locs hw h => ?_)
        refine lv_istore (lv' := [(5, .int r10), (4, .ref left_5), (3, .ref a3), (0, .ref a0), (1, .int a1), (2, .int a2)]) hx hb dX6_period_49 hl (by decide) rfl (fun ls hl => ?_)
        refine lv_aload_n hx hb dX6_period_51 rfl (lv_at hl 3 rfl) ?_
        refine zr_ga (C := RX6) (T := TX6) (N := 7) (ci := 9) (k := 3) S hK hw zi_X6 rfl (by decide) zu_285 dX6_period_52 h (fun bench_11 h => ?_)
        refine lv_aload hx hb dX6_period_55 (lv_at hl 1 rfl) ?_
        refine lv_iconst (v := (5 : Int32)) hx hb dX6_period_57 (by decide) ?_
        obtain ⟨ho, h⟩ := h
        refine zr_Vi (As := [.ref left_5, .int (5 : Int32)]) (rest := []) S hK hw (kX0_takeFactors l lo g M9 bench_11 left_5 (5 : Int32) _ h) (cwV 2 hts (zg_V zu_434 zu_435 zu_436 zu_90 zu_437) rfl rfl rfl (by decide +kernel) ⟨Nat.le_of_ble_eq_true rfl, Nat.le_of_ble_eq_true rfl⟩) (ci := 3) rfl ho rfl hl.1 rfl (Nat.le_of_ble_eq_true rfl) dX6_period_58 ⟨Nat.le_of_ble_eq_true rfl, Nat.le_of_ble_eq_true rfl⟩ (fun r13 M12 H locs hw h => ?_)
        refine lv_istore (lv' := [(6, .int r13), (5, .int r10), (4, .ref left_5), (3, .ref a3), (0, .ref a0), (1, .int a1), (2, .int a2)]) hx hb dX6_period_61 hl (by decide) rfl (fun ls hl => ?_)
        refine lv_aload hx hb dX6_period_63 (lv_at hl 2 rfl) ?_
        refine lv_ldc2 (v := (100000 : Int64)) hx hb hown (hts _ zu_438) dX6_period_65 ?_
        obtain ⟨ho, h⟩ := h
        refine zr_Vi (As := [.long (100000 : Int64)]) (rest := []) S hK hw (kX5_isAbove l lo g M12 left_5 (100000 : Int64) _ h) (cwV 1 hts (zg_V zu_374 zu_223 zu_224 zu_12 zu_225) rfl rfl rfl (by decide +kernel) ⟨Nat.le_of_ble_eq_true rfl, Nat.le_of_ble_eq_true rfl⟩) (ci := 8) rfl ho rfl hl.1 rfl (Nat.le_of_ble_eq_true rfl) dX6_period_68 ⟨Nat.le_of_ble_eq_true rfl, Nat.le_of_ble_eq_true rfl⟩ (fun r15 M14 H locs hw h => ?_)
        refine lv_if_eq (tgt := 77) hx hb dX6_period_71 (by decide) (fun hc => ?_) (fun hc => ?_)
        · have h := h.1 hc
          refine lv_iload_n hx hb dX6_period_77 rfl (lv_at hl 6 rfl) ?_
          refine lv_if_ne (tgt := 91) hx hb dX6_period_78 (by decide) (fun hc => ?_) (fun hc => ?_)
          · have h := h.1 hc
            refine lv_aload hx hb dX6_period_91 (lv_at hl 2 rfl) ?_
            obtain ⟨ho, h⟩ := h
            refine zr_Vl (As := []) (rest := []) S hK hw (kX5_low l lo g M14 left_5  _ h) (cwV 0 hts (zg_V zu_439 zu_167 zu_168 zu_12 zu_169) rfl rfl rfl (by decide +kernel) ⟨Nat.le_of_ble_eq_true rfl, Nat.le_of_ble_eq_true rfl⟩) (ci := 8) rfl ho rfl hl.1 rfl (Nat.le_of_ble_eq_true rfl) dX6_period_93 ⟨Nat.le_of_ble_eq_true rfl, Nat.le_of_ble_eq_true rfl⟩ (fun r17 M16 H locs hw h => ?_)
            refine lv_l2i hx hb dX6_period_96 rfl ?_
            refine zr_Si (As := [.int (r17.toInt32)]) (rest := []) S hK hw (kX6_orderOfTen l lo g M16 (r17.toInt32) _ h) (va_cwS 1 hts (zg_S zu_440 zu_441 zu_303 zu_442) rfl rfl rfl (by decide +kernel) ⟨Nat.le_of_ble_eq_true rfl, Nat.le_of_ble_eq_true rfl⟩) rfl hl.1 rfl (Nat.le_of_ble_eq_true rfl) dX6_period_97 ⟨Nat.le_of_ble_eq_true rfl, Nat.le_of_ble_eq_true rfl⟩ (fun r19 M18 H locs hw h => ?_)
            exact zr_ri S hr hlocks hw h dX6_period_100
          · have h := h.2 hc
            refine lv_iload hx hb dX6_period_81 (lv_at hl 1 rfl) ?_
            refine lv_iload hx hb dX6_period_83 (lv_at hl 0 rfl) ?_
            refine zr_max S hl.1 zu_390 zu_7 zu_4 zu_8 (Nat.le_of_ble_eq_true rfl) (Nat.le_of_ble_eq_true rfl) (Nat.zero_le _) (Nat.zero_le _) dX6_period_85 ?_
            refine lv_goto (tgt := 100) hx hb dX6_period_88 (by decide) ?_
            exact zr_ri S hr hlocks hw h dX6_period_100
        · have h := h.2 hc
          refine lv_bipush (v := (-2 : Int32)) hx hb dX6_period_74 (by decide) ?_
          exact zr_ri S hr hlocks hw h dX6_period_76
      · have h := h.2 hc
        refine lv_iconst (v := (-1 : Int32)) hx hb dX6_period_19 (by decide) ?_
        exact zr_ri S hr hlocks hw h dX6_period_20
set_option maxHeartbeats 4000000 in
set_option maxRecDepth 100000 in
theorem kX7_thrown (l : Launch) (lo : Nat) (g : zg) (M : zm_M) (a0 : Nat) (post : Int32 → zm_M → Prop) (h : pX7_thrown g.2 a0 post M) : Met l yX7_thrown (Cond.code yX7_thrown cX7_thrown 1 (some .int) :: zU) (({ frames := 1, cells := 0, slots := 0, locals := 40 } : Room)) (zc_P zNF zNM lo g M [.ref a0]) (va_Qi post (zc_B lo g) (zA lo)) 0 0 (zA lo) := by
  refine Met.ofW (cc := cX7_thrown) (maxL := 1) (ret := (some .int)) (by decide) rfl ?_
  intro p e s m args below meth c s₁ B hml hv
  obtain ⟨rfl, hR, hK⟩ := hv
  have hts := atoms_spec (ws := Cond.code yX7_thrown cX7_thrown 1 (some .int) :: zU) B.pre
  have hts : ∀ w ∈ zU, w.before _ s = true := fun w hw => hts w (List.mem_cons_of_mem _ hw)
  have hown : s.vm.findClass RX7 = some m.cls := findClass_of_methodNamed B.named
  have hx := B.exec
  have hb := B.bytes
  have hr := B.returns
  have hlocks := B.notSynchronized
  have S : CallFix p m c cX7_thrown 1 s ([.ref a0] : List Value).toArray zU RX7 := ⟨hx, hb, hml, hown, hts⟩
  have hw : zW lo g s s.heap [] M := ⟨hR, va_S.rf⟩
  have hl := lv_entry ([.ref a0]) (n := 1) (Nat.le_of_ble_eq_true rfl)
  rw [lg_entry_eq]
  generalize (lg_sl ([.ref a0]) ++ List.replicate (1 - (lg_sl ([.ref a0])).length) Slot.unset).toArray = ls at hl ⊢
  have hl : lv_has ls 1 [(0, .ref a0)] := hl
  unfold pX7_thrown at h
  refine lv_aload_n hx hb dX7_thrown_0 rfl (lv_at hl 0 rfl) ?_
  refine zr_gi (C := RX7) (T := TX7) (N := 14) (ci := 10) (k := 0) S hK hw zi_X7 rfl (by decide) zu_443 dX7_thrown_1 h (fun thrown_1 h => ?_)
  exact zr_ri S hr hlocks hw h dX7_thrown_4
set_option maxHeartbeats 4000000 in
set_option maxRecDepth 100000 in
theorem kX7_in (l : Launch) (lo : Nat) (g : zg) (M : zm_M) (a0 : Int64) (a2 : Int64) (a4 : Int64) (post : Int32 → zm_M → Prop) (h : pX7_in g.2 a0 a2 a4 post M) : Met l yX7_in (Cond.code yX7_in cX7_in 6 (some .boolean) :: zU) (({ frames := 1, cells := 0, slots := 0, locals := 40 } : Room)) (zc_P zNF zNM lo g M [.long a0, .long a2, .long a4]) (va_Qi post (zc_B lo g) (zA lo)) 0 0 (zA lo) := by
  refine Met.ofW (cc := cX7_in) (maxL := 6) (ret := (some .boolean)) (by decide) rfl ?_
  intro p e s m args below meth c s₁ B hml hv
  obtain ⟨rfl, hR, hK⟩ := hv
  have hts := atoms_spec (ws := Cond.code yX7_in cX7_in 6 (some .boolean) :: zU) B.pre
  have hts : ∀ w ∈ zU, w.before _ s = true := fun w hw => hts w (List.mem_cons_of_mem _ hw)
  have hown : s.vm.findClass RX7 = some m.cls := findClass_of_methodNamed B.named
  have hx := B.exec
  have hb := B.bytes
  have hr := B.returns
  have hlocks := B.notSynchronized
  have S : CallFix p m c cX7_in 6 s ([.long a0, .long a2, .long a4] : List Value).toArray zU RX7 := ⟨hx, hb, hml, hown, hts⟩
  have hw : zW lo g s s.heap [] M := ⟨hR, va_S.rf⟩
  have hl := lv_entry ([.long a0, .long a2, .long a4]) (n := 6) (Nat.le_of_ble_eq_true rfl)
  rw [lg_entry_eq]
  generalize (lg_sl ([.long a0, .long a2, .long a4]) ++ List.replicate (6 - (lg_sl ([.long a0, .long a2, .long a4])).length) Slot.unset).toArray = ls at hl ⊢
  have hl : lv_has ls 6 [(0, .long a0), (2, .long a2), (4, .long a4)] := hl
  unfold pX7_in at h
  refine lv_lload_n hx hb dX7_in_0 rfl (lv_at hl 0 rfl) ?_
  refine lv_lload_n hx hb dX7_in_1 rfl (lv_at hl 1 rfl) ?_
  refine W.lcmp hx hb dX7_in_2 ?_
  refine lv_if_lt (tgt := 17) hx hb dX7_in_3 (by decide) (fun hc => ?_) (fun hc => ?_)
  · have h := h.1 (zc_lt.mp hc)
    refine lv_iconst (v := (0 : Int32)) hx hb dX7_in_17 (by decide) ?_
    exact zr_rz S hr hlocks hw h dX7_in_18
  · have h := h.2 (fun q => hc (zc_lt.mpr q))
    refine lv_lload_n hx hb dX7_in_6 rfl (lv_at hl 0 rfl) ?_
    refine lv_lload hx hb dX7_in_7 (lv_at hl 2 rfl) ?_
    refine W.lcmp hx hb dX7_in_9 ?_
    refine lv_if_gt (tgt := 17) hx hb dX7_in_10 (by decide) (fun hc => ?_) (fun hc => ?_)
    · have h := h.1 (zc_gt.mp hc)
      refine lv_iconst (v := (0 : Int32)) hx hb dX7_in_17 (by decide) ?_
      exact zr_rz S hr hlocks hw h dX7_in_18
    · have h := h.2 (fun q => hc (zc_gt.mpr q))
      refine lv_iconst (v := (1 : Int32)) hx hb dX7_in_13 (by decide) ?_
      refine lv_goto (tgt := 18) hx hb dX7_in_14 (by decide) ?_
      exact zr_rz S hr hlocks hw h dX7_in_18
set_option maxHeartbeats 4000000 in
set_option maxRecDepth 100000 in
theorem sX7_trim_0 {p : Program} {l : Launch} {e : Env} {s : State} {m : MethodId} {args : Array Value} {below : List Frame} {meth : Method} {c : Code} {lo : Nat} {g : zg} {post : zm_M → Prop}  (S : CallFix p m c cX7_trim 2 s args zU RX7) (hr : meth.sig.returnType = none) (hlocks : meth.locks = false) (hK : zk_K zNF zNM g s)  : ∀ (n : Nat) (v0 : Nat) (v1 : Int32) (M : zm_M), pX7_trim_0 g.2 post  n v0 v1 M → ∀ (H : Heap) (locs : List Loc) (ls : Array Slot), zW lo g s H locs M → lv_has ls 2 [(0, .ref v0), (1, .int v1)] → W p l e ({ frames := 1, cells := 0, slots := 0, locals := 40 } : Room) s m args below meth c H locs 0 0 (MQ below (va_Qv post (zc_B lo g) (zA lo)) args s 0 0 (zA lo)) (F0 m 0 ls []) := by
  obtain ⟨hx, hb, hml, hown, hts⟩ := id S
  intro n
  induction n with
  | zero =>
    intro v0 v1 M h
    exact False.elim h
  | succ n0 ih =>
    intro v0 v1 M h H locs ls hw hl
    rw [pX7_trim_0] at h
    refine lv_aload_n hx hb dX7_trim_0 rfl (lv_at hl 0 rfl) ?_
    refine zr_ga (C := RX7) (T := TX7) (N := 14) (ci := 10) (k := 10) S hK hw zi_X7 rfl (by decide) zu_444 dX7_trim_1 h (fun n_1 h => ?_)
    refine lv_iload_n hx hb dX7_trim_4 rfl (lv_at hl 1 rfl) ?_
    refine zr_iald S hK hw dX7_trim_5 h (fun e2 h => ?_)
    refine lv_if_le (tgt := 45) hx hb dX7_trim_6 (by decide) (fun hc => ?_) (fun hc => ?_)
    · have h := h.1 hc
      exact zr_rv S hr hlocks hw h dX7_trim_45
    · have h := h.2 hc
      refine lv_aload_n hx hb dX7_trim_9 rfl (lv_at hl 0 rfl) ?_
      refine zr_ga (C := RX7) (T := TX7) (N := 14) (ci := 10) (k := 9) S hK hw zi_X7 rfl (by decide) zu_445 dX7_trim_10 h (fun g_3 h => ?_)
      refine lv_bipush (v := (72 : Int32)) hx hb dX7_trim_13 (by decide) ?_
      refine lv_iload_n hx hb dX7_trim_15 rfl (lv_at hl 1 rfl) ?_
      refine lv_imul hx hb dX7_trim_16 ?_
      refine lv_aload_n hx hb dX7_trim_17 rfl (lv_at hl 0 rfl) ?_
      refine zr_ga (C := RX7) (T := TX7) (N := 14) (ci := 10) (k := 10) S hK hw zi_X7 rfl (by decide) zu_444 dX7_trim_18 h (fun n_4 h => ?_)
      refine lv_iload_n hx hb dX7_trim_21 rfl (lv_at hl 1 rfl) ?_
      refine zr_iald S hK hw dX7_trim_22 h (fun e5 h => ?_)
      refine lv_iadd hx hb dX7_trim_23 ?_
      refine lv_iconst (v := (1 : Int32)) hx hb dX7_trim_24 (by decide) ?_
      refine lv_isub hx hb dX7_trim_25 ?_
      refine zr_lald S hK hw dX7_trim_26 h (fun e6 h => ?_)
      refine lv_lconst (v := (0 : Int64)) hx hb dX7_trim_27 (by decide) ?_
      refine W.lcmp hx hb dX7_trim_28 ?_
      refine lv_if_ne (tgt := 45) hx hb dX7_trim_29 (by decide) (fun hc => ?_) (fun hc => ?_)
      · have h := h.1 (fun q => hc (zc_eq.mpr q))
        exact zr_rv S hr hlocks hw h dX7_trim_45
      · have h := h.2 (zc_eq.mp hc)
        refine lv_aload_n hx hb dX7_trim_32 rfl (lv_at hl 0 rfl) ?_
        refine zr_ga (C := RX7) (T := TX7) (N := 14) (ci := 10) (k := 10) S hK hw zi_X7 rfl (by decide) zu_444 dX7_trim_33 h (fun n_7 h => ?_)
        refine lv_iload_n hx hb dX7_trim_36 rfl (lv_at hl 1 rfl) ?_
        refine lv_dup2_11 hx hb dX7_trim_37 rfl rfl ?_
        refine zr_iald S hK hw dX7_trim_38 h (fun e8 h => ?_)
        refine lv_iconst (v := (1 : Int32)) hx hb dX7_trim_39 (by decide) ?_
        refine lv_isub hx hb dX7_trim_40 ?_
        refine zr_iast S hK hw dX7_trim_41 h (fun M9 H locs hw h => ?_)
        refine lv_goto (tgt := 0) hx hb dX7_trim_42 (by decide) ?_
        exact ih v0 v1 _ h _ _ _ hw (lv_sub hl [0, 1] rfl)
set_option maxHeartbeats 4000000 in
set_option maxRecDepth 100000 in
theorem kX7_trim (l : Launch) (lo : Nat) (g : zg) (M : zm_M) (a0 : Nat) (a1 : Int32) (post : zm_M → Prop) (h : pX7_trim g.2 a0 a1 post M) : Met l yX7_trim (Cond.code yX7_trim cX7_trim 2 none :: zU) (({ frames := 1, cells := 0, slots := 0, locals := 40 } : Room)) (zc_P zNF zNM lo g M [.ref a0, .int a1]) (va_Qv post (zc_B lo g) (zA lo)) 0 0 (zA lo) := by
  refine Met.ofW (cc := cX7_trim) (maxL := 2) (ret := none) (by decide) rfl ?_
  intro p e s m args below meth c s₁ B hml hv
  obtain ⟨rfl, hR, hK⟩ := hv
  have hts := atoms_spec (ws := Cond.code yX7_trim cX7_trim 2 none :: zU) B.pre
  have hts : ∀ w ∈ zU, w.before _ s = true := fun w hw => hts w (List.mem_cons_of_mem _ hw)
  have hown : s.vm.findClass RX7 = some m.cls := findClass_of_methodNamed B.named
  have hx := B.exec
  have hb := B.bytes
  have hr := B.returns
  have hlocks := B.notSynchronized
  have S : CallFix p m c cX7_trim 2 s ([.ref a0, .int a1] : List Value).toArray zU RX7 := ⟨hx, hb, hml, hown, hts⟩
  have hw : zW lo g s s.heap [] M := ⟨hR, va_S.rf⟩
  have hl := lv_entry ([.ref a0, .int a1]) (n := 2) (Nat.le_of_ble_eq_true rfl)
  rw [lg_entry_eq]
  generalize (lg_sl ([.ref a0, .int a1]) ++ List.replicate (2 - (lg_sl ([.ref a0, .int a1])).length) Slot.unset).toArray = ls at hl ⊢
  have hl : lv_has ls 2 [(0, .ref a0), (1, .int a1)] := hl
  unfold pX7_trim at h
  obtain ⟨n0, h⟩ := h
  refine sX7_trim_0 S hr hlocks hK  n0 a0 a1 _ h _ _ _ hw (lv_sub hl [0, 1] rfl)
set_option maxHeartbeats 4000000 in
set_option maxRecDepth 100000 in
theorem kX7_small (l : Launch) (lo : Nat) (g : zg) (M : zm_M) (a0 : Nat) (a1 : Int32) (a2 : Int64) (post : zm_M → Prop) (h : pX7_small g.2 a0 a1 a2 post M) : Met l yX7_small (Cond.code yX7_small cX7_small 4 none :: zU) (({ frames := 2, cells := 0, slots := 0, locals := 61 } : Room)) (zc_P zNF zNM lo g M [.ref a0, .int a1, .long a2]) (va_Qv post (zc_B lo g) (zA lo)) 0 0 (zA lo) := by
  refine Met.ofW (cc := cX7_small) (maxL := 4) (ret := none) (by decide) rfl ?_
  intro p e s m args below meth c s₁ B hml hv
  obtain ⟨rfl, hR, hK⟩ := hv
  have hts := atoms_spec (ws := Cond.code yX7_small cX7_small 4 none :: zU) B.pre
  have hts : ∀ w ∈ zU, w.before _ s = true := fun w hw => hts w (List.mem_cons_of_mem _ hw)
  have hown : s.vm.findClass RX7 = some m.cls := findClass_of_methodNamed B.named
  have hx := B.exec
  have hb := B.bytes
  have hr := B.returns
  have hlocks := B.notSynchronized
  have S : CallFix p m c cX7_small 4 s ([.ref a0, .int a1, .long a2] : List Value).toArray zU RX7 := ⟨hx, hb, hml, hown, hts⟩
  have hw : zW lo g s s.heap [] M := ⟨hR, va_S.rf⟩
  have hl := lv_entry ([.ref a0, .int a1, .long a2]) (n := 4) (Nat.le_of_ble_eq_true rfl)
  rw [lg_entry_eq]
  generalize (lg_sl ([.ref a0, .int a1, .long a2]) ++ List.replicate (4 - (lg_sl ([.ref a0, .int a1, .long a2])).length) Slot.unset).toArray = ls at hl ⊢
  have hl : lv_has ls 4 [(0, .ref a0), (1, .int a1), (2, .long a2)] := hl
  unfold pX7_small at h
  refine lv_aload_n hx hb dX7_small_0 rfl (lv_at hl 0 rfl) ?_
  refine zr_ga (C := RX7) (T := TX7) (N := 14) (ci := 10) (k := 9) S hK hw zi_X7 rfl (by decide) zu_445 dX7_small_1 h (fun g_1 h => ?_)
  refine lv_bipush (v := (72 : Int32)) hx hb dX7_small_4 (by decide) ?_
  refine lv_iload_n hx hb dX7_small_6 rfl (lv_at hl 1 rfl) ?_
  refine lv_imul hx hb dX7_small_7 ?_
  refine lv_lload_n hx hb dX7_small_8 rfl (lv_at hl 2 rfl) ?_
  refine lv_ldc2 (v := (4294967295 : Int64)) hx hb hown (hts _ zu_446) dX7_small_9 ?_
  refine lv_land hx hb dX7_small_12 ?_
  refine zr_last S hK hw dX7_small_13 h (fun M2 H locs hw h => ?_)
  refine lv_aload_n hx hb dX7_small_14 rfl (lv_at hl 0 rfl) ?_
  refine zr_ga (C := RX7) (T := TX7) (N := 14) (ci := 10) (k := 9) S hK hw zi_X7 rfl (by decide) zu_445 dX7_small_15 h (fun g_3 h => ?_)
  refine lv_bipush (v := (72 : Int32)) hx hb dX7_small_18 (by decide) ?_
  refine lv_iload_n hx hb dX7_small_20 rfl (lv_at hl 1 rfl) ?_
  refine lv_imul hx hb dX7_small_21 ?_
  refine lv_iconst (v := (1 : Int32)) hx hb dX7_small_22 (by decide) ?_
  refine lv_iadd hx hb dX7_small_23 ?_
  refine lv_lload_n hx hb dX7_small_24 rfl (lv_at hl 2 rfl) ?_
  refine lv_bipush (v := (32 : Int32)) hx hb dX7_small_25 (by decide) ?_
  refine lv_lushr hx hb dX7_small_27 rfl ?_
  refine zr_last S hK hw dX7_small_28 h (fun M4 H locs hw h => ?_)
  refine lv_aload_n hx hb dX7_small_29 rfl (lv_at hl 0 rfl) ?_
  refine zr_ga (C := RX7) (T := TX7) (N := 14) (ci := 10) (k := 10) S hK hw zi_X7 rfl (by decide) zu_444 dX7_small_30 h (fun n_5 h => ?_)
  refine lv_iload_n hx hb dX7_small_33 rfl (lv_at hl 1 rfl) ?_
  refine lv_iconst (v := (2 : Int32)) hx hb dX7_small_34 (by decide) ?_
  refine zr_iast S hK hw dX7_small_35 h (fun M6 H locs hw h => ?_)
  refine lv_aload_n hx hb dX7_small_36 rfl (lv_at hl 0 rfl) ?_
  refine lv_iload_n hx hb dX7_small_37 rfl (lv_at hl 1 rfl) ?_
  obtain ⟨ho, h⟩ := h
  refine zr_Vv (As := [.int a1]) (rest := []) S hK hw (kX7_trim l lo g M6 a0 a1 _ h) (cwV 1 hts (zg_V zu_447 zu_448 zu_449 zu_450 zu_451) rfl rfl rfl (by decide +kernel) ⟨Nat.le_of_ble_eq_true rfl, Nat.le_of_ble_eq_true rfl⟩) (ci := 10) rfl ho rfl hl.1 rfl (Nat.le_of_ble_eq_true rfl) dX7_small_38 ⟨Nat.le_of_ble_eq_true rfl, Nat.le_of_ble_eq_true rfl⟩ (fun M7 H locs hw h => ?_)
  exact zr_rv S hr hlocks hw h dX7_small_41
set_option maxHeartbeats 4000000 in
set_option maxRecDepth 100000 in
theorem sX7_copy_2 {p : Program} {l : Launch} {e : Env} {s : State} {m : MethodId} {args : Array Value} {below : List Frame} {meth : Method} {c : Code} {lo : Nat} {g : zg} {post : zm_M → Prop} {k40 : Nat → Int32 → Int32 → zm_M → Prop} (S : CallFix p m c cX7_copy 4 s args zU RX7) (hr : meth.sig.returnType = none) (hlocks : meth.locks = false) (hK : zk_K zNF zNM g s) (hk40 : ∀ (v0 : Nat) (v1 : Int32) (v2 : Int32) (M : zm_M), k40 v0 v1 v2 M → ∀ (H : Heap) (locs : List Loc) (ls : Array Slot), zW lo g s H locs M → lv_has ls 4 [(0, .ref v0), (1, .int v1), (2, .int v2)] → W p l e ({ frames := 1, cells := 0, slots := 0, locals := 40 } : Room) s m args below meth c H locs 0 0 (MQ below (va_Qv post (zc_B lo g) (zA lo)) args s 0 0 (zA lo)) (F0 m 40 ls [])) : ∀ (n : Nat) (v0 : Nat) (v1 : Int32) (v2 : Int32) (v3 : Int32) (M : zm_M), pX7_copy_2 g.2 post k40 n v0 v1 v2 v3 M → ∀ (H : Heap) (locs : List Loc) (ls : Array Slot), zW lo g s H locs M → lv_has ls 4 [(0, .ref v0), (1, .int v1), (2, .int v2), (3, .int v3)] → W p l e ({ frames := 1, cells := 0, slots := 0, locals := 40 } : Room) s m args below meth c H locs 0 0 (MQ below (va_Qv post (zc_B lo g) (zA lo)) args s 0 0 (zA lo)) (F0 m 2 ls []) := by
  obtain ⟨hx, hb, hml, hown, hts⟩ := id S
  intro n
  induction n with
  | zero =>
    intro v0 v1 v2 v3 M h
    exact False.elim h
  | succ n2 ih =>
    intro v0 v1 v2 v3 M h H locs ls hw hl
    rw [pX7_copy_2] at h
    refine lv_iload_n hx hb dX7_copy_2 rfl (lv_at hl 3 rfl) ?_
    refine lv_aload_n hx hb dX7_copy_3 rfl (lv_at hl 0 rfl) ?_
    refine zr_ga (C := RX7) (T := TX7) (N := 14) (ci := 10) (k := 10) S hK hw zi_X7 rfl (by decide) zu_444 dX7_copy_4 h (fun n_2 h => ?_)
    refine lv_iload_n hx hb dX7_copy_7 rfl (lv_at hl 2 rfl) ?_
    refine zr_iald S hK hw dX7_copy_8 h (fun e3 h => ?_)
    refine lv_icmp_ge (tgt := 40) hx hb dX7_copy_9 (by decide) (fun hc => ?_) (fun hc => ?_)
    · have h := h.1 hc
      exact hk40 v0 v1 v2 _ h _ _ _ hw (lv_sub hl [0, 1, 2] rfl)
    · have h := h.2 hc
      refine lv_aload_n hx hb dX7_copy_12 rfl (lv_at hl 0 rfl) ?_
      refine zr_ga (C := RX7) (T := TX7) (N := 14) (ci := 10) (k := 9) S hK hw zi_X7 rfl (by decide) zu_445 dX7_copy_13 h (fun g_4 h => ?_)
      refine lv_bipush (v := (72 : Int32)) hx hb dX7_copy_16 (by decide) ?_
      refine lv_iload_n hx hb dX7_copy_18 rfl (lv_at hl 1 rfl) ?_
      refine lv_imul hx hb dX7_copy_19 ?_
      refine lv_iload_n hx hb dX7_copy_20 rfl (lv_at hl 3 rfl) ?_
      refine lv_iadd hx hb dX7_copy_21 ?_
      refine lv_aload_n hx hb dX7_copy_22 rfl (lv_at hl 0 rfl) ?_
      refine zr_ga (C := RX7) (T := TX7) (N := 14) (ci := 10) (k := 9) S hK hw zi_X7 rfl (by decide) zu_445 dX7_copy_23 h (fun g_5 h => ?_)
      refine lv_bipush (v := (72 : Int32)) hx hb dX7_copy_26 (by decide) ?_
      refine lv_iload_n hx hb dX7_copy_28 rfl (lv_at hl 2 rfl) ?_
      refine lv_imul hx hb dX7_copy_29 ?_
      refine lv_iload_n hx hb dX7_copy_30 rfl (lv_at hl 3 rfl) ?_
      refine lv_iadd hx hb dX7_copy_31 ?_
      refine zr_lald S hK hw dX7_copy_32 h (fun e6 h => ?_)
      refine zr_last S hK hw dX7_copy_33 h (fun M7 H locs hw h => ?_)
      obtain ⟨x8, ex8⟩ : ∃ z : Int32, z = v3 + (1 : Int32) := ⟨_, rfl⟩
      have h := h x8 ex8
      refine lv_iinc (v := x8) (lv' := [(3, .int x8), (0, .ref v0), (1, .int v1), (2, .int v2)]) hx hb dX7_copy_34 hl (k := 3) rfl (by rw [ex8]; rfl) (by decide) rfl (fun ls hl => ?_)
      refine lv_goto (tgt := 2) hx hb dX7_copy_37 (by decide) ?_
      exact ih v0 v1 v2 x8 _ h _ _ _ hw (lv_sub hl [1, 2, 3, 0] rfl)
set_option maxHeartbeats 4000000 in
set_option maxRecDepth 100000 in
theorem kX7_copy (l : Launch) (lo : Nat) (g : zg) (M : zm_M) (a0 : Nat) (a1 : Int32) (a2 : Int32) (post : zm_M → Prop) (h : pX7_copy g.2 a0 a1 a2 post M) : Met l yX7_copy (Cond.code yX7_copy cX7_copy 4 none :: zU) (({ frames := 1, cells := 0, slots := 0, locals := 40 } : Room)) (zc_P zNF zNM lo g M [.ref a0, .int a1, .int a2]) (va_Qv post (zc_B lo g) (zA lo)) 0 0 (zA lo) := by
  refine Met.ofW (cc := cX7_copy) (maxL := 4) (ret := none) (by decide) rfl ?_
  intro p e s m args below meth c s₁ B hml hv
  obtain ⟨rfl, hR, hK⟩ := hv
  have hts := atoms_spec (ws := Cond.code yX7_copy cX7_copy 4 none :: zU) B.pre
  have hts : ∀ w ∈ zU, w.before _ s = true := fun w hw => hts w (List.mem_cons_of_mem _ hw)
  have hown : s.vm.findClass RX7 = some m.cls := findClass_of_methodNamed B.named
  have hx := B.exec
  have hb := B.bytes
  have hr := B.returns
  have hlocks := B.notSynchronized
  have S : CallFix p m c cX7_copy 4 s ([.ref a0, .int a1, .int a2] : List Value).toArray zU RX7 := ⟨hx, hb, hml, hown, hts⟩
  have hw : zW lo g s s.heap [] M := ⟨hR, va_S.rf⟩
  have hl := lv_entry ([.ref a0, .int a1, .int a2]) (n := 4) (Nat.le_of_ble_eq_true rfl)
  rw [lg_entry_eq]
  generalize (lg_sl ([.ref a0, .int a1, .int a2]) ++ List.replicate (4 - (lg_sl ([.ref a0, .int a1, .int a2])).length) Slot.unset).toArray = ls at hl ⊢
  have hl : lv_has ls 4 [(0, .ref a0), (1, .int a1), (2, .int a2)] := hl
  unfold pX7_copy at h
  refine lv_iconst (v := (0 : Int32)) hx hb dX7_copy_0 (by decide) ?_
  refine lv_topi (fun x1 ex1 => ?_)
  have h := h x1 ex1
  refine lv_istore_n (lv' := [(3, .int x1), (0, .ref a0), (1, .int a1), (2, .int a2)]) hx hb dX7_copy_1 rfl hl (by decide) rfl (fun ls hl => ?_)
  obtain ⟨n2, h⟩ := h
  refine sX7_copy_2 S hr hlocks hK (fun w9 w10 w11 M12 h H locs ls hw hl => ?_) n2 a0 a1 a2 x1 _ h _ _ _ hw (lv_sub hl [1, 2, 3, 0] rfl)
  refine lv_aload_n hx hb dX7_copy_40 rfl (lv_at hl 0 rfl) ?_
  refine zr_ga (C := RX7) (T := TX7) (N := 14) (ci := 10) (k := 10) S hK hw zi_X7 rfl (by decide) zu_444 dX7_copy_41 h (fun n_13 h => ?_)
  refine lv_iload_n hx hb dX7_copy_44 rfl (lv_at hl 1 rfl) ?_
  refine lv_aload_n hx hb dX7_copy_45 rfl (lv_at hl 0 rfl) ?_
  refine zr_ga (C := RX7) (T := TX7) (N := 14) (ci := 10) (k := 10) S hK hw zi_X7 rfl (by decide) zu_444 dX7_copy_46 h (fun n_14 h => ?_)
  refine lv_iload_n hx hb dX7_copy_49 rfl (lv_at hl 2 rfl) ?_
  refine zr_iald S hK hw dX7_copy_50 h (fun e15 h => ?_)
  refine zr_iast S hK hw dX7_copy_51 h (fun M16 H locs hw h => ?_)
  exact zr_rv S hr hlocks hw h dX7_copy_52
set_option maxHeartbeats 4000000 in
set_option maxRecDepth 100000 in
theorem sX7_compared_45 {p : Program} {l : Launch} {e : Env} {s : State} {m : MethodId} {args : Array Value} {below : List Frame} {meth : Method} {c : Code} {lo : Nat} {g : zg} {post : Int32 → zm_M → Prop} {k83 : Int64 → Int64 → zm_M → Prop} (S : CallFix p m c cX7_compared 8 s args zU RX7) (hr : meth.sig.returnType = (some .int)) (hlocks : meth.locks = false) (hK : zk_K zNF zNM g s) (hk83 : ∀ (v4 : Int64) (v6 : Int64) (M : zm_M), k83 v4 v6 M → ∀ (H : Heap) (locs : List Loc) (ls : Array Slot), zW lo g s H locs M → lv_has ls 8 [(4, .long v4), (6, .long v6)] → W p l e ({ frames := 1, cells := 0, slots := 0, locals := 40 } : Room) s m args below meth c H locs 0 0 (MQ below (va_Qi post (zc_B lo g) (zA lo)) args s 0 0 (zA lo)) (F0 m 83 ls [])) : ∀ (n : Nat) (v0 : Nat) (v1 : Int32) (v2 : Int32) (v3 : Int32) (M : zm_M), pX7_compared_45 g.2 post k83 n v0 v1 v2 v3 M → ∀ (H : Heap) (locs : List Loc) (ls : Array Slot), zW lo g s H locs M → lv_has ls 8 [(0, .ref v0), (1, .int v1), (2, .int v2), (3, .int v3)] → W p l e ({ frames := 1, cells := 0, slots := 0, locals := 40 } : Room) s m args below meth c H locs 0 0 (MQ below (va_Qi post (zc_B lo g) (zA lo)) args s 0 0 (zA lo)) (F0 m 45 ls []) := by
  obtain ⟨hx, hb, hml, hown, hts⟩ := id S
  intro n
  induction n with
  | zero =>
    intro v0 v1 v2 v3 M h
    exact False.elim h
  | succ n45 ih =>
    intro v0 v1 v2 v3 M h H locs ls hw hl
    rw [pX7_compared_45] at h
    refine lv_iload_n hx hb dX7_compared_45 rfl (lv_at hl 3 rfl) ?_
    refine lv_if_lt (tgt := 103) hx hb dX7_compared_46 (by decide) (fun hc => ?_) (fun hc => ?_)
    · have h := h.1 hc
      refine lv_iconst (v := (0 : Int32)) hx hb dX7_compared_103 (by decide) ?_
      exact zr_ri S hr hlocks hw h dX7_compared_104
    · have h := h.2 hc
      refine lv_aload_n hx hb dX7_compared_49 rfl (lv_at hl 0 rfl) ?_
      refine zr_ga (C := RX7) (T := TX7) (N := 14) (ci := 10) (k := 9) S hK hw zi_X7 rfl (by decide) zu_445 dX7_compared_50 h (fun g_8 h => ?_)
      refine lv_bipush (v := (72 : Int32)) hx hb dX7_compared_53 (by decide) ?_
      refine lv_iload_n hx hb dX7_compared_55 rfl (lv_at hl 1 rfl) ?_
      refine lv_imul hx hb dX7_compared_56 ?_
      refine lv_iload_n hx hb dX7_compared_57 rfl (lv_at hl 3 rfl) ?_
      refine lv_iadd hx hb dX7_compared_58 ?_
      refine zr_lald S hK hw dX7_compared_59 h (fun e9 h => ?_)
      refine lv_lstore (lv' := [(4, .long e9), (0, .ref v0), (1, .int v1), (2, .int v2), (3, .int v3)]) hx hb dX7_compared_60 hl (by decide) rfl (fun ls hl => ?_)
      refine lv_aload_n hx hb dX7_compared_62 rfl (lv_at hl 1 rfl) ?_
      refine zr_ga (C := RX7) (T := TX7) (N := 14) (ci := 10) (k := 9) S hK hw zi_X7 rfl (by decide) zu_445 dX7_compared_63 h (fun g_10 h => ?_)
      refine lv_bipush (v := (72 : Int32)) hx hb dX7_compared_66 (by decide) ?_
      refine lv_iload_n hx hb dX7_compared_68 rfl (lv_at hl 3 rfl) ?_
      refine lv_imul hx hb dX7_compared_69 ?_
      refine lv_iload_n hx hb dX7_compared_70 rfl (lv_at hl 4 rfl) ?_
      refine lv_iadd hx hb dX7_compared_71 ?_
      refine zr_lald S hK hw dX7_compared_72 h (fun e11 h => ?_)
      refine lv_lstore (lv' := [(6, .long e11), (4, .long e9), (0, .ref v0), (1, .int v1), (2, .int v2), (3, .int v3)]) hx hb dX7_compared_73 hl (by decide) rfl (fun ls hl => ?_)
      refine lv_lload hx hb dX7_compared_75 (lv_at hl 1 rfl) ?_
      refine lv_lload hx hb dX7_compared_77 (lv_at hl 0 rfl) ?_
      refine W.lcmp hx hb dX7_compared_79 ?_
      refine lv_if_eq (tgt := 97) hx hb dX7_compared_80 (by decide) (fun hc => ?_) (fun hc => ?_)
      · have h := h.1 (zc_eq.mp hc)
        obtain ⟨x12, ex12⟩ : ∃ z : Int32, z = v3 + (-1 : Int32) := ⟨_, rfl⟩
        have h := h x12 ex12
        refine lv_iinc (v := x12) (lv' := [(3, .int x12), (6, .long e11), (4, .long e9), (0, .ref v0), (1, .int v1), (2, .int v2)]) hx hb dX7_compared_97 hl (k := 5) rfl (by rw [ex12]; rfl) (by decide) rfl (fun ls hl => ?_)
        refine lv_goto (tgt := 45) hx hb dX7_compared_100 (by decide) ?_
        exact ih v0 v1 v2 x12 _ h _ _ _ hw (lv_sub hl [3, 4, 5, 0] rfl)
      · have h := h.2 (fun q => hc (zc_eq.mpr q))
        exact hk83 e9 e11 _ h _ _ _ hw (lv_sub hl [1, 0] rfl)
set_option maxHeartbeats 4000000 in
set_option maxRecDepth 100000 in
theorem kX7_compared (l : Launch) (lo : Nat) (g : zg) (M : zm_M) (a0 : Nat) (a1 : Int32) (a2 : Int32) (post : Int32 → zm_M → Prop) (h : pX7_compared g.2 a0 a1 a2 post M) : Met l yX7_compared (Cond.code yX7_compared cX7_compared 8 (some .int) :: zU) (({ frames := 1, cells := 0, slots := 0, locals := 40 } : Room)) (zc_P zNF zNM lo g M [.ref a0, .int a1, .int a2]) (va_Qi post (zc_B lo g) (zA lo)) 0 0 (zA lo) := by
  refine Met.ofW (cc := cX7_compared) (maxL := 8) (ret := (some .int)) (by decide) rfl ?_
  intro p e s m args below meth c s₁ B hml hv
  obtain ⟨rfl, hR, hK⟩ := hv
  have hts := atoms_spec (ws := Cond.code yX7_compared cX7_compared 8 (some .int) :: zU) B.pre
  have hts : ∀ w ∈ zU, w.before _ s = true := fun w hw => hts w (List.mem_cons_of_mem _ hw)
  have hown : s.vm.findClass RX7 = some m.cls := findClass_of_methodNamed B.named
  have hx := B.exec
  have hb := B.bytes
  have hr := B.returns
  have hlocks := B.notSynchronized
  have S : CallFix p m c cX7_compared 8 s ([.ref a0, .int a1, .int a2] : List Value).toArray zU RX7 := ⟨hx, hb, hml, hown, hts⟩
  have hw : zW lo g s s.heap [] M := ⟨hR, va_S.rf⟩
  have hl := lv_entry ([.ref a0, .int a1, .int a2]) (n := 8) (Nat.le_of_ble_eq_true rfl)
  rw [lg_entry_eq]
  generalize (lg_sl ([.ref a0, .int a1, .int a2]) ++ List.replicate (8 - (lg_sl ([.ref a0, .int a1, .int a2])).length) Slot.unset).toArray = ls at hl ⊢
  have hl : lv_has ls 8 [(0, .ref a0), (1, .int a1), (2, .int a2)] := hl
  unfold pX7_compared at h
  refine lv_aload_n hx hb dX7_compared_0 rfl (lv_at hl 0 rfl) ?_
  refine zr_ga (C := RX7) (T := TX7) (N := 14) (ci := 10) (k := 10) S hK hw zi_X7 rfl (by decide) zu_444 dX7_compared_1 h (fun n_1 h => ?_)
  refine lv_iload_n hx hb dX7_compared_4 rfl (lv_at hl 1 rfl) ?_
  refine zr_iald S hK hw dX7_compared_5 h (fun e2 h => ?_)
  refine lv_aload_n hx hb dX7_compared_6 rfl (lv_at hl 0 rfl) ?_
  refine zr_ga (C := RX7) (T := TX7) (N := 14) (ci := 10) (k := 10) S hK hw zi_X7 rfl (by decide) zu_444 dX7_compared_7 h (fun n_3 h => ?_)
  refine lv_iload_n hx hb dX7_compared_10 rfl (lv_at hl 2 rfl) ?_
  refine zr_iald S hK hw dX7_compared_11 h (fun e4 h => ?_)
  refine lv_icmp_eq (tgt := 36) hx hb dX7_compared_12 (by decide) (fun hc => ?_) (fun hc => ?_)
  · have h := h.1 hc
    refine lv_aload_n hx hb dX7_compared_36 rfl (lv_at hl 0 rfl) ?_
    refine zr_ga (C := RX7) (T := TX7) (N := 14) (ci := 10) (k := 10) S hK hw zi_X7 rfl (by decide) zu_444 dX7_compared_37 h (fun n_5 h => ?_)
    refine lv_iload_n hx hb dX7_compared_40 rfl (lv_at hl 1 rfl) ?_
    refine zr_iald S hK hw dX7_compared_41 h (fun e6 h => ?_)
    refine lv_iconst (v := (1 : Int32)) hx hb dX7_compared_42 (by decide) ?_
    refine lv_isub hx hb dX7_compared_43 ?_
    refine lv_topi (fun x7 ex7 => ?_)
    have h := h x7 ex7
    refine lv_istore_n (lv' := [(3, .int x7), (0, .ref a0), (1, .int a1), (2, .int a2)]) hx hb dX7_compared_44 rfl hl (by decide) rfl (fun ls hl => ?_)
    obtain ⟨n45, h⟩ := h
    refine sX7_compared_45 S hr hlocks hK (fun w13 w14 M15 h H locs ls hw hl => ?_) n45 a0 a1 a2 x7 _ h _ _ _ hw (lv_sub hl [1, 2, 3, 0] rfl)
    refine lv_lload hx hb dX7_compared_83 (lv_at hl 0 rfl) ?_
    refine lv_lload hx hb dX7_compared_85 (lv_at hl 1 rfl) ?_
    refine W.lcmp hx hb dX7_compared_87 ?_
    refine lv_if_ge (tgt := 95) hx hb dX7_compared_88 (by decide) (fun hc => ?_) (fun hc => ?_)
    · have h := h.1 (zc_ge.mp hc)
      refine lv_iconst (v := (1 : Int32)) hx hb dX7_compared_95 (by decide) ?_
      exact zr_ri S hr hlocks hw h dX7_compared_96
    · have h := h.2 (fun q => hc (zc_ge.mpr q))
      refine lv_iconst (v := (-1 : Int32)) hx hb dX7_compared_91 (by decide) ?_
      refine lv_goto (tgt := 96) hx hb dX7_compared_92 (by decide) ?_
      exact zr_ri S hr hlocks hw h dX7_compared_96
  · have h := h.2 hc
    refine lv_aload_n hx hb dX7_compared_15 rfl (lv_at hl 0 rfl) ?_
    refine zr_ga (C := RX7) (T := TX7) (N := 14) (ci := 10) (k := 10) S hK hw zi_X7 rfl (by decide) zu_444 dX7_compared_16 h (fun n_16 h => ?_)
    refine lv_iload_n hx hb dX7_compared_19 rfl (lv_at hl 1 rfl) ?_
    refine zr_iald S hK hw dX7_compared_20 h (fun e17 h => ?_)
    refine lv_aload_n hx hb dX7_compared_21 rfl (lv_at hl 0 rfl) ?_
    refine zr_ga (C := RX7) (T := TX7) (N := 14) (ci := 10) (k := 10) S hK hw zi_X7 rfl (by decide) zu_444 dX7_compared_22 h (fun n_18 h => ?_)
    refine lv_iload_n hx hb dX7_compared_25 rfl (lv_at hl 2 rfl) ?_
    refine zr_iald S hK hw dX7_compared_26 h (fun e19 h => ?_)
    refine lv_icmp_ge (tgt := 34) hx hb dX7_compared_27 (by decide) (fun hc => ?_) (fun hc => ?_)
    · have h := h.1 hc
      refine lv_iconst (v := (1 : Int32)) hx hb dX7_compared_34 (by decide) ?_
      exact zr_ri S hr hlocks hw h dX7_compared_35
    · have h := h.2 hc
      refine lv_iconst (v := (-1 : Int32)) hx hb dX7_compared_30 (by decide) ?_
      refine lv_goto (tgt := 35) hx hb dX7_compared_31 (by decide) ?_
      exact zr_ri S hr hlocks hw h dX7_compared_35
set_option maxHeartbeats 4000000 in
set_option maxRecDepth 100000 in
theorem sX7_bits_14 {p : Program} {l : Launch} {e : Env} {s : State} {m : MethodId} {args : Array Value} {below : List Frame} {meth : Method} {c : Code} {lo : Nat} {g : zg} {post : Int32 → zm_M → Prop}  (S : CallFix p m c cX7_bits 5 s args zU RX7) (hr : meth.sig.returnType = (some .int)) (hlocks : meth.locks = false) (hK : zk_K zNF zNM g s)  : ∀ (n : Nat) (v0 : Nat) (v1 : Int32) (v2 : Int32) (v3 : Int64) (M : zm_M), pX7_bits_14 g.2 post  n v0 v1 v2 v3 M → ∀ (H : Heap) (locs : List Loc) (ls : Array Slot), zW lo g s H locs M → lv_has ls 5 [(0, .ref v0), (1, .int v1), (2, .int v2), (3, .long v3)] → W p l e ({ frames := 1, cells := 0, slots := 0, locals := 40 } : Room) s m args below meth c H locs 0 0 (MQ below (va_Qi post (zc_B lo g) (zA lo)) args s 0 0 (zA lo)) (F0 m 14 ls []) := by
  obtain ⟨hx, hb, hml, hown, hts⟩ := id S
  intro n
  induction n with
  | zero =>
    intro v0 v1 v2 v3 M h
    exact False.elim h
  | succ n14 ih =>
    intro v0 v1 v2 v3 M h H locs ls hw hl
    rw [pX7_bits_14] at h
    refine lv_aload_n hx hb dX7_bits_14 rfl (lv_at hl 0 rfl) ?_
    refine zr_ga (C := RX7) (T := TX7) (N := 14) (ci := 10) (k := 10) S hK hw zi_X7 rfl (by decide) zu_444 dX7_bits_15 h (fun n_5 h => ?_)
    refine lv_iload_n hx hb dX7_bits_18 rfl (lv_at hl 1 rfl) ?_
    refine zr_iald S hK hw dX7_bits_19 h (fun e6 h => ?_)
    refine lv_if_le (tgt := 58) hx hb dX7_bits_20 (by decide) (fun hc => ?_) (fun hc => ?_)
    · have h := h.1 hc
      refine lv_iload_n hx hb dX7_bits_58 rfl (lv_at hl 2 rfl) ?_
      exact zr_ri S hr hlocks hw h dX7_bits_59
    · have h := h.2 hc
      refine lv_aload_n hx hb dX7_bits_23 rfl (lv_at hl 0 rfl) ?_
      refine zr_ga (C := RX7) (T := TX7) (N := 14) (ci := 10) (k := 9) S hK hw zi_X7 rfl (by decide) zu_445 dX7_bits_24 h (fun g_7 h => ?_)
      refine lv_bipush (v := (72 : Int32)) hx hb dX7_bits_27 (by decide) ?_
      refine lv_iload_n hx hb dX7_bits_29 rfl (lv_at hl 1 rfl) ?_
      refine lv_imul hx hb dX7_bits_30 ?_
      refine lv_aload_n hx hb dX7_bits_31 rfl (lv_at hl 0 rfl) ?_
      refine zr_ga (C := RX7) (T := TX7) (N := 14) (ci := 10) (k := 10) S hK hw zi_X7 rfl (by decide) zu_444 dX7_bits_32 h (fun n_8 h => ?_)
      refine lv_iload_n hx hb dX7_bits_35 rfl (lv_at hl 1 rfl) ?_
      refine zr_iald S hK hw dX7_bits_36 h (fun e9 h => ?_)
      refine lv_iadd hx hb dX7_bits_37 ?_
      refine lv_iconst (v := (1 : Int32)) hx hb dX7_bits_38 (by decide) ?_
      refine lv_isub hx hb dX7_bits_39 ?_
      refine zr_lald S hK hw dX7_bits_40 h (fun e10 h => ?_)
      refine lv_lload_n hx hb dX7_bits_41 rfl (lv_at hl 3 rfl) ?_
      refine lv_land hx hb dX7_bits_42 ?_
      refine lv_lconst (v := (0 : Int64)) hx hb dX7_bits_43 (by decide) ?_
      refine W.lcmp hx hb dX7_bits_44 ?_
      refine lv_if_ne (tgt := 58) hx hb dX7_bits_45 (by decide) (fun hc => ?_) (fun hc => ?_)
      · have h := h.1 (fun q => hc (zc_eq.mpr q))
        refine lv_iload_n hx hb dX7_bits_58 rfl (lv_at hl 2 rfl) ?_
        exact zr_ri S hr hlocks hw h dX7_bits_59
      · have h := h.2 (zc_eq.mp hc)
        obtain ⟨x11, ex11⟩ : ∃ z : Int32, z = v2 + (-1 : Int32) := ⟨_, rfl⟩
        have h := h x11 ex11
        refine lv_iinc (v := x11) (lv' := [(2, .int x11), (0, .ref v0), (1, .int v1), (3, .long v3)]) hx hb dX7_bits_48 hl (k := 2) rfl (by rw [ex11]; rfl) (by decide) rfl (fun ls hl => ?_)
        refine lv_lload_n hx hb dX7_bits_51 rfl (lv_at hl 3 rfl) ?_
        refine lv_iconst (v := (1 : Int32)) hx hb dX7_bits_52 (by decide) ?_
        refine lv_lshr hx hb dX7_bits_53 rfl ?_
        refine lv_topl (fun x12 ex12 => ?_)
        have h := h x12 ex12
        refine lv_lstore_n (lv' := [(3, .long x12), (2, .int x11), (0, .ref v0), (1, .int v1)]) hx hb dX7_bits_54 rfl hl (by decide) rfl (fun ls hl => ?_)
        refine lv_goto (tgt := 14) hx hb dX7_bits_55 (by decide) ?_
        exact ih v0 v1 x11 x12 _ h _ _ _ hw (lv_sub hl [2, 3, 1, 0] rfl)
set_option maxHeartbeats 4000000 in
set_option maxRecDepth 100000 in
theorem kX7_bits (l : Launch) (lo : Nat) (g : zg) (M : zm_M) (a0 : Nat) (a1 : Int32) (post : Int32 → zm_M → Prop) (h : pX7_bits g.2 a0 a1 post M) : Met l yX7_bits (Cond.code yX7_bits cX7_bits 5 (some .int) :: zU) (({ frames := 1, cells := 0, slots := 0, locals := 40 } : Room)) (zc_P zNF zNM lo g M [.ref a0, .int a1]) (va_Qi post (zc_B lo g) (zA lo)) 0 0 (zA lo) := by
  refine Met.ofW (cc := cX7_bits) (maxL := 5) (ret := (some .int)) (by decide) rfl ?_
  intro p e s m args below meth c s₁ B hml hv
  obtain ⟨rfl, hR, hK⟩ := hv
  have hts := atoms_spec (ws := Cond.code yX7_bits cX7_bits 5 (some .int) :: zU) B.pre
  have hts : ∀ w ∈ zU, w.before _ s = true := fun w hw => hts w (List.mem_cons_of_mem _ hw)
  have hown : s.vm.findClass RX7 = some m.cls := findClass_of_methodNamed B.named
  have hx := B.exec
  have hb := B.bytes
  have hr := B.returns
  have hlocks := B.notSynchronized
  have S : CallFix p m c cX7_bits 5 s ([.ref a0, .int a1] : List Value).toArray zU RX7 := ⟨hx, hb, hml, hown, hts⟩
  have hw : zW lo g s s.heap [] M := ⟨hR, va_S.rf⟩
  have hl := lv_entry ([.ref a0, .int a1]) (n := 5) (Nat.le_of_ble_eq_true rfl)
  rw [lg_entry_eq]
  generalize (lg_sl ([.ref a0, .int a1]) ++ List.replicate (5 - (lg_sl ([.ref a0, .int a1])).length) Slot.unset).toArray = ls at hl ⊢
  have hl : lv_has ls 5 [(0, .ref a0), (1, .int a1)] := hl
  unfold pX7_bits at h
  refine lv_bipush (v := (32 : Int32)) hx hb dX7_bits_0 (by decide) ?_
  refine lv_aload_n hx hb dX7_bits_2 rfl (lv_at hl 0 rfl) ?_
  refine zr_ga (C := RX7) (T := TX7) (N := 14) (ci := 10) (k := 10) S hK hw zi_X7 rfl (by decide) zu_444 dX7_bits_3 h (fun n_1 h => ?_)
  refine lv_iload_n hx hb dX7_bits_6 rfl (lv_at hl 1 rfl) ?_
  refine zr_iald S hK hw dX7_bits_7 h (fun e2 h => ?_)
  refine lv_imul hx hb dX7_bits_8 ?_
  refine lv_topi (fun x3 ex3 => ?_)
  have h := h x3 ex3
  refine lv_istore_n (lv' := [(2, .int x3), (0, .ref a0), (1, .int a1)]) hx hb dX7_bits_9 rfl hl (by decide) rfl (fun ls hl => ?_)
  refine lv_ldc2 (v := (2147483648 : Int64)) hx hb hown (hts _ zu_452) dX7_bits_10 ?_
  refine lv_topl (fun x4 ex4 => ?_)
  have h := h x4 ex4
  refine lv_lstore_n (lv' := [(3, .long x4), (2, .int x3), (0, .ref a0), (1, .int a1)]) hx hb dX7_bits_13 rfl hl (by decide) rfl (fun ls hl => ?_)
  obtain ⟨n14, h⟩ := h
  refine sX7_bits_14 S hr hlocks hK  n14 a0 a1 x3 x4 _ h _ _ _ hw (lv_sub hl [2, 3, 1, 0] rfl)
set_option maxHeartbeats 4000000 in
set_option maxRecDepth 100000 in
theorem sX7_add_99 {p : Program} {l : Launch} {e : Env} {s : State} {m : MethodId} {args : Array Value} {below : List Frame} {meth : Method} {c : Code} {lo : Nat} {g : zg} {post : zm_M → Prop} {k37 : Nat → Int32 → Int32 → Int32 → Int64 → Int32 → zm_M → Prop} (S : CallFix p m c cX7_add 7 s args zU RX7) (hr : meth.sig.returnType = none) (hlocks : meth.locks = false) (hK : zk_K zNF zNM g s) (hk37 : ∀ (v0 : Nat) (v1 : Int32) (v2 : Int32) (v3 : Int32) (v4 : Int64) (v6 : Int32) (M : zm_M), k37 v0 v1 v2 v3 v4 v6 M → ∀ (H : Heap) (locs : List Loc) (ls : Array Slot), zW lo g s H locs M → lv_has ls 7 [(0, .ref v0), (1, .int v1), (2, .int v2), (3, .int v3), (4, .long v4), (6, .int v6)] → W p l e ({ frames := 2, cells := 0, slots := 0, locals := 61 } : Room) s m args below meth c H locs 0 0 (MQ below (va_Qv post (zc_B lo g) (zA lo)) args s 0 0 (zA lo)) (F0 m 37 ls [])) : ∀ (v0 : Nat) (v1 : Int32) (v2 : Int32) (v3 : Int32) (v6 : Int32) (s0 : Int64) (s1 : Int64) (s2 : Int64) (M : zm_M), pX7_add_99 g.2 post k37 v0 v1 v2 v3 v6 s0 s1 s2 M → ∀ (H : Heap) (locs : List Loc) (ls : Array Slot), zW lo g s H locs M → lv_has ls 7 [(0, .ref v0), (1, .int v1), (2, .int v2), (3, .int v3), (6, .int v6)] → W p l e ({ frames := 2, cells := 0, slots := 0, locals := 61 } : Room) s m args below meth c H locs 0 0 (MQ below (va_Qv post (zc_B lo g) (zA lo)) args s 0 0 (zA lo)) (F0 m 99 ls [.long s2, .long s1, .long s0]) := by
  obtain ⟨hx, hb, hml, hown, hts⟩ := id S
  intro v0 v1 v2 v3 v6 s0 s1 s2 M h H locs ls hw hl
  unfold pX7_add_99 at h
  refine lv_ladd hx hb dX7_add_99 ?_
  refine lv_ladd hx hb dX7_add_100 ?_
  refine lv_topl (fun x13 ex13 => ?_)
  have h := h x13 ex13
  refine lv_lstore (lv' := [(4, .long x13), (0, .ref v0), (1, .int v1), (2, .int v2), (3, .int v3), (6, .int v6)]) hx hb dX7_add_101 hl (by decide) rfl (fun ls hl => ?_)
  refine lv_aload_n hx hb dX7_add_103 rfl (lv_at hl 1 rfl) ?_
  refine zr_ga (C := RX7) (T := TX7) (N := 14) (ci := 10) (k := 9) S hK hw zi_X7 rfl (by decide) zu_445 dX7_add_104 h (fun g_14 h => ?_)
  refine lv_bipush (v := (72 : Int32)) hx hb dX7_add_107 (by decide) ?_
  refine lv_iload_n hx hb dX7_add_109 rfl (lv_at hl 2 rfl) ?_
  refine lv_imul hx hb dX7_add_110 ?_
  refine lv_iload hx hb dX7_add_111 (lv_at hl 5 rfl) ?_
  refine lv_iadd hx hb dX7_add_113 ?_
  refine lv_lload hx hb dX7_add_114 (lv_at hl 0 rfl) ?_
  refine lv_ldc2 (v := (4294967295 : Int64)) hx hb hown (hts _ zu_446) dX7_add_116 ?_
  refine lv_land hx hb dX7_add_119 ?_
  refine zr_last S hK hw dX7_add_120 h (fun M15 H locs hw h => ?_)
  refine lv_lload hx hb dX7_add_121 (lv_at hl 0 rfl) ?_
  refine lv_bipush (v := (32 : Int32)) hx hb dX7_add_123 (by decide) ?_
  refine lv_lshr hx hb dX7_add_125 rfl ?_
  refine lv_topl (fun x16 ex16 => ?_)
  have h := h x16 ex16
  refine lv_lstore (lv' := [(4, .long x16), (0, .ref v0), (1, .int v1), (2, .int v2), (3, .int v3), (6, .int v6)]) hx hb dX7_add_126 hl (by decide) rfl (fun ls hl => ?_)
  obtain ⟨x17, ex17⟩ : ∃ z : Int32, z = v6 + (1 : Int32) := ⟨_, rfl⟩
  have h := h x17 ex17
  refine lv_iinc (v := x17) (lv' := [(6, .int x17), (4, .long x16), (0, .ref v0), (1, .int v1), (2, .int v2), (3, .int v3)]) hx hb dX7_add_128 hl (k := 5) rfl (by rw [ex17]; rfl) (by decide) rfl (fun ls hl => ?_)
  refine lv_goto (tgt := 37) hx hb dX7_add_131 (by decide) ?_
  exact hk37 v0 v1 v2 v3 x16 x17 _ h _ _ _ hw (lv_sub hl [2, 3, 4, 5, 1, 0] rfl)
set_option maxHeartbeats 4000000 in
set_option maxRecDepth 100000 in
theorem sX7_add_72 {p : Program} {l : Launch} {e : Env} {s : State} {m : MethodId} {args : Array Value} {below : List Frame} {meth : Method} {c : Code} {lo : Nat} {g : zg} {post : zm_M → Prop} {k37 : Nat → Int32 → Int32 → Int32 → Int64 → Int32 → zm_M → Prop} (S : CallFix p m c cX7_add 7 s args zU RX7) (hr : meth.sig.returnType = none) (hlocks : meth.locks = false) (hK : zk_K zNF zNM g s) (hk37 : ∀ (v0 : Nat) (v1 : Int32) (v2 : Int32) (v3 : Int32) (v4 : Int64) (v6 : Int32) (M : zm_M), k37 v0 v1 v2 v3 v4 v6 M → ∀ (H : Heap) (locs : List Loc) (ls : Array Slot), zW lo g s H locs M → lv_has ls 7 [(0, .ref v0), (1, .int v1), (2, .int v2), (3, .int v3), (4, .long v4), (6, .int v6)] → W p l e ({ frames := 2, cells := 0, slots := 0, locals := 61 } : Room) s m args below meth c H locs 0 0 (MQ below (va_Qv post (zc_B lo g) (zA lo)) args s 0 0 (zA lo)) (F0 m 37 ls [])) : ∀ (v0 : Nat) (v1 : Int32) (v2 : Int32) (v3 : Int32) (v6 : Int32) (s0 : Int64) (s1 : Int64) (M : zm_M), pX7_add_72 g.2 post k37 v0 v1 v2 v3 v6 s0 s1 M → ∀ (H : Heap) (locs : List Loc) (ls : Array Slot), zW lo g s H locs M → lv_has ls 7 [(0, .ref v0), (1, .int v1), (2, .int v2), (3, .int v3), (6, .int v6)] → W p l e ({ frames := 2, cells := 0, slots := 0, locals := 61 } : Room) s m args below meth c H locs 0 0 (MQ below (va_Qv post (zc_B lo g) (zA lo)) args s 0 0 (zA lo)) (F0 m 72 ls [.long s1, .long s0]) := by
  obtain ⟨hx, hb, hml, hown, hts⟩ := id S
  intro v0 v1 v2 v3 v6 s0 s1 M h H locs ls hw hl
  unfold pX7_add_72 at h
  refine lv_iload hx hb dX7_add_72 (lv_at hl 4 rfl) ?_
  refine lv_aload_n hx hb dX7_add_74 rfl (lv_at hl 0 rfl) ?_
  refine zr_ga (C := RX7) (T := TX7) (N := 14) (ci := 10) (k := 10) S hK hw zi_X7 rfl (by decide) zu_444 dX7_add_75 h (fun n_11 h => ?_)
  refine lv_iload_n hx hb dX7_add_78 rfl (lv_at hl 2 rfl) ?_
  refine zr_iald S hK hw dX7_add_79 h (fun e12 h => ?_)
  refine lv_icmp_ge (tgt := 98) hx hb dX7_add_80 (by decide) (fun hc => ?_) (fun hc => ?_)
  · have h := h.1 hc
    refine lv_lconst (v := (0 : Int64)) hx hb dX7_add_98 (by decide) ?_
    exact sX7_add_99 S hr hlocks hK hk37 v0 v1 v2 v3 v6 s0 s1 (0 : Int64) _ h _ _ _ hw (lv_sub hl [0, 1, 2, 3, 4] rfl)
  · have h := h.2 hc
    refine lv_aload_n hx hb dX7_add_83 rfl (lv_at hl 0 rfl) ?_
    refine zr_ga (C := RX7) (T := TX7) (N := 14) (ci := 10) (k := 9) S hK hw zi_X7 rfl (by decide) zu_445 dX7_add_84 h (fun g_18 h => ?_)
    refine lv_bipush (v := (72 : Int32)) hx hb dX7_add_87 (by decide) ?_
    refine lv_iload_n hx hb dX7_add_89 rfl (lv_at hl 2 rfl) ?_
    refine lv_imul hx hb dX7_add_90 ?_
    refine lv_iload hx hb dX7_add_91 (lv_at hl 4 rfl) ?_
    refine lv_iadd hx hb dX7_add_93 ?_
    refine zr_lald S hK hw dX7_add_94 h (fun e19 h => ?_)
    refine lv_goto (tgt := 99) hx hb dX7_add_95 (by decide) ?_
    exact sX7_add_99 S hr hlocks hK hk37 v0 v1 v2 v3 v6 s0 s1 e19 _ h _ _ _ hw (lv_sub hl [0, 1, 2, 3, 4] rfl)
set_option maxHeartbeats 4000000 in
set_option maxRecDepth 100000 in
theorem sX7_add_37 {p : Program} {l : Launch} {e : Env} {s : State} {m : MethodId} {args : Array Value} {below : List Frame} {meth : Method} {c : Code} {lo : Nat} {g : zg} {post : zm_M → Prop} {k134 : Nat → Int32 → Int32 → Int64 → zm_M → Prop} (S : CallFix p m c cX7_add 7 s args zU RX7) (hr : meth.sig.returnType = none) (hlocks : meth.locks = false) (hK : zk_K zNF zNM g s) (hk134 : ∀ (v0 : Nat) (v1 : Int32) (v3 : Int32) (v4 : Int64) (M : zm_M), k134 v0 v1 v3 v4 M → ∀ (H : Heap) (locs : List Loc) (ls : Array Slot), zW lo g s H locs M → lv_has ls 7 [(0, .ref v0), (1, .int v1), (3, .int v3), (4, .long v4)] → W p l e ({ frames := 2, cells := 0, slots := 0, locals := 61 } : Room) s m args below meth c H locs 0 0 (MQ below (va_Qv post (zc_B lo g) (zA lo)) args s 0 0 (zA lo)) (F0 m 134 ls [])) : ∀ (n : Nat) (v0 : Nat) (v1 : Int32) (v2 : Int32) (v3 : Int32) (v4 : Int64) (v6 : Int32) (M : zm_M), pX7_add_37 g.2 post k134 n v0 v1 v2 v3 v4 v6 M → ∀ (H : Heap) (locs : List Loc) (ls : Array Slot), zW lo g s H locs M → lv_has ls 7 [(0, .ref v0), (1, .int v1), (2, .int v2), (3, .int v3), (4, .long v4), (6, .int v6)] → W p l e ({ frames := 2, cells := 0, slots := 0, locals := 61 } : Room) s m args below meth c H locs 0 0 (MQ below (va_Qv post (zc_B lo g) (zA lo)) args s 0 0 (zA lo)) (F0 m 37 ls []) := by
  obtain ⟨hx, hb, hml, hown, hts⟩ := id S
  intro n
  induction n with
  | zero =>
    intro v0 v1 v2 v3 v4 v6 M h
    exact False.elim h
  | succ n37 ih =>
    intro v0 v1 v2 v3 v4 v6 M h H locs ls hw hl
    rw [pX7_add_37] at h
    refine lv_iload hx hb dX7_add_37 (lv_at hl 5 rfl) ?_
    refine lv_iload_n hx hb dX7_add_39 rfl (lv_at hl 3 rfl) ?_
    refine lv_icmp_ge (tgt := 134) hx hb dX7_add_40 (by decide) (fun hc => ?_) (fun hc => ?_)
    · have h := h.1 hc
      exact hk134 v0 v1 v3 v4 _ h _ _ _ hw (lv_sub hl [0, 1, 3, 4] rfl)
    · have h := h.2 hc
      refine lv_lload hx hb dX7_add_43 (lv_at hl 4 rfl) ?_
      refine lv_iload hx hb dX7_add_45 (lv_at hl 5 rfl) ?_
      refine lv_aload_n hx hb dX7_add_47 rfl (lv_at hl 0 rfl) ?_
      refine zr_ga (C := RX7) (T := TX7) (N := 14) (ci := 10) (k := 10) S hK hw zi_X7 rfl (by decide) zu_444 dX7_add_48 h (fun n_9 h => ?_)
      refine lv_iload_n hx hb dX7_add_51 rfl (lv_at hl 1 rfl) ?_
      refine zr_iald S hK hw dX7_add_52 h (fun e10 h => ?_)
      refine lv_icmp_ge (tgt := 71) hx hb dX7_add_53 (by decide) (fun hc => ?_) (fun hc => ?_)
      · have h := h.1 hc
        refine lv_lconst (v := (0 : Int64)) hx hb dX7_add_71 (by decide) ?_
        exact sX7_add_72 S hr hlocks hK ih v0 v1 v2 v3 v6 v4 (0 : Int64) _ h _ _ _ hw (lv_sub hl [0, 1, 2, 3, 5] rfl)
      · have h := h.2 hc
        refine lv_aload_n hx hb dX7_add_56 rfl (lv_at hl 0 rfl) ?_
        refine zr_ga (C := RX7) (T := TX7) (N := 14) (ci := 10) (k := 9) S hK hw zi_X7 rfl (by decide) zu_445 dX7_add_57 h (fun g_20 h => ?_)
        refine lv_bipush (v := (72 : Int32)) hx hb dX7_add_60 (by decide) ?_
        refine lv_iload_n hx hb dX7_add_62 rfl (lv_at hl 1 rfl) ?_
        refine lv_imul hx hb dX7_add_63 ?_
        refine lv_iload hx hb dX7_add_64 (lv_at hl 5 rfl) ?_
        refine lv_iadd hx hb dX7_add_66 ?_
        refine zr_lald S hK hw dX7_add_67 h (fun e21 h => ?_)
        refine lv_goto (tgt := 72) hx hb dX7_add_68 (by decide) ?_
        exact sX7_add_72 S hr hlocks hK ih v0 v1 v2 v3 v6 v4 e21 _ h _ _ _ hw (lv_sub hl [0, 1, 2, 3, 5] rfl)
set_option maxHeartbeats 4000000 in
set_option maxRecDepth 100000 in
theorem kX7_add (l : Launch) (lo : Nat) (g : zg) (M : zm_M) (a0 : Nat) (a1 : Int32) (a2 : Int32) (post : zm_M → Prop) (h : pX7_add g.2 a0 a1 a2 post M) : Met l yX7_add (Cond.code yX7_add cX7_add 7 none :: zU) (({ frames := 2, cells := 0, slots := 0, locals := 61 } : Room)) (zc_P zNF zNM lo g M [.ref a0, .int a1, .int a2]) (va_Qv post (zc_B lo g) (zA lo)) 0 0 (zA lo) := by
  refine Met.ofW (cc := cX7_add) (maxL := 7) (ret := none) (by decide) rfl ?_
  intro p e s m args below meth c s₁ B hml hv
  obtain ⟨rfl, hR, hK⟩ := hv
  have hts := atoms_spec (ws := Cond.code yX7_add cX7_add 7 none :: zU) B.pre
  have hts : ∀ w ∈ zU, w.before _ s = true := fun w hw => hts w (List.mem_cons_of_mem _ hw)
  have hown : s.vm.findClass RX7 = some m.cls := findClass_of_methodNamed B.named
  have hx := B.exec
  have hb := B.bytes
  have hr := B.returns
  have hlocks := B.notSynchronized
  have S : CallFix p m c cX7_add 7 s ([.ref a0, .int a1, .int a2] : List Value).toArray zU RX7 := ⟨hx, hb, hml, hown, hts⟩
  have hw : zW lo g s s.heap [] M := ⟨hR, va_S.rf⟩
  have hl := lv_entry ([.ref a0, .int a1, .int a2]) (n := 7) (Nat.le_of_ble_eq_true rfl)
  rw [lg_entry_eq]
  generalize (lg_sl ([.ref a0, .int a1, .int a2]) ++ List.replicate (7 - (lg_sl ([.ref a0, .int a1, .int a2])).length) Slot.unset).toArray = ls at hl ⊢
  have hl : lv_has ls 7 [(0, .ref a0), (1, .int a1), (2, .int a2)] := hl
  unfold pX7_add at h
  refine lv_aload_n hx hb dX7_add_0 rfl (lv_at hl 0 rfl) ?_
  refine zr_ga (C := RX7) (T := TX7) (N := 14) (ci := 10) (k := 10) S hK hw zi_X7 rfl (by decide) zu_444 dX7_add_1 h (fun n_1 h => ?_)
  refine lv_iload_n hx hb dX7_add_4 rfl (lv_at hl 1 rfl) ?_
  refine zr_iald S hK hw dX7_add_5 h (fun e2 h => ?_)
  refine lv_aload_n hx hb dX7_add_6 rfl (lv_at hl 0 rfl) ?_
  refine zr_ga (C := RX7) (T := TX7) (N := 14) (ci := 10) (k := 10) S hK hw zi_X7 rfl (by decide) zu_444 dX7_add_7 h (fun n_3 h => ?_)
  refine lv_iload_n hx hb dX7_add_10 rfl (lv_at hl 2 rfl) ?_
  refine zr_iald S hK hw dX7_add_11 h (fun e4 h => ?_)
  refine lv_icmp_le (tgt := 24) hx hb dX7_add_12 (by decide) (fun hc => ?_) (fun hc => ?_)
  · have h := h.1 hc
    refine lv_aload_n hx hb dX7_add_24 rfl (lv_at hl 0 rfl) ?_
    refine zr_ga (C := RX7) (T := TX7) (N := 14) (ci := 10) (k := 10) S hK hw zi_X7 rfl (by decide) zu_444 dX7_add_25 h (fun n_5 h => ?_)
    refine lv_iload_n hx hb dX7_add_28 rfl (lv_at hl 2 rfl) ?_
    refine zr_iald S hK hw dX7_add_29 h (fun e6 h => ?_)
    refine lv_istore_n (lv' := [(3, .int e6), (0, .ref a0), (1, .int a1), (2, .int a2)]) hx hb dX7_add_30 rfl hl (by decide) rfl (fun ls hl => ?_)
    refine lv_lconst (v := (0 : Int64)) hx hb dX7_add_31 (by decide) ?_
    refine lv_topl (fun x7 ex7 => ?_)
    have h := h x7 ex7
    refine lv_lstore (lv' := [(4, .long x7), (3, .int e6), (0, .ref a0), (1, .int a1), (2, .int a2)]) hx hb dX7_add_32 hl (by decide) rfl (fun ls hl => ?_)
    refine lv_iconst (v := (0 : Int32)) hx hb dX7_add_34 (by decide) ?_
    refine lv_topi (fun x8 ex8 => ?_)
    have h := h x8 ex8
    refine lv_istore (lv' := [(6, .int x8), (4, .long x7), (3, .int e6), (0, .ref a0), (1, .int a1), (2, .int a2)]) hx hb dX7_add_35 hl (by decide) rfl (fun ls hl => ?_)
    obtain ⟨n37, h⟩ := h
    refine sX7_add_37 S hr hlocks hK (fun w22 w23 w24 w25 M26 h H locs ls hw hl => ?_) n37 a0 a1 a2 e6 x7 x8 _ h _ _ _ hw (lv_sub hl [3, 4, 5, 2, 1, 0] rfl)
    refine lv_aload_n hx hb dX7_add_134 rfl (lv_at hl 0 rfl) ?_
    refine zr_ga (C := RX7) (T := TX7) (N := 14) (ci := 10) (k := 9) S hK hw zi_X7 rfl (by decide) zu_445 dX7_add_135 h (fun g_27 h => ?_)
    refine lv_bipush (v := (72 : Int32)) hx hb dX7_add_138 (by decide) ?_
    refine lv_iload_n hx hb dX7_add_140 rfl (lv_at hl 1 rfl) ?_
    refine lv_imul hx hb dX7_add_141 ?_
    refine lv_iload_n hx hb dX7_add_142 rfl (lv_at hl 2 rfl) ?_
    refine lv_iadd hx hb dX7_add_143 ?_
    refine lv_lload hx hb dX7_add_144 (lv_at hl 3 rfl) ?_
    refine zr_last S hK hw dX7_add_146 h (fun M28 H locs hw h => ?_)
    refine lv_aload_n hx hb dX7_add_147 rfl (lv_at hl 0 rfl) ?_
    refine zr_ga (C := RX7) (T := TX7) (N := 14) (ci := 10) (k := 10) S hK hw zi_X7 rfl (by decide) zu_444 dX7_add_148 h (fun n_29 h => ?_)
    refine lv_iload_n hx hb dX7_add_151 rfl (lv_at hl 1 rfl) ?_
    refine lv_iload_n hx hb dX7_add_152 rfl (lv_at hl 2 rfl) ?_
    refine lv_iconst (v := (1 : Int32)) hx hb dX7_add_153 (by decide) ?_
    refine lv_iadd hx hb dX7_add_154 ?_
    refine zr_iast S hK hw dX7_add_155 h (fun M30 H locs hw h => ?_)
    refine lv_aload_n hx hb dX7_add_156 rfl (lv_at hl 0 rfl) ?_
    refine lv_iload_n hx hb dX7_add_157 rfl (lv_at hl 1 rfl) ?_
    obtain ⟨ho, h⟩ := h
    refine zr_Vv (As := [.int w23]) (rest := []) S hK hw (kX7_trim l lo g M30 w22 w23 _ h) (cwV 1 hts (zg_V zu_447 zu_448 zu_449 zu_450 zu_451) rfl rfl rfl (by decide +kernel) ⟨Nat.le_of_ble_eq_true rfl, Nat.le_of_ble_eq_true rfl⟩) (ci := 10) rfl ho rfl hl.1 rfl (Nat.le_of_ble_eq_true rfl) dX7_add_158 ⟨Nat.le_of_ble_eq_true rfl, Nat.le_of_ble_eq_true rfl⟩ (fun M31 H locs hw h => ?_)
    exact zr_rv S hr hlocks hw h dX7_add_161
  · have h := h.2 hc
    refine lv_aload_n hx hb dX7_add_15 rfl (lv_at hl 0 rfl) ?_
    refine zr_ga (C := RX7) (T := TX7) (N := 14) (ci := 10) (k := 10) S hK hw zi_X7 rfl (by decide) zu_444 dX7_add_16 h (fun n_32 h => ?_)
    refine lv_iload_n hx hb dX7_add_19 rfl (lv_at hl 1 rfl) ?_
    refine zr_iald S hK hw dX7_add_20 h (fun e33 h => ?_)
    refine lv_goto (tgt := 30) hx hb dX7_add_21 (by decide) ?_
    refine lv_istore_n (lv' := [(3, .int e33), (0, .ref a0), (1, .int a1), (2, .int a2)]) hx hb dX7_add_30 rfl hl (by decide) rfl (fun ls hl => ?_)
    refine lv_lconst (v := (0 : Int64)) hx hb dX7_add_31 (by decide) ?_
    refine lv_topl (fun x34 ex34 => ?_)
    have h := h x34 ex34
    refine lv_lstore (lv' := [(4, .long x34), (3, .int e33), (0, .ref a0), (1, .int a1), (2, .int a2)]) hx hb dX7_add_32 hl (by decide) rfl (fun ls hl => ?_)
    refine lv_iconst (v := (0 : Int32)) hx hb dX7_add_34 (by decide) ?_
    refine lv_topi (fun x35 ex35 => ?_)
    have h := h x35 ex35
    refine lv_istore (lv' := [(6, .int x35), (4, .long x34), (3, .int e33), (0, .ref a0), (1, .int a1), (2, .int a2)]) hx hb dX7_add_35 hl (by decide) rfl (fun ls hl => ?_)
    obtain ⟨n37, h⟩ := h
    refine sX7_add_37 S hr hlocks hK (fun w36 w37 w38 w39 M40 h H locs ls hw hl => ?_) n37 a0 a1 a2 e33 x34 x35 _ h _ _ _ hw (lv_sub hl [3, 4, 5, 2, 1, 0] rfl)
    refine lv_aload_n hx hb dX7_add_134 rfl (lv_at hl 0 rfl) ?_
    refine zr_ga (C := RX7) (T := TX7) (N := 14) (ci := 10) (k := 9) S hK hw zi_X7 rfl (by decide) zu_445 dX7_add_135 h (fun g_41 h => ?_)
    refine lv_bipush (v := (72 : Int32)) hx hb dX7_add_138 (by decide) ?_
    refine lv_iload_n hx hb dX7_add_140 rfl (lv_at hl 1 rfl) ?_
    refine lv_imul hx hb dX7_add_141 ?_
    refine lv_iload_n hx hb dX7_add_142 rfl (lv_at hl 2 rfl) ?_
    refine lv_iadd hx hb dX7_add_143 ?_
    refine lv_lload hx hb dX7_add_144 (lv_at hl 3 rfl) ?_
    refine zr_last S hK hw dX7_add_146 h (fun M42 H locs hw h => ?_)
    refine lv_aload_n hx hb dX7_add_147 rfl (lv_at hl 0 rfl) ?_
    refine zr_ga (C := RX7) (T := TX7) (N := 14) (ci := 10) (k := 10) S hK hw zi_X7 rfl (by decide) zu_444 dX7_add_148 h (fun n_43 h => ?_)
    refine lv_iload_n hx hb dX7_add_151 rfl (lv_at hl 1 rfl) ?_
    refine lv_iload_n hx hb dX7_add_152 rfl (lv_at hl 2 rfl) ?_
    refine lv_iconst (v := (1 : Int32)) hx hb dX7_add_153 (by decide) ?_
    refine lv_iadd hx hb dX7_add_154 ?_
    refine zr_iast S hK hw dX7_add_155 h (fun M44 H locs hw h => ?_)
    refine lv_aload_n hx hb dX7_add_156 rfl (lv_at hl 0 rfl) ?_
    refine lv_iload_n hx hb dX7_add_157 rfl (lv_at hl 1 rfl) ?_
    obtain ⟨ho, h⟩ := h
    refine zr_Vv (As := [.int w37]) (rest := []) S hK hw (kX7_trim l lo g M44 w36 w37 _ h) (cwV 1 hts (zg_V zu_447 zu_448 zu_449 zu_450 zu_451) rfl rfl rfl (by decide +kernel) ⟨Nat.le_of_ble_eq_true rfl, Nat.le_of_ble_eq_true rfl⟩) (ci := 10) rfl ho rfl hl.1 rfl (Nat.le_of_ble_eq_true rfl) dX7_add_158 ⟨Nat.le_of_ble_eq_true rfl, Nat.le_of_ble_eq_true rfl⟩ (fun M45 H locs hw h => ?_)
    exact zr_rv S hr hlocks hw h dX7_add_161
