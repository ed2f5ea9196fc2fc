set_option maxHeartbeats 4000000 in
set_option maxRecDepth 100000 in
theorem sX3_addSize_31 {p : Program} {l : Launch} {e : Env} {s : State} {m : MethodId} {args : Array Value} {below : List Frame} {meth : Method} {c : Code} {lo : Nat} {g : zg} {post : zm_M → Prop} {k70 : Nat → Int32 → zm_M → Prop} (S : CallFix p m c cX3_addSize 4 s args zU RX3) (hr : meth.sig.returnType = none) (hlocks : meth.locks = false) (hK : zk_K zNF zNM g s) (hk70 : ∀ (v0 : Nat) (v2 : Int32) (M : zm_M), k70 v0 v2 M → ∀ (H : Heap) (locs : List Loc) (ls : Array Slot), zW lo g s H locs M → lv_has ls 4 [(0, .ref v0), (2, .int v2)] → W p l e ({ frames := 3, cells := 0, slots := 0, locals := 89 } : Room) s m args below meth c H locs 0 0 (MQ below (va_Qv post (zc_B lo g) (zA lo)) args s 0 0 (zA lo)) (F0 m 70 ls [])) : ∀ (n : Nat) (v0 : Nat) (v2 : Int32) (v3 : Int32) (M : zm_M), pX3_addSize_31 g.2 post k70 n v0 v2 v3 M → ∀ (H : Heap) (locs : List Loc) (ls : Array Slot), zW lo g s H locs M → lv_has ls 4 [(0, .ref v0), (2, .int v2), (3, .int v3)] → W p l e ({ frames := 3, cells := 0, slots := 0, locals := 89 } : Room) s m args below meth c H locs 0 0 (MQ below (va_Qv post (zc_B lo g) (zA lo)) args s 0 0 (zA lo)) (F0 m 31 ls []) := by
  obtain ⟨hx, hb, hml, hown, hts⟩ := id S
  intro n
  induction n with
  | zero =>
    intro v0 v2 v3 M h
    exact False.elim h
  | succ n31 ih =>
    intro v0 v2 v3 M h H locs ls hw hl
    rw [pX3_addSize_31] at h
    refine lv_iload_n hx hb dX3_addSize_31 rfl (lv_at hl 2 rfl) ?_
    refine lv_sipush (v := (200 : Int32)) hx hb dX3_addSize_32 (by decide) ?_
    refine lv_icmp_ge (tgt := 70) hx hb dX3_addSize_35 (by decide) (fun hc => ?_) (fun hc => ?_)
    · have h := h.1 hc
      exact hk70 v0 v2 _ h _ _ _ hw (lv_sub hl [0, 1] rfl)
    · have h := h.2 hc
      refine lv_aload_n hx hb dX3_addSize_38 rfl (lv_at hl 0 rfl) ?_
      refine zr_ga (C := RX3) (T := TX3) (N := 5) (ci := 6) (k := 2) S hK hw zi_X3 rfl (by decide) zu_242 dX3_addSize_39 h (fun left_9 h => ?_)
      obtain ⟨ho, h⟩ := h
      refine zr_Vi (As := []) (rest := []) S hK hw (kX5_isZero l lo g M left_9  _ h) (cwV 0 hts (zg_V zu_245 zu_73 zu_74 zu_12 zu_75) rfl rfl rfl (by decide +kernel) ⟨Nat.le_of_ble_eq_true rfl, Nat.le_of_ble_eq_true rfl⟩) (ci := 8) rfl ho rfl hl.1 rfl (Nat.le_of_ble_eq_true rfl) dX3_addSize_42 ⟨Nat.le_of_ble_eq_true rfl, Nat.le_of_ble_eq_true rfl⟩ (fun r11 M10 H locs hw h => ?_)
      refine lv_if_ne (tgt := 70) hx hb dX3_addSize_45 (by decide) (fun hc => ?_) (fun hc => ?_)
      · have h := h.1 hc
        exact hk70 v0 v2 _ h _ _ _ hw (lv_sub hl [0, 1] rfl)
      · have h := h.2 hc
        refine lv_aload_n hx hb dX3_addSize_48 rfl (lv_at hl 0 rfl) ?_
        refine lv_bipush (v := (48 : Int32)) hx hb dX3_addSize_49 (by decide) ?_
        refine lv_aload_n hx hb dX3_addSize_51 rfl (lv_at hl 0 rfl) ?_
        refine zr_ga (C := RX3) (T := TX3) (N := 5) (ci := 6) (k := 2) S hK hw zi_X3 rfl (by decide) zu_242 dX3_addSize_52 h (fun left_12 h => ?_)
        refine lv_bipush (v := (10 : Int32)) hx hb dX3_addSize_55 (by decide) ?_
        obtain ⟨ho, h⟩ := h
        refine zr_Vi (As := [.int (10 : Int32)]) (rest := [.int (48 : Int32), .ref v0]) S hK hw (kX5_divideBy l lo g M10 left_12 (10 : Int32) _ h) (cwV 1 hts (zg_V zu_244 zu_174 zu_175 zu_12 zu_176) rfl rfl rfl (by decide +kernel) ⟨Nat.le_of_ble_eq_true rfl, Nat.le_of_ble_eq_true rfl⟩) (ci := 8) rfl ho rfl hl.1 rfl (Nat.le_of_ble_eq_true rfl) dX3_addSize_57 ⟨Nat.le_of_ble_eq_true rfl, Nat.le_of_ble_eq_true rfl⟩ (fun r14 M13 H locs hw h => ?_)
        refine lv_iadd hx hb dX3_addSize_60 ?_
        obtain ⟨ho, h⟩ := h
        refine zr_Vv (As := [.int ((48 : Int32) + r14)]) (rest := []) S hK hw (kX3_add l lo g M13 v0 ((48 : Int32) + r14) _ h) (cwV 1 hts (zg_V zu_237 zu_238 zu_239 zu_240 zu_241) rfl rfl rfl (by decide +kernel) ⟨Nat.le_of_ble_eq_true rfl, Nat.le_of_ble_eq_true rfl⟩) (ci := 6) rfl ho rfl hl.1 rfl (Nat.le_of_ble_eq_true rfl) dX3_addSize_61 ⟨Nat.le_of_ble_eq_true rfl, Nat.le_of_ble_eq_true rfl⟩ (fun M15 H locs hw h => ?_)
        obtain ⟨x16, ex16⟩ : ∃ z : Int32, z = v3 + (1 : Int32) := ⟨_, rfl⟩
        have h := h x16 ex16
        refine lv_iinc (v := x16) (lv' := [(3, .int x16), (0, .ref v0), (2, .int v2)]) hx hb dX3_addSize_64 hl (k := 2) rfl (by rw [ex16]; rfl) (by decide) rfl (fun ls hl => ?_)
        refine lv_goto (tgt := 31) hx hb dX3_addSize_67 (by decide) ?_
        exact ih v0 v2 x16 _ h _ _ _ hw (lv_sub hl [1, 2, 0] rfl)
set_option maxHeartbeats 4000000 in
set_option maxRecDepth 100000 in
theorem sX3_addSize_70 {p : Program} {l : Launch} {e : Env} {s : State} {m : MethodId} {args : Array Value} {below : List Frame} {meth : Method} {c : Code} {lo : Nat} {g : zg} {post : zm_M → Prop}  (S : CallFix p m c cX3_addSize 4 s args zU RX3) (hr : meth.sig.returnType = none) (hlocks : meth.locks = false) (hK : zk_K zNF zNM g s)  : ∀ (v0 : Nat) (v2 : Int32) (M : zm_M), pX3_addSize_70 g.2 post  v0 v2 M → ∀ (H : Heap) (locs : List Loc) (ls : Array Slot), zW lo g s H locs M → lv_has ls 4 [(0, .ref v0), (2, .int v2)] → W p l e ({ frames := 3, cells := 0, slots := 0, locals := 89 } : Room) s m args below meth c H locs 0 0 (MQ below (va_Qv post (zc_B lo g) (zA lo)) args s 0 0 (zA lo)) (F0 m 70 ls []) := by
  obtain ⟨hx, hb, hml, hown, hts⟩ := id S
  intro v0 v2 M h H locs ls hw hl
  unfold pX3_addSize_70 at h
  refine lv_aload_n hx hb dX3_addSize_70 rfl (lv_at hl 0 rfl) ?_
  refine lv_iload_n hx hb dX3_addSize_71 rfl (lv_at hl 1 rfl) ?_
  obtain ⟨ho, h⟩ := h
  refine zr_Vv (As := [.int v2]) (rest := []) S hK hw (kX3_turnRound l lo g M v0 v2 _ h) (cwV 1 hts (zg_V zu_246 zu_247 zu_248 zu_240 zu_249) rfl rfl rfl (by decide +kernel) ⟨Nat.le_of_ble_eq_true rfl, Nat.le_of_ble_eq_true rfl⟩) (ci := 6) rfl ho rfl hl.1 rfl (Nat.le_of_ble_eq_true rfl) dX3_addSize_72 ⟨Nat.le_of_ble_eq_true rfl, Nat.le_of_ble_eq_true rfl⟩ (fun M20 H locs hw h => ?_)
  exact zr_rv S hr hlocks hw h dX3_addSize_75
set_option maxHeartbeats 4000000 in
set_option maxRecDepth 100000 in
theorem kX3_addSize (l : Launch) (lo : Nat) (g : zg) (M : zm_M) (a0 : Nat) (a1 : Nat) (post : zm_M → Prop) (h : pX3_addSize g.2 a0 a1 post M) : Met l yX3_addSize (Cond.code yX3_addSize cX3_addSize 4 none :: zU) (({ frames := 3, cells := 0, slots := 0, locals := 89 } : Room)) (zc_P zNF zNM lo g M [.ref a0, .ref a1]) (va_Qv post (zc_B lo g) (zA lo)) 0 0 (zA lo) := by
  refine Met.ofW (cc := cX3_addSize) (maxL := 4) (ret := none) (by decide) rfl ?_
  intro p e s m args below meth c s₁ B hml hv
  obtain ⟨rfl, hR, hK⟩ := hv
  have hts := atoms_spec (ws := Cond.code yX3_addSize cX3_addSize 4 none :: zU) B.pre
  have hts : ∀ w ∈ zU, w.before _ s = true := fun w hw => hts w (List.mem_cons_of_mem _ hw)
  have hown : s.vm.findClass RX3 = some m.cls := findClass_of_methodNamed B.named
  have hx := B.exec
  have hb := B.bytes
  have hr := B.returns
  have hlocks := B.notSynchronized
  have S : CallFix p m c cX3_addSize 4 s ([.ref a0, .ref a1] : List Value).toArray zU RX3 := ⟨hx, hb, hml, hown, hts⟩
  have hw : zW lo g s s.heap [] M := ⟨hR, va_S.rf⟩
  have hl := lv_entry ([.ref a0, .ref a1]) (n := 4) (Nat.le_of_ble_eq_true rfl)
  rw [lg_entry_eq]
  generalize (lg_sl ([.ref a0, .ref a1]) ++ List.replicate (4 - (lg_sl ([.ref a0, .ref a1])).length) Slot.unset).toArray = ls at hl ⊢
  have hl : lv_has ls 4 [(0, .ref a0), (1, .ref a1)] := hl
  unfold pX3_addSize at h
  refine lv_aload_n hx hb dX3_addSize_0 rfl (lv_at hl 0 rfl) ?_
  refine zr_gi (C := RX3) (T := TX3) (N := 5) (ci := 6) (k := 1) S hK hw zi_X3 rfl (by decide) zu_235 dX3_addSize_1 h (fun length_1 h => ?_)
  refine lv_istore_n (lv' := [(2, .int length_1), (0, .ref a0), (1, .ref a1)]) hx hb dX3_addSize_4 rfl hl (by decide) rfl (fun ls hl => ?_)
  refine lv_aload_n hx hb dX3_addSize_5 rfl (lv_at hl 1 rfl) ?_
  refine zr_ga (C := RX3) (T := TX3) (N := 5) (ci := 6) (k := 2) S hK hw zi_X3 rfl (by decide) zu_242 dX3_addSize_6 h (fun left_2 h => ?_)
  refine lv_aload_n hx hb dX3_addSize_9 rfl (lv_at hl 2 rfl) ?_
  obtain ⟨ho, h⟩ := h
  refine zr_Vv (As := [.ref a1]) (rest := []) S hK hw (kX5_copy l lo g M left_2 a1 _ h) (cwV 1 hts (zg_V zu_243 zu_69 zu_70 zu_12 zu_71) rfl rfl rfl (by decide +kernel) ⟨Nat.le_of_ble_eq_true rfl, Nat.le_of_ble_eq_true rfl⟩) (ci := 8) rfl ho rfl hl.1 rfl (Nat.le_of_ble_eq_true rfl) dX3_addSize_10 ⟨Nat.le_of_ble_eq_true rfl, Nat.le_of_ble_eq_true rfl⟩ (fun M3 H locs hw h => ?_)
  refine lv_aload_n hx hb dX3_addSize_13 rfl (lv_at hl 1 rfl) ?_
  refine lv_bipush (v := (48 : Int32)) hx hb dX3_addSize_14 (by decide) ?_
  refine lv_aload_n hx hb dX3_addSize_16 rfl (lv_at hl 1 rfl) ?_
  refine zr_ga (C := RX3) (T := TX3) (N := 5) (ci := 6) (k := 2) S hK hw zi_X3 rfl (by decide) zu_242 dX3_addSize_17 h (fun left_4 h => ?_)
  refine lv_bipush (v := (10 : Int32)) hx hb dX3_addSize_20 (by decide) ?_
  obtain ⟨ho, h⟩ := h
  refine zr_Vi (As := [.int (10 : Int32)]) (rest := [.int (48 : Int32), .ref a0]) S hK hw (kX5_divideBy l lo g M3 left_4 (10 : Int32) _ h) (cwV 1 hts (zg_V zu_244 zu_174 zu_175 zu_12 zu_176) rfl rfl rfl (by decide +kernel) ⟨Nat.le_of_ble_eq_true rfl, Nat.le_of_ble_eq_true rfl⟩) (ci := 8) rfl ho rfl hl.1 rfl (Nat.le_of_ble_eq_true rfl) dX3_addSize_22 ⟨Nat.le_of_ble_eq_true rfl, Nat.le_of_ble_eq_true rfl⟩ (fun r6 M5 H locs hw h => ?_)
  refine lv_iadd hx hb dX3_addSize_25 ?_
  obtain ⟨ho, h⟩ := h
  refine zr_Vv (As := [.int ((48 : Int32) + r6)]) (rest := []) S hK hw (kX3_add l lo g M5 a0 ((48 : Int32) + r6) _ h) (cwV 1 hts (zg_V zu_237 zu_238 zu_239 zu_240 zu_241) rfl rfl rfl (by decide +kernel) ⟨Nat.le_of_ble_eq_true rfl, Nat.le_of_ble_eq_true rfl⟩) (ci := 6) rfl ho rfl hl.1 rfl (Nat.le_of_ble_eq_true rfl) dX3_addSize_26 ⟨Nat.le_of_ble_eq_true rfl, Nat.le_of_ble_eq_true rfl⟩ (fun M7 H locs hw h => ?_)
  refine lv_iconst (v := (0 : Int32)) hx hb dX3_addSize_29 (by decide) ?_
  refine lv_topi (fun x8 ex8 => ?_)
  have h := h x8 ex8
  refine lv_istore_n (lv' := [(3, .int x8), (2, .int length_1), (0, .ref a0), (1, .ref a1)]) hx hb dX3_addSize_30 rfl hl (by decide) rfl (fun ls hl => ?_)
  obtain ⟨n31, h⟩ := h
  refine sX3_addSize_31 S hr hlocks hK (fun w17 w18 M19 h H locs ls hw hl => ?_) n31 a0 length_1 x8 _ h _ _ _ hw (lv_sub hl [2, 1, 0] rfl)
  exact sX3_addSize_70 S hr hlocks hK  w17 w18 _ h _ _ _ hw (lv_sub hl [0, 1] rfl)
set_option maxHeartbeats 4000000 in
set_option maxRecDepth 100000 in
theorem sX3_addCut_46 {p : Program} {l : Launch} {e : Env} {s : State} {m : MethodId} {args : Array Value} {below : List Frame} {meth : Method} {c : Code} {lo : Nat} {g : zg} {post : zm_M → Prop}  (S : CallFix p m c cX3_addCut 4 s args zU RX3) (hr : meth.sig.returnType = none) (hlocks : meth.locks = false) (hK : zk_K zNF zNM g s)  : ∀ (n : Nat) (v0 : Nat) (v1 : Nat) (v2 : Int32) (v3 : Int32) (M : zm_M), pX3_addCut_46 g.2 post  n v0 v1 v2 v3 M → ∀ (H : Heap) (locs : List Loc) (ls : Array Slot), zW lo g s H locs M → lv_has ls 4 [(0, .ref v0), (1, .ref v1), (2, .int v2), (3, .int v3)] → W p l e ({ frames := 4, cells := 0, slots := 0, locals := 129 } : Room) s m args below meth c H locs 0 0 (MQ below (va_Qv post (zc_B lo g) (zA lo)) args s 0 0 (zA lo)) (F0 m 46 ls []) := by
  obtain ⟨hx, hb, hml, hown, hts⟩ := id S
  intro n
  induction n with
  | zero =>
    intro v0 v1 v2 v3 M h
    exact False.elim h
  | succ n46 ih =>
    intro v0 v1 v2 v3 M h H locs ls hw hl
    rw [pX3_addCut_46] at h
    refine lv_iload_n hx hb dX3_addCut_46 rfl (lv_at hl 3 rfl) ?_
    refine lv_iload_n hx hb dX3_addCut_47 rfl (lv_at hl 2 rfl) ?_
    refine lv_icmp_ge (tgt := 97) hx hb dX3_addCut_48 (by decide) (fun hc => ?_) (fun hc => ?_)
    · have h := h.1 hc
      exact zr_rv S hr hlocks hw h dX3_addCut_97
    · have h := h.2 hc
      refine lv_aload_n hx hb dX3_addCut_51 rfl (lv_at hl 0 rfl) ?_
      refine zr_ga (C := RX3) (T := TX3) (N := 5) (ci := 6) (k := 3) S hK hw zi_X3 rfl (by decide) zu_250 dX3_addCut_52 h (fun rest_11 h => ?_)
      refine lv_bipush (v := (10 : Int32)) hx hb dX3_addCut_55 (by decide) ?_
      refine lv_iconst (v := (0 : Int32)) hx hb dX3_addCut_57 (by decide) ?_
      obtain ⟨ho, h⟩ := h
      refine zr_Vv (As := [.int (10 : Int32), .int (0 : Int32)]) (rest := []) S hK hw (kX5_timesPlus l lo g M rest_11 (10 : Int32) (0 : Int32) _ h) (cwV 2 hts (zg_V zu_257 zu_151 zu_152 zu_12 zu_153) rfl rfl rfl (by decide +kernel) ⟨Nat.le_of_ble_eq_true rfl, Nat.le_of_ble_eq_true rfl⟩) (ci := 8) rfl ho rfl hl.1 rfl (Nat.le_of_ble_eq_true rfl) dX3_addCut_58 ⟨Nat.le_of_ble_eq_true rfl, Nat.le_of_ble_eq_true rfl⟩ (fun M12 H locs hw h => ?_)
      refine lv_aload_n hx hb dX3_addCut_61 rfl (lv_at hl 0 rfl) ?_
      refine zr_ga (C := RX3) (T := TX3) (N := 5) (ci := 6) (k := 3) S hK hw zi_X3 rfl (by decide) zu_250 dX3_addCut_62 h (fun rest_13 h => ?_)
      refine lv_aload_n hx hb dX3_addCut_65 rfl (lv_at hl 1 rfl) ?_
      refine zr_gaN (C := RX2) (T := TX2) (N := 3) (ci := 5) (k := 2) (host := "LeastTerms") S hK hw zi_X2 rfl (by decide) (by decide +kernel) dX3_addCut_66 h (fun bottom_14 h => ?_)
      refine lv_aload_n hx hb dX3_addCut_69 rfl (lv_at hl 0 rfl) ?_
      refine zr_ga (C := RX3) (T := TX3) (N := 5) (ci := 6) (k := 4) S hK hw zi_X3 rfl (by decide) zu_251 dX3_addCut_70 h (fun quotient_15 h => ?_)
      obtain ⟨ho, h⟩ := h
      refine zr_Vv (As := [.ref bottom_14, .ref quotient_15]) (rest := []) S hK hw (kX5_divide l lo g M12 rest_13 bottom_14 quotient_15 _ h) (cwV 2 hts (zg_V zu_252 zu_78 zu_79 zu_12 zu_80) rfl rfl rfl (by decide +kernel) ⟨Nat.le_of_ble_eq_true rfl, Nat.le_of_ble_eq_true rfl⟩) (ci := 8) rfl ho rfl hl.1 rfl (Nat.le_of_ble_eq_true rfl) dX3_addCut_73 ⟨Nat.le_of_ble_eq_true rfl, Nat.le_of_ble_eq_true rfl⟩ (fun M16 H locs hw h => ?_)
      refine lv_aload_n hx hb dX3_addCut_76 rfl (lv_at hl 0 rfl) ?_
      refine lv_bipush (v := (48 : Int32)) hx hb dX3_addCut_77 (by decide) ?_
      refine lv_aload_n hx hb dX3_addCut_79 rfl (lv_at hl 0 rfl) ?_
      refine zr_ga (C := RX3) (T := TX3) (N := 5) (ci := 6) (k := 4) S hK hw zi_X3 rfl (by decide) zu_251 dX3_addCut_80 h (fun quotient_17 h => ?_)
      obtain ⟨ho, h⟩ := h
      refine zr_Vl (As := []) (rest := [.int (48 : Int32), .ref v0]) S hK hw (kX5_low l lo g M16 quotient_17  _ h) (cwV 0 hts (zg_V zu_258 zu_167 zu_168 zu_12 zu_169) rfl rfl rfl (by decide +kernel) ⟨Nat.le_of_ble_eq_true rfl, Nat.le_of_ble_eq_true rfl⟩) (ci := 8) rfl ho rfl hl.1 rfl (Nat.le_of_ble_eq_true rfl) dX3_addCut_83 ⟨Nat.le_of_ble_eq_true rfl, Nat.le_of_ble_eq_true rfl⟩ (fun r19 M18 H locs hw h => ?_)
      refine lv_l2i hx hb dX3_addCut_86 rfl ?_
      refine lv_iadd hx hb dX3_addCut_87 ?_
      obtain ⟨ho, h⟩ := h
      refine zr_Vv (As := [.int ((48 : Int32) + (r19.toInt32))]) (rest := []) S hK hw (kX3_add l lo g M18 v0 ((48 : Int32) + (r19.toInt32)) _ h) (cwV 1 hts (zg_V zu_237 zu_238 zu_239 zu_240 zu_241) rfl rfl rfl (by decide +kernel) ⟨Nat.le_of_ble_eq_true rfl, Nat.le_of_ble_eq_true rfl⟩) (ci := 6) rfl ho rfl hl.1 rfl (Nat.le_of_ble_eq_true rfl) dX3_addCut_88 ⟨Nat.le_of_ble_eq_true rfl, Nat.le_of_ble_eq_true rfl⟩ (fun M20 H locs hw h => ?_)
      obtain ⟨x21, ex21⟩ : ∃ z : Int32, z = v3 + (1 : Int32) := ⟨_, rfl⟩
      have h := h x21 ex21
      refine lv_iinc (v := x21) (lv' := [(3, .int x21), (0, .ref v0), (1, .ref v1), (2, .int v2)]) hx hb dX3_addCut_91 hl (k := 3) rfl (by rw [ex21]; rfl) (by decide) rfl (fun ls hl => ?_)
      refine lv_goto (tgt := 46) hx hb dX3_addCut_94 (by decide) ?_
      exact ih v0 v1 v2 x21 _ h _ _ _ hw (lv_sub hl [1, 2, 3, 0] rfl)
set_option maxHeartbeats 4000000 in
set_option maxRecDepth 100000 in
theorem kX3_addCut (l : Launch) (lo : Nat) (g : zg) (M : zm_M) (a0 : Nat) (a1 : Nat) (a2 : Int32) (post : zm_M → Prop) (h : pX3_addCut g.2 a0 a1 a2 post M) : Met l yX3_addCut (Cond.code yX3_addCut cX3_addCut 4 none :: zU) (({ frames := 4, cells := 0, slots := 0, locals := 129 } : Room)) (zc_P zNF zNM lo g M [.ref a0, .ref a1, .int a2]) (va_Qv post (zc_B lo g) (zA lo)) 0 0 (zA lo) := by
  refine Met.ofW (cc := cX3_addCut) (maxL := 4) (ret := none) (by decide) rfl ?_
  intro p e s m args below meth c s₁ B hml hv
  obtain ⟨rfl, hR, hK⟩ := hv
  have hts := atoms_spec (ws := Cond.code yX3_addCut cX3_addCut 4 none :: zU) B.pre
  have hts : ∀ w ∈ zU, w.before _ s = true := fun w hw => hts w (List.mem_cons_of_mem _ hw)
  have hown : s.vm.findClass RX3 = some m.cls := findClass_of_methodNamed B.named
  have hx := B.exec
  have hb := B.bytes
  have hr := B.returns
  have hlocks := B.notSynchronized
  have S : CallFix p m c cX3_addCut 4 s ([.ref a0, .ref a1, .int a2] : List Value).toArray zU RX3 := ⟨hx, hb, hml, hown, hts⟩
  have hw : zW lo g s s.heap [] M := ⟨hR, va_S.rf⟩
  have hl := lv_entry ([.ref a0, .ref a1, .int a2]) (n := 4) (Nat.le_of_ble_eq_true rfl)
  rw [lg_entry_eq]
  generalize (lg_sl ([.ref a0, .ref a1, .int a2]) ++ List.replicate (4 - (lg_sl ([.ref a0, .ref a1, .int a2])).length) Slot.unset).toArray = ls at hl ⊢
  have hl : lv_has ls 4 [(0, .ref a0), (1, .ref a1), (2, .int a2)] := hl
  unfold pX3_addCut at h
  refine lv_aload_n hx hb dX3_addCut_0 rfl (lv_at hl 0 rfl) ?_
  refine zr_ga (C := RX3) (T := TX3) (N := 5) (ci := 6) (k := 3) S hK hw zi_X3 rfl (by decide) zu_250 dX3_addCut_1 h (fun rest_1 h => ?_)
  refine lv_aload_n hx hb dX3_addCut_4 rfl (lv_at hl 1 rfl) ?_
  refine zr_gaN (C := RX2) (T := TX2) (N := 3) (ci := 5) (k := 1) (host := "LeastTerms") S hK hw zi_X2 rfl (by decide) (by decide +kernel) dX3_addCut_5 h (fun top_2 h => ?_)
  obtain ⟨ho, h⟩ := h
  refine zr_Vv (As := [.ref top_2]) (rest := []) S hK hw (kX5_copy l lo g M rest_1 top_2 _ h) (cwV 1 hts (zg_V zu_243 zu_69 zu_70 zu_12 zu_71) rfl rfl rfl (by decide +kernel) ⟨Nat.le_of_ble_eq_true rfl, Nat.le_of_ble_eq_true rfl⟩) (ci := 8) rfl ho rfl hl.1 rfl (Nat.le_of_ble_eq_true rfl) dX3_addCut_8 ⟨Nat.le_of_ble_eq_true rfl, Nat.le_of_ble_eq_true rfl⟩ (fun M3 H locs hw h => ?_)
  refine lv_aload_n hx hb dX3_addCut_11 rfl (lv_at hl 0 rfl) ?_
  refine zr_ga (C := RX3) (T := TX3) (N := 5) (ci := 6) (k := 3) S hK hw zi_X3 rfl (by decide) zu_250 dX3_addCut_12 h (fun rest_4 h => ?_)
  refine lv_aload_n hx hb dX3_addCut_15 rfl (lv_at hl 1 rfl) ?_
  refine zr_gaN (C := RX2) (T := TX2) (N := 3) (ci := 5) (k := 2) (host := "LeastTerms") S hK hw zi_X2 rfl (by decide) (by decide +kernel) dX3_addCut_16 h (fun bottom_5 h => ?_)
  refine lv_aload_n hx hb dX3_addCut_19 rfl (lv_at hl 0 rfl) ?_
  refine zr_ga (C := RX3) (T := TX3) (N := 5) (ci := 6) (k := 4) S hK hw zi_X3 rfl (by decide) zu_251 dX3_addCut_20 h (fun quotient_6 h => ?_)
  obtain ⟨ho, h⟩ := h
  refine zr_Vv (As := [.ref bottom_5, .ref quotient_6]) (rest := []) S hK hw (kX5_divide l lo g M3 rest_4 bottom_5 quotient_6 _ h) (cwV 2 hts (zg_V zu_252 zu_78 zu_79 zu_12 zu_80) rfl rfl rfl (by decide +kernel) ⟨Nat.le_of_ble_eq_true rfl, Nat.le_of_ble_eq_true rfl⟩) (ci := 8) rfl ho rfl hl.1 rfl (Nat.le_of_ble_eq_true rfl) dX3_addCut_23 ⟨Nat.le_of_ble_eq_true rfl, Nat.le_of_ble_eq_true rfl⟩ (fun M7 H locs hw h => ?_)
  refine lv_aload_n hx hb dX3_addCut_26 rfl (lv_at hl 0 rfl) ?_
  refine lv_aload_n hx hb dX3_addCut_27 rfl (lv_at hl 0 rfl) ?_
  refine zr_ga (C := RX3) (T := TX3) (N := 5) (ci := 6) (k := 4) S hK hw zi_X3 rfl (by decide) zu_251 dX3_addCut_28 h (fun quotient_8 h => ?_)
  obtain ⟨ho, h⟩ := h
  refine zr_Vv (As := [.ref quotient_8]) (rest := []) S hK hw (kX3_addSize l lo g M7 a0 quotient_8 _ h) (cwV 1 hts (zg_V zu_253 zu_254 zu_255 zu_240 zu_256) rfl rfl rfl (by decide +kernel) ⟨Nat.le_of_ble_eq_true rfl, Nat.le_of_ble_eq_true rfl⟩) (ci := 6) rfl ho rfl hl.1 rfl (Nat.le_of_ble_eq_true rfl) dX3_addCut_31 ⟨Nat.le_of_ble_eq_true rfl, Nat.le_of_ble_eq_true rfl⟩ (fun M9 H locs hw h => ?_)
  refine lv_iload_n hx hb dX3_addCut_34 rfl (lv_at hl 2 rfl) ?_
  refine lv_if_le (tgt := 44) hx hb dX3_addCut_35 (by decide) (fun hc => ?_) (fun hc => ?_)
  · have h := h.1 hc
    refine lv_iconst (v := (0 : Int32)) hx hb dX3_addCut_44 (by decide) ?_
    refine lv_topi (fun x10 ex10 => ?_)
    have h := h x10 ex10
    refine lv_istore_n (lv' := [(3, .int x10), (0, .ref a0), (1, .ref a1), (2, .int a2)]) hx hb dX3_addCut_45 rfl hl (by decide) rfl (fun ls hl => ?_)
    obtain ⟨n46, h⟩ := h
    refine sX3_addCut_46 S hr hlocks hK  n46 a0 a1 a2 x10 _ h _ _ _ hw (lv_sub hl [1, 2, 3, 0] rfl)
  · have h := h.2 hc
    refine lv_aload_n hx hb dX3_addCut_38 rfl (lv_at hl 0 rfl) ?_
    refine lv_bipush (v := (46 : Int32)) hx hb dX3_addCut_39 (by decide) ?_
    obtain ⟨ho, h⟩ := h
    refine zr_Vv (As := [.int (46 : Int32)]) (rest := []) S hK hw (kX3_add l lo g M9 a0 (46 : Int32) _ h) (cwV 1 hts (zg_V zu_237 zu_238 zu_239 zu_240 zu_241) rfl rfl rfl (by decide +kernel) ⟨Nat.le_of_ble_eq_true rfl, Nat.le_of_ble_eq_true rfl⟩) (ci := 6) rfl ho rfl hl.1 rfl (Nat.le_of_ble_eq_true rfl) dX3_addCut_41 ⟨Nat.le_of_ble_eq_true rfl, Nat.le_of_ble_eq_true rfl⟩ (fun M22 H locs hw h => ?_)
    refine lv_iconst (v := (0 : Int32)) hx hb dX3_addCut_44 (by decide) ?_
    refine lv_topi (fun x23 ex23 => ?_)
    have h := h x23 ex23
    refine lv_istore_n (lv' := [(3, .int x23), (0, .ref a0), (1, .ref a1), (2, .int a2)]) hx hb dX3_addCut_45 rfl hl (by decide) rfl (fun ls hl => ?_)
    obtain ⟨n46, h⟩ := h
    refine sX3_addCut_46 S hr hlocks hK  n46 a0 a1 a2 x23 _ h _ _ _ hw (lv_sub hl [1, 2, 3, 0] rfl)
set_option maxHeartbeats 4000000 in
set_option maxRecDepth 100000 in
theorem kX4_add (l : Launch) (lo : Nat) (g : zg) (M : zm_M) (a0 : Nat) (a1 : Int32) (post : Int32 → zm_M → Prop) (h : pX4_add g.2 a0 a1 post M) : Met l yX4_add (Cond.code yX4_add cX4_add 2 (some .boolean) :: zU) (({ frames := 1, cells := 0, slots := 0, locals := 40 } : Room)) (zc_P zNF zNM lo g M [.ref a0, .int a1]) (va_Qi post (zc_B lo g) (zA lo)) 0 0 (zA lo) := by
  refine Met.ofW (cc := cX4_add) (maxL := 2) (ret := (some .boolean)) (by decide) rfl ?_
  intro p e s m args below meth c s₁ B hml hv
  obtain ⟨rfl, hR, hK⟩ := hv
  have hts := atoms_spec (ws := Cond.code yX4_add cX4_add 2 (some .boolean) :: zU) B.pre
  have hts : ∀ w ∈ zU, w.before _ s = true := fun w hw => hts w (List.mem_cons_of_mem _ hw)
  have hown : s.vm.findClass RX4 = some m.cls := findClass_of_methodNamed B.named
  have hx := B.exec
  have hb := B.bytes
  have hr := B.returns
  have hlocks := B.notSynchronized
  have S : CallFix p m c cX4_add 2 s ([.ref a0, .int a1] : List Value).toArray zU RX4 := ⟨hx, hb, hml, hown, hts⟩
  have hw : zW lo g s s.heap [] M := ⟨hR, va_S.rf⟩
  have hl := lv_entry ([.ref a0, .int a1]) (n := 2) (Nat.le_of_ble_eq_true rfl)
  rw [lg_entry_eq]
  generalize (lg_sl ([.ref a0, .int a1]) ++ List.replicate (2 - (lg_sl ([.ref a0, .int a1])).length) Slot.unset).toArray = ls at hl ⊢
  have hl : lv_has ls 2 [(0, .ref a0), (1, .int a1)] := hl
  unfold pX4_add at h
  refine lv_aload_n hx hb dX4_add_0 rfl (lv_at hl 0 rfl) ?_
  refine zr_gi (C := RX4) (T := TX4) (N := 5) (ci := 7) (k := 1) S hK hw zi_X4 rfl (by decide) zu_259 dX4_add_1 h (fun length_1 h => ?_)
  refine lv_sipush (v := (400 : Int32)) hx hb dX4_add_4 (by decide) ?_
  refine lv_icmp_lt (tgt := 12) hx hb dX4_add_7 (by decide) (fun hc => ?_) (fun hc => ?_)
  · have h := h.1 hc
    refine lv_aload_n hx hb dX4_add_12 rfl (lv_at hl 0 rfl) ?_
    refine zr_ga (C := RX4) (T := TX4) (N := 5) (ci := 7) (k := 0) S hK hw zi_X4 rfl (by decide) zu_260 dX4_add_13 h (fun bytes_2 h => ?_)
    refine lv_aload_n hx hb dX4_add_16 rfl (lv_at hl 0 rfl) ?_
    refine zr_gi (C := RX4) (T := TX4) (N := 5) (ci := 7) (k := 1) S hK hw zi_X4 rfl (by decide) zu_259 dX4_add_17 h (fun length_3 h => ?_)
    refine lv_iload_n hx hb dX4_add_20 rfl (lv_at hl 1 rfl) ?_
    refine lv_i2b hx hb dX4_add_21 rfl ?_
    refine zr_bast S hK hw dX4_add_22 h (fun M4 H locs hw h => ?_)
    refine lv_aload_n hx hb dX4_add_23 rfl (lv_at hl 0 rfl) ?_
    refine lv_dup hx hb dX4_add_24 rfl ?_
    refine zr_gi (C := RX4) (T := TX4) (N := 5) (ci := 7) (k := 1) S hK hw zi_X4 rfl (by decide) zu_259 dX4_add_25 h (fun length_5 h => ?_)
    refine lv_iconst (v := (1 : Int32)) hx hb dX4_add_28 (by decide) ?_
    refine lv_iadd hx hb dX4_add_29 ?_
    refine zr_p (C := RX4) (T := TX4) (N := 5) (ci := 7) (k := 1) S hK hw zi_X4 tyX4 tyX4_ok nmX4 rfl (by decide) zu_259 rfl rfl rfl dX4_add_30 h (fun M6 H locs hw h => ?_)
    refine lv_iconst (v := (1 : Int32)) hx hb dX4_add_33 (by decide) ?_
    exact zr_rz S hr hlocks hw h dX4_add_34
  · have h := h.2 hc
    refine lv_iconst (v := (0 : Int32)) hx hb dX4_add_10 (by decide) ?_
    exact zr_rz S hr hlocks hw h dX4_add_11
set_option maxHeartbeats 4000000 in
set_option maxRecDepth 100000 in
theorem kX4_clear (l : Launch) (lo : Nat) (g : zg) (M : zm_M) (a0 : Nat) (post : zm_M → Prop) (h : pX4_clear g.2 a0 post M) : Met l yX4_clear (Cond.code yX4_clear cX4_clear 1 none :: zU) (({ frames := 1, cells := 0, slots := 0, locals := 40 } : Room)) (zc_P zNF zNM lo g M [.ref a0]) (va_Qv post (zc_B lo g) (zA lo)) 0 0 (zA lo) := by
  refine Met.ofW (cc := cX4_clear) (maxL := 1) (ret := none) (by decide) rfl ?_
  intro p e s m args below meth c s₁ B hml hv
  obtain ⟨rfl, hR, hK⟩ := hv
  have hts := atoms_spec (ws := Cond.code yX4_clear cX4_clear 1 none :: zU) B.pre
  have hts : ∀ w ∈ zU, w.before _ s = true := fun w hw => hts w (List.mem_cons_of_mem _ hw)
  have hown : s.vm.findClass RX4 = some m.cls := findClass_of_methodNamed B.named
  have hx := B.exec
  have hb := B.bytes
  have hr := B.returns
  have hlocks := B.notSynchronized
  have S : CallFix p m c cX4_clear 1 s ([.ref a0] : List Value).toArray zU RX4 := ⟨hx, hb, hml, hown, hts⟩
  have hw : zW lo g s s.heap [] M := ⟨hR, va_S.rf⟩
  have hl := lv_entry ([.ref a0]) (n := 1) (Nat.le_of_ble_eq_true rfl)
  rw [lg_entry_eq]
  generalize (lg_sl ([.ref a0]) ++ List.replicate (1 - (lg_sl ([.ref a0])).length) Slot.unset).toArray = ls at hl ⊢
  have hl : lv_has ls 1 [(0, .ref a0)] := hl
  unfold pX4_clear at h
  refine lv_aload_n hx hb dX4_clear_0 rfl (lv_at hl 0 rfl) ?_
  refine lv_iconst (v := (0 : Int32)) hx hb dX4_clear_1 (by decide) ?_
  refine zr_p (C := RX4) (T := TX4) (N := 5) (ci := 7) (k := 1) S hK hw zi_X4 tyX4 tyX4_ok nmX4 rfl (by decide) zu_259 rfl rfl rfl dX4_clear_2 h (fun M1 H locs hw h => ?_)
  exact zr_rv S hr hlocks hw h dX4_clear_5
set_option maxHeartbeats 4000000 in
set_option maxRecDepth 100000 in
theorem kX4_at (l : Launch) (lo : Nat) (g : zg) (M : zm_M) (a0 : Nat) (a1 : Int32) (post : Int32 → zm_M → Prop) (h : pX4_at g.2 a0 a1 post M) : Met l yX4_at (Cond.code yX4_at cX4_at 2 (some .int) :: zU) (({ frames := 1, cells := 0, slots := 0, locals := 40 } : Room)) (zc_P zNF zNM lo g M [.ref a0, .int a1]) (va_Qi post (zc_B lo g) (zA lo)) 0 0 (zA lo) := by
  refine Met.ofW (cc := cX4_at) (maxL := 2) (ret := (some .int)) (by decide) rfl ?_
  intro p e s m args below meth c s₁ B hml hv
  obtain ⟨rfl, hR, hK⟩ := hv
  have hts := atoms_spec (ws := Cond.code yX4_at cX4_at 2 (some .int) :: zU) B.pre
  have hts : ∀ w ∈ zU, w.before _ s = true := fun w hw => hts w (List.mem_cons_of_mem _ hw)
  have hown : s.vm.findClass RX4 = some m.cls := findClass_of_methodNamed B.named
  have hx := B.exec
  have hb := B.bytes
  have hr := B.returns
  have hlocks := B.notSynchronized
  have S : CallFix p m c cX4_at 2 s ([.ref a0, .int a1] : List Value).toArray zU RX4 := ⟨hx, hb, hml, hown, hts⟩
  have hw : zW lo g s s.heap [] M := ⟨hR, va_S.rf⟩
  have hl := lv_entry ([.ref a0, .int a1]) (n := 2) (Nat.le_of_ble_eq_true rfl)
  rw [lg_entry_eq]
  generalize (lg_sl ([.ref a0, .int a1]) ++ List.replicate (2 - (lg_sl ([.ref a0, .int a1])).length) Slot.unset).toArray = ls at hl ⊢
  have hl : lv_has ls 2 [(0, .ref a0), (1, .int a1)] := hl
  unfold pX4_at at h
  refine lv_iload_n hx hb dX4_at_0 rfl (lv_at hl 1 rfl) ?_
  refine lv_if_lt (tgt := 25) hx hb dX4_at_1 (by decide) (fun hc => ?_) (fun hc => ?_)
  · have h := h.1 hc
    refine lv_iconst (v := (-1 : Int32)) hx hb dX4_at_25 (by decide) ?_
    exact zr_ri S hr hlocks hw h dX4_at_26
  · have h := h.2 hc
    refine lv_iload_n hx hb dX4_at_4 rfl (lv_at hl 1 rfl) ?_
    refine lv_aload_n hx hb dX4_at_5 rfl (lv_at hl 0 rfl) ?_
    refine zr_gi (C := RX4) (T := TX4) (N := 5) (ci := 7) (k := 1) S hK hw zi_X4 rfl (by decide) zu_259 dX4_at_6 h (fun length_1 h => ?_)
    refine lv_icmp_ge (tgt := 25) hx hb dX4_at_9 (by decide) (fun hc => ?_) (fun hc => ?_)
    · have h := h.1 hc
      refine lv_iconst (v := (-1 : Int32)) hx hb dX4_at_25 (by decide) ?_
      exact zr_ri S hr hlocks hw h dX4_at_26
    · have h := h.2 hc
      refine lv_aload_n hx hb dX4_at_12 rfl (lv_at hl 0 rfl) ?_
      refine zr_ga (C := RX4) (T := TX4) (N := 5) (ci := 7) (k := 0) S hK hw zi_X4 rfl (by decide) zu_260 dX4_at_13 h (fun bytes_2 h => ?_)
      refine lv_iload_n hx hb dX4_at_16 rfl (lv_at hl 1 rfl) ?_
      refine zr_bald S hK hw dX4_at_17 h (fun e3 h => ?_)
      refine lv_sipush (v := (255 : Int32)) hx hb dX4_at_18 (by decide) ?_
      refine lv_iand hx hb dX4_at_21 ?_
      refine lv_goto (tgt := 26) hx hb dX4_at_22 (by decide) ?_
      exact zr_ri S hr hlocks hw h dX4_at_26
set_option maxHeartbeats 4000000 in
set_option maxRecDepth 100000 in
theorem kX4_isFigure (l : Launch) (lo : Nat) (g : zg) (M : zm_M) (a0 : Nat) (a1 : Int32) (post : Int32 → zm_M → Prop) (h : pX4_isFigure g.2 a0 a1 post M) : Met l yX4_isFigure (Cond.code yX4_isFigure cX4_isFigure 2 (some .boolean) :: zU) (({ frames := 2, cells := 0, slots := 0, locals := 61 } : Room)) (zc_P zNF zNM lo g M [.ref a0, .int a1]) (va_Qi post (zc_B lo g) (zA lo)) 0 0 (zA lo) := by
  refine Met.ofW (cc := cX4_isFigure) (maxL := 2) (ret := (some .boolean)) (by decide) rfl ?_
  intro p e s m args below meth c s₁ B hml hv
  obtain ⟨rfl, hR, hK⟩ := hv
  have hts := atoms_spec (ws := Cond.code yX4_isFigure cX4_isFigure 2 (some .boolean) :: zU) B.pre
  have hts : ∀ w ∈ zU, w.before _ s = true := fun w hw => hts w (List.mem_cons_of_mem _ hw)
  have hown : s.vm.findClass RX4 = some m.cls := findClass_of_methodNamed B.named
  have hx := B.exec
  have hb := B.bytes
  have hr := B.returns
  have hlocks := B.notSynchronized
  have S : CallFix p m c cX4_isFigure 2 s ([.ref a0, .int a1] : List Value).toArray zU RX4 := ⟨hx, hb, hml, hown, hts⟩
  have hw : zW lo g s s.heap [] M := ⟨hR, va_S.rf⟩
  have hl := lv_entry ([.ref a0, .int a1]) (n := 2) (Nat.le_of_ble_eq_true rfl)
  rw [lg_entry_eq]
  generalize (lg_sl ([.ref a0, .int a1]) ++ List.replicate (2 - (lg_sl ([.ref a0, .int a1])).length) Slot.unset).toArray = ls at hl ⊢
  have hl : lv_has ls 2 [(0, .ref a0), (1, .int a1)] := hl
  unfold pX4_isFigure at h
  refine lv_aload_n hx hb dX4_isFigure_0 rfl (lv_at hl 0 rfl) ?_
  refine lv_iload_n hx hb dX4_isFigure_1 rfl (lv_at hl 1 rfl) ?_
  obtain ⟨ho, h⟩ := h
  refine zr_Vi (As := [.int a1]) (rest := []) S hK hw (kX4_at l lo g M a0 a1 _ h) (cwV 1 hts (zg_V zu_261 zu_262 zu_263 zu_264 zu_265) rfl rfl rfl (by decide +kernel) ⟨Nat.le_of_ble_eq_true rfl, Nat.le_of_ble_eq_true rfl⟩) (ci := 7) rfl ho rfl hl.1 rfl (Nat.le_of_ble_eq_true rfl) dX4_isFigure_2 ⟨Nat.le_of_ble_eq_true rfl, Nat.le_of_ble_eq_true rfl⟩ (fun r2 M1 H locs hw h => ?_)
  refine lv_bipush (v := (48 : Int32)) hx hb dX4_isFigure_5 (by decide) ?_
  refine lv_icmp_lt (tgt := 24) hx hb dX4_isFigure_7 (by decide) (fun hc => ?_) (fun hc => ?_)
  · have h := h.1 hc
    refine lv_iconst (v := (0 : Int32)) hx hb dX4_isFigure_24 (by decide) ?_
    exact zr_rz S hr hlocks hw h dX4_isFigure_25
  · have h := h.2 hc
    refine lv_aload_n hx hb dX4_isFigure_10 rfl (lv_at hl 0 rfl) ?_
    refine lv_iload_n hx hb dX4_isFigure_11 rfl (lv_at hl 1 rfl) ?_
    obtain ⟨ho, h⟩ := h
    refine zr_Vi (As := [.int a1]) (rest := []) S hK hw (kX4_at l lo g M1 a0 a1 _ h) (cwV 1 hts (zg_V zu_261 zu_262 zu_263 zu_264 zu_265) rfl rfl rfl (by decide +kernel) ⟨Nat.le_of_ble_eq_true rfl, Nat.le_of_ble_eq_true rfl⟩) (ci := 7) rfl ho rfl hl.1 rfl (Nat.le_of_ble_eq_true rfl) dX4_isFigure_12 ⟨Nat.le_of_ble_eq_true rfl, Nat.le_of_ble_eq_true rfl⟩ (fun r4 M3 H locs hw h => ?_)
    refine lv_bipush (v := (57 : Int32)) hx hb dX4_isFigure_15 (by decide) ?_
    refine lv_icmp_gt (tgt := 24) hx hb dX4_isFigure_17 (by decide) (fun hc => ?_) (fun hc => ?_)
    · have h := h.1 hc
      refine lv_iconst (v := (0 : Int32)) hx hb dX4_isFigure_24 (by decide) ?_
      exact zr_rz S hr hlocks hw h dX4_isFigure_25
    · have h := h.2 hc
      refine lv_iconst (v := (1 : Int32)) hx hb dX4_isFigure_20 (by decide) ?_
      refine lv_goto (tgt := 25) hx hb dX4_isFigure_21 (by decide) ?_
      exact zr_rz S hr hlocks hw h dX4_isFigure_25
set_option maxHeartbeats 4000000 in
set_option maxRecDepth 100000 in
theorem sX4_endOfFigures_2 {p : Program} {l : Launch} {e : Env} {s : State} {m : MethodId} {args : Array Value} {below : List Frame} {meth : Method} {c : Code} {lo : Nat} {g : zg} {post : Int32 → zm_M → Prop}  (S : CallFix p m c cX4_endOfFigures 4 s args zU RX4) (hr : meth.sig.returnType = (some .int)) (hlocks : meth.locks = false) (hK : zk_K zNF zNM g s)  : ∀ (n : Nat) (v0 : Nat) (v1 : Int32) (v2 : Int32) (v3 : Int32) (M : zm_M), pX4_endOfFigures_2 g.2 post  n v0 v1 v2 v3 M → ∀ (H : Heap) (locs : List Loc) (ls : Array Slot), zW lo g s H locs M → lv_has ls 4 [(0, .ref v0), (1, .int v1), (2, .int v2), (3, .int v3)] → W p l e ({ frames := 3, cells := 0, slots := 0, locals := 82 } : Room) s m args below meth c H locs 0 0 (MQ below (va_Qi post (zc_B lo g) (zA lo)) args s 0 0 (zA lo)) (F0 m 2 ls []) := by
  obtain ⟨hx, hb, hml, hown, hts⟩ := id S
  intro n
  induction n with
  | zero =>
    intro v0 v1 v2 v3 M h
    exact False.elim h
  | succ n2 ih =>
    intro v0 v1 v2 v3 M h H locs ls hw hl
    rw [pX4_endOfFigures_2] at h
    refine lv_iload_n hx hb dX4_endOfFigures_2 rfl (lv_at hl 3 rfl) ?_
    refine lv_iload_n hx hb dX4_endOfFigures_3 rfl (lv_at hl 1 rfl) ?_
    refine lv_isub hx hb dX4_endOfFigures_4 ?_
    refine lv_iload_n hx hb dX4_endOfFigures_5 rfl (lv_at hl 2 rfl) ?_
    refine lv_icmp_ge (tgt := 23) hx hb dX4_endOfFigures_6 (by decide) (fun hc => ?_) (fun hc => ?_)
    · have h := h.1 hc
      refine lv_iload_n hx hb dX4_endOfFigures_23 rfl (lv_at hl 3 rfl) ?_
      exact zr_ri S hr hlocks hw h dX4_endOfFigures_24
    · have h := h.2 hc
      refine lv_aload_n hx hb dX4_endOfFigures_9 rfl (lv_at hl 0 rfl) ?_
      refine lv_iload_n hx hb dX4_endOfFigures_10 rfl (lv_at hl 3 rfl) ?_
      obtain ⟨ho, h⟩ := h
      refine zr_Vi (As := [.int v3]) (rest := []) S hK hw (kX4_isFigure l lo g M v0 v3 _ h) (cwV 1 hts (zg_V zu_266 zu_267 zu_268 zu_264 zu_269) rfl rfl rfl (by decide +kernel) ⟨Nat.le_of_ble_eq_true rfl, Nat.le_of_ble_eq_true rfl⟩) (ci := 7) rfl ho rfl hl.1 rfl (Nat.le_of_ble_eq_true rfl) dX4_endOfFigures_11 ⟨Nat.le_of_ble_eq_true rfl, Nat.le_of_ble_eq_true rfl⟩ (fun r2 M1 H locs hw h => ?_)
      refine lv_if_eq (tgt := 23) hx hb dX4_endOfFigures_14 (by decide) (fun hc => ?_) (fun hc => ?_)
      · have h := h.1 hc
        refine lv_iload_n hx hb dX4_endOfFigures_23 rfl (lv_at hl 3 rfl) ?_
        exact zr_ri S hr hlocks hw h dX4_endOfFigures_24
      · have h := h.2 hc
        obtain ⟨x3, ex3⟩ : ∃ z : Int32, z = v3 + (1 : Int32) := ⟨_, rfl⟩
        have h := h x3 ex3
        refine lv_iinc (v := x3) (lv' := [(3, .int x3), (0, .ref v0), (1, .int v1), (2, .int v2)]) hx hb dX4_endOfFigures_17 hl (k := 3) rfl (by rw [ex3]; rfl) (by decide) rfl (fun ls hl => ?_)
        refine lv_goto (tgt := 2) hx hb dX4_endOfFigures_20 (by decide) ?_
        exact ih v0 v1 v2 x3 _ h _ _ _ hw (lv_sub hl [1, 2, 3, 0] rfl)
set_option maxHeartbeats 4000000 in
set_option maxRecDepth 100000 in
theorem kX4_endOfFigures (l : Launch) (lo : Nat) (g : zg) (M : zm_M) (a0 : Nat) (a1 : Int32) (a2 : Int32) (post : Int32 → zm_M → Prop) (h : pX4_endOfFigures g.2 a0 a1 a2 post M) : Met l yX4_endOfFigures (Cond.code yX4_endOfFigures cX4_endOfFigures 4 (some .int) :: zU) (({ frames := 3, cells := 0, slots := 0, locals := 82 } : Room)) (zc_P zNF zNM lo g M [.ref a0, .int a1, .int a2]) (va_Qi post (zc_B lo g) (zA lo)) 0 0 (zA lo) := by
  refine Met.ofW (cc := cX4_endOfFigures) (maxL := 4) (ret := (some .int)) (by decide) rfl ?_
  intro p e s m args below meth c s₁ B hml hv
  obtain ⟨rfl, hR, hK⟩ := hv
  have hts := atoms_spec (ws := Cond.code yX4_endOfFigures cX4_endOfFigures 4 (some .int) :: zU) B.pre
  have hts : ∀ w ∈ zU, w.before _ s = true := fun w hw => hts w (List.mem_cons_of_mem _ hw)
  have hown : s.vm.findClass RX4 = some m.cls := findClass_of_methodNamed B.named
  have hx := B.exec
  have hb := B.bytes
  have hr := B.returns
  have hlocks := B.notSynchronized
  have S : CallFix p m c cX4_endOfFigures 4 s ([.ref a0, .int a1, .int a2] : List Value).toArray zU RX4 := ⟨hx, hb, hml, hown, hts⟩
  have hw : zW lo g s s.heap [] M := ⟨hR, va_S.rf⟩
  have hl := lv_entry ([.ref a0, .int a1, .int a2]) (n := 4) (Nat.le_of_ble_eq_true rfl)
  rw [lg_entry_eq]
  generalize (lg_sl ([.ref a0, .int a1, .int a2]) ++ List.replicate (4 - (lg_sl ([.ref a0, .int a1, .int a2])).length) Slot.unset).toArray = ls at hl ⊢
  have hl : lv_has ls 4 [(0, .ref a0), (1, .int a1), (2, .int a2)] := hl
  unfold pX4_endOfFigures at h
  refine lv_iload_n hx hb dX4_endOfFigures_0 rfl (lv_at hl 1 rfl) ?_
  refine lv_istore_n (lv' := [(3, .int a1), (0, .ref a0), (1, .int a1), (2, .int a2)]) hx hb dX4_endOfFigures_1 rfl hl (by decide) rfl (fun ls hl => ?_)
  obtain ⟨n2, h⟩ := h
  refine sX4_endOfFigures_2 S hr hlocks hK  n2 a0 a1 a2 a1 _ h _ _ _ hw (lv_sub hl [1, 2, 3, 0] rfl)
set_option maxHeartbeats 4000000 in
set_option maxRecDepth 100000 in
theorem sX4_findFault_138 {p : Program} {l : Launch} {e : Env} {s : State} {m : MethodId} {args : Array Value} {below : List Frame} {meth : Method} {c : Code} {lo : Nat} {g : zg} {post : Int32 → zm_M → Prop}  (S : CallFix p m c cX4_findFault 3 s args zU RX4) (hr : meth.sig.returnType = (some .int)) (hlocks : meth.locks = false) (hK : zk_K zNF zNM g s)  : ∀ (v0 : Nat) (M : zm_M), pX4_findFault_138 g.2 post  v0 M → ∀ (H : Heap) (locs : List Loc) (ls : Array Slot), zW lo g s H locs M → lv_has ls 3 [(0, .ref v0)] → W p l e ({ frames := 4, cells := 0, slots := 0, locals := 105 } : Room) s m args below meth c H locs 0 0 (MQ below (va_Qi post (zc_B lo g) (zA lo)) args s 0 0 (zA lo)) (F0 m 138 ls []) := by
  obtain ⟨hx, hb, hml, hown, hts⟩ := id S
  intro v0 M h H locs ls hw hl
  unfold pX4_findFault_138 at h
  refine lv_aload_n hx hb dX4_findFault_138 rfl (lv_at hl 0 rfl) ?_
  refine zr_gi (C := RX4) (T := TX4) (N := 5) (ci := 7) (k := 4) S hK hw zi_X4 rfl (by decide) zu_276 dX4_findFault_139 h (fun lastEnd_23 h => ?_)
  refine lv_aload_n hx hb dX4_findFault_142 rfl (lv_at hl 0 rfl) ?_
  refine zr_gi (C := RX4) (T := TX4) (N := 5) (ci := 7) (k := 1) S hK hw zi_X4 rfl (by decide) zu_259 dX4_findFault_143 h (fun length_24 h => ?_)
  refine lv_icmp_ge (tgt := 156) hx hb dX4_findFault_146 (by decide) (fun hc => ?_) (fun hc => ?_)
  · have h := h.1 hc
    refine lv_iconst (v := (-1 : Int32)) hx hb dX4_findFault_156 (by decide) ?_
    exact zr_ri S hr hlocks hw h dX4_findFault_157
  · have h := h.2 hc
    refine lv_aload_n hx hb dX4_findFault_149 rfl (lv_at hl 0 rfl) ?_
    refine zr_gi (C := RX4) (T := TX4) (N := 5) (ci := 7) (k := 4) S hK hw zi_X4 rfl (by decide) zu_276 dX4_findFault_150 h (fun lastEnd_25 h => ?_)
    refine lv_goto (tgt := 157) hx hb dX4_findFault_153 (by decide) ?_
    exact zr_ri S hr hlocks hw h dX4_findFault_157
set_option maxHeartbeats 4000000 in
set_option maxRecDepth 100000 in
theorem sX4_findFault_104 {p : Program} {l : Launch} {e : Env} {s : State} {m : MethodId} {args : Array Value} {below : List Frame} {meth : Method} {c : Code} {lo : Nat} {g : zg} {post : Int32 → zm_M → Prop}  (S : CallFix p m c cX4_findFault 3 s args zU RX4) (hr : meth.sig.returnType = (some .int)) (hlocks : meth.locks = false) (hK : zk_K zNF zNM g s)  : ∀ (v0 : Nat) (s0 : Int32) (M : zm_M), pX4_findFault_104 g.2 post  v0 s0 M → ∀ (H : Heap) (locs : List Loc) (ls : Array Slot), zW lo g s H locs M → lv_has ls 3 [(0, .ref v0)] → W p l e ({ frames := 4, cells := 0, slots := 0, locals := 105 } : Room) s m args below meth c H locs 0 0 (MQ below (va_Qi post (zc_B lo g) (zA lo)) args s 0 0 (zA lo)) (F0 m 104 ls [.int s0]) := by
  obtain ⟨hx, hb, hml, hown, hts⟩ := id S
  intro v0 s0 M h H locs ls hw hl
  unfold pX4_findFault_104 at h
  refine lv_istore_n (lv' := [(2, .int s0), (0, .ref v0)]) hx hb dX4_findFault_104 rfl hl (by decide) rfl (fun ls hl => ?_)
  refine lv_aload_n hx hb dX4_findFault_105 rfl (lv_at hl 1 rfl) ?_
  refine lv_aload_n hx hb dX4_findFault_106 rfl (lv_at hl 1 rfl) ?_
  refine lv_aload_n hx hb dX4_findFault_107 rfl (lv_at hl 1 rfl) ?_
  refine zr_gi (C := RX4) (T := TX4) (N := 5) (ci := 7) (k := 3) S hK hw zi_X4 rfl (by decide) zu_275 dX4_findFault_108 h (fun end_17 h => ?_)
  refine lv_iconst (v := (1 : Int32)) hx hb dX4_findFault_111 (by decide) ?_
  refine lv_iadd hx hb dX4_findFault_112 ?_
  refine lv_iload_n hx hb dX4_findFault_113 rfl (lv_at hl 0 rfl) ?_
  obtain ⟨ho, h⟩ := h
  refine zr_Vi (As := [.int (end_17 + (1 : Int32)), .int s0]) (rest := [.ref v0]) S hK hw (kX4_endOfFigures l lo g M v0 (end_17 + (1 : Int32)) s0 _ h) (cwV 2 hts (zg_V zu_271 zu_272 zu_273 zu_264 zu_274) rfl rfl rfl (by decide +kernel) ⟨Nat.le_of_ble_eq_true rfl, Nat.le_of_ble_eq_true rfl⟩) (ci := 7) rfl ho rfl hl.1 rfl (Nat.le_of_ble_eq_true rfl) dX4_findFault_114 ⟨Nat.le_of_ble_eq_true rfl, Nat.le_of_ble_eq_true rfl⟩ (fun r19 M18 H locs hw h => ?_)
  refine zr_p (C := RX4) (T := TX4) (N := 5) (ci := 7) (k := 4) S hK hw zi_X4 tyX4 tyX4_ok nmX4 rfl (by decide) zu_276 rfl rfl rfl dX4_findFault_117 h (fun M20 H locs hw h => ?_)
  refine lv_aload_n hx hb dX4_findFault_120 rfl (lv_at hl 1 rfl) ?_
  refine zr_gi (C := RX4) (T := TX4) (N := 5) (ci := 7) (k := 4) S hK hw zi_X4 rfl (by decide) zu_276 dX4_findFault_121 h (fun lastEnd_21 h => ?_)
  refine lv_aload_n hx hb dX4_findFault_124 rfl (lv_at hl 1 rfl) ?_
  refine zr_gi (C := RX4) (T := TX4) (N := 5) (ci := 7) (k := 3) S hK hw zi_X4 rfl (by decide) zu_275 dX4_findFault_125 h (fun end_22 h => ?_)
  refine lv_iconst (v := (1 : Int32)) hx hb dX4_findFault_128 (by decide) ?_
  refine lv_iadd hx hb dX4_findFault_129 ?_
  refine lv_icmp_ne (tgt := 138) hx hb dX4_findFault_130 (by decide) (fun hc => ?_) (fun hc => ?_)
  · have h := h.1 hc
    exact sX4_findFault_138 S hr hlocks hK  v0 _ h _ _ _ hw (lv_sub hl [1] rfl)
  · have h := h.2 hc
    refine lv_aload_n hx hb dX4_findFault_133 rfl (lv_at hl 1 rfl) ?_
    refine zr_gi (C := RX4) (T := TX4) (N := 5) (ci := 7) (k := 4) S hK hw zi_X4 rfl (by decide) zu_276 dX4_findFault_134 h (fun lastEnd_26 h => ?_)
    exact zr_ri S hr hlocks hw h dX4_findFault_137
set_option maxHeartbeats 4000000 in
set_option maxRecDepth 100000 in
theorem sX4_findFault_79 {p : Program} {l : Launch} {e : Env} {s : State} {m : MethodId} {args : Array Value} {below : List Frame} {meth : Method} {c : Code} {lo : Nat} {g : zg} {post : Int32 → zm_M → Prop}  (S : CallFix p m c cX4_findFault 3 s args zU RX4) (hr : meth.sig.returnType = (some .int)) (hlocks : meth.locks = false) (hK : zk_K zNF zNM g s)  : ∀ (v0 : Nat) (v1 : Int32) (M : zm_M), pX4_findFault_79 g.2 post  v0 v1 M → ∀ (H : Heap) (locs : List Loc) (ls : Array Slot), zW lo g s H locs M → lv_has ls 3 [(0, .ref v0), (1, .int v1)] → W p l e ({ frames := 4, cells := 0, slots := 0, locals := 105 } : Room) s m args below meth c H locs 0 0 (MQ below (va_Qi post (zc_B lo g) (zA lo)) args s 0 0 (zA lo)) (F0 m 79 ls []) := by
  obtain ⟨hx, hb, hml, hown, hts⟩ := id S
  intro v0 v1 M h H locs ls hw hl
  unfold pX4_findFault_79 at h
  refine lv_iload_n hx hb dX4_findFault_79 rfl (lv_at hl 1 rfl) ?_
  refine lv_bipush (v := (47 : Int32)) hx hb dX4_findFault_80 (by decide) ?_
  refine lv_icmp_ne (tgt := 91) hx hb dX4_findFault_82 (by decide) (fun hc => ?_) (fun hc => ?_)
  · have h := h.1 hc
    refine lv_sipush (v := (160 : Int32)) hx hb dX4_findFault_91 (by decide) ?_
    refine lv_aload_n hx hb dX4_findFault_94 rfl (lv_at hl 0 rfl) ?_
    refine zr_gi (C := RX4) (T := TX4) (N := 5) (ci := 7) (k := 3) S hK hw zi_X4 rfl (by decide) zu_275 dX4_findFault_95 h (fun end_15 h => ?_)
    refine lv_aload_n hx hb dX4_findFault_98 rfl (lv_at hl 0 rfl) ?_
    refine zr_gi (C := RX4) (T := TX4) (N := 5) (ci := 7) (k := 2) S hK hw zi_X4 rfl (by decide) zu_270 dX4_findFault_99 h (fun start_16 h => ?_)
    refine lv_isub hx hb dX4_findFault_102 ?_
    refine lv_isub hx hb dX4_findFault_103 ?_
    exact sX4_findFault_104 S hr hlocks hK  v0 ((160 : Int32) - (end_15 - start_16)) _ h _ _ _ hw (lv_sub hl [0] rfl)
  · have h := h.2 hc
    refine lv_sipush (v := (160 : Int32)) hx hb dX4_findFault_85 (by decide) ?_
    refine lv_goto (tgt := 104) hx hb dX4_findFault_88 (by decide) ?_
    exact sX4_findFault_104 S hr hlocks hK  v0 (160 : Int32) _ h _ _ _ hw (lv_sub hl [0] rfl)
set_option maxHeartbeats 4000000 in
set_option maxRecDepth 100000 in
theorem sX4_findFault_16 {p : Program} {l : Launch} {e : Env} {s : State} {m : MethodId} {args : Array Value} {below : List Frame} {meth : Method} {c : Code} {lo : Nat} {g : zg} {post : Int32 → zm_M → Prop}  (S : CallFix p m c cX4_findFault 3 s args zU RX4) (hr : meth.sig.returnType = (some .int)) (hlocks : meth.locks = false) (hK : zk_K zNF zNM g s)  : ∀ (v0 : Nat) (s0 : Nat) (s1 : Int32) (M : zm_M), pX4_findFault_16 g.2 post  v0 s0 s1 M → ∀ (H : Heap) (locs : List Loc) (ls : Array Slot), zW lo g s H locs M → lv_has ls 3 [(0, .ref v0)] → W p l e ({ frames := 4, cells := 0, slots := 0, locals := 105 } : Room) s m args below meth c H locs 0 0 (MQ below (va_Qi post (zc_B lo g) (zA lo)) args s 0 0 (zA lo)) (F0 m 16 ls [.int s1, .ref s0]) := by
  obtain ⟨hx, hb, hml, hown, hts⟩ := id S
  intro v0 s0 s1 M h H locs ls hw hl
  unfold pX4_findFault_16 at h
  refine zr_p (C := RX4) (T := TX4) (N := 5) (ci := 7) (k := 2) S hK hw zi_X4 tyX4 tyX4_ok nmX4 rfl (by decide) zu_270 rfl rfl rfl dX4_findFault_16 h (fun M3 H locs hw h => ?_)
  refine lv_aload_n hx hb dX4_findFault_19 rfl (lv_at hl 0 rfl) ?_
  refine lv_aload_n hx hb dX4_findFault_20 rfl (lv_at hl 0 rfl) ?_
  refine lv_aload_n hx hb dX4_findFault_21 rfl (lv_at hl 0 rfl) ?_
  refine zr_gi (C := RX4) (T := TX4) (N := 5) (ci := 7) (k := 2) S hK hw zi_X4 rfl (by decide) zu_270 dX4_findFault_22 h (fun start_4 h => ?_)
  refine lv_sipush (v := (160 : Int32)) hx hb dX4_findFault_25 (by decide) ?_
  obtain ⟨ho, h⟩ := h
  refine zr_Vi (As := [.int start_4, .int (160 : Int32)]) (rest := [.ref v0]) S hK hw (kX4_endOfFigures l lo g M3 v0 start_4 (160 : Int32) _ h) (cwV 2 hts (zg_V zu_271 zu_272 zu_273 zu_264 zu_274) rfl rfl rfl (by decide +kernel) ⟨Nat.le_of_ble_eq_true rfl, Nat.le_of_ble_eq_true rfl⟩) (ci := 7) rfl ho rfl hl.1 rfl (Nat.le_of_ble_eq_true rfl) dX4_findFault_28 ⟨Nat.le_of_ble_eq_true rfl, Nat.le_of_ble_eq_true rfl⟩ (fun r6 M5 H locs hw h => ?_)
  refine zr_p (C := RX4) (T := TX4) (N := 5) (ci := 7) (k := 3) S hK hw zi_X4 tyX4 tyX4_ok nmX4 rfl (by decide) zu_275 rfl rfl rfl dX4_findFault_31 h (fun M7 H locs hw h => ?_)
  refine lv_aload_n hx hb dX4_findFault_34 rfl (lv_at hl 0 rfl) ?_
  refine lv_aload_n hx hb dX4_findFault_35 rfl (lv_at hl 0 rfl) ?_
  refine zr_gi (C := RX4) (T := TX4) (N := 5) (ci := 7) (k := 3) S hK hw zi_X4 rfl (by decide) zu_275 dX4_findFault_36 h (fun end_8 h => ?_)
  refine zr_p (C := RX4) (T := TX4) (N := 5) (ci := 7) (k := 4) S hK hw zi_X4 tyX4 tyX4_ok nmX4 rfl (by decide) zu_276 rfl rfl rfl dX4_findFault_39 h (fun M9 H locs hw h => ?_)
  refine lv_aload_n hx hb dX4_findFault_42 rfl (lv_at hl 0 rfl) ?_
  refine zr_gi (C := RX4) (T := TX4) (N := 5) (ci := 7) (k := 3) S hK hw zi_X4 rfl (by decide) zu_275 dX4_findFault_43 h (fun end_10 h => ?_)
  refine lv_aload_n hx hb dX4_findFault_46 rfl (lv_at hl 0 rfl) ?_
  refine zr_gi (C := RX4) (T := TX4) (N := 5) (ci := 7) (k := 2) S hK hw zi_X4 rfl (by decide) zu_270 dX4_findFault_47 h (fun start_11 h => ?_)
  refine lv_icmp_ne (tgt := 58) hx hb dX4_findFault_50 (by decide) (fun hc => ?_) (fun hc => ?_)
  · have h := h.1 hc
    refine lv_aload_n hx hb dX4_findFault_58 rfl (lv_at hl 0 rfl) ?_
    refine lv_aload_n hx hb dX4_findFault_59 rfl (lv_at hl 0 rfl) ?_
    refine zr_gi (C := RX4) (T := TX4) (N := 5) (ci := 7) (k := 3) S hK hw zi_X4 rfl (by decide) zu_275 dX4_findFault_60 h (fun end_12 h => ?_)
    obtain ⟨ho, h⟩ := h
    refine zr_Vi (As := [.int end_12]) (rest := []) S hK hw (kX4_at l lo g M9 v0 end_12 _ h) (cwV 1 hts (zg_V zu_261 zu_262 zu_263 zu_264 zu_265) rfl rfl rfl (by decide +kernel) ⟨Nat.le_of_ble_eq_true rfl, Nat.le_of_ble_eq_true rfl⟩) (ci := 7) rfl ho rfl hl.1 rfl (Nat.le_of_ble_eq_true rfl) dX4_findFault_63 ⟨Nat.le_of_ble_eq_true rfl, Nat.le_of_ble_eq_true rfl⟩ (fun r14 M13 H locs hw h => ?_)
    refine lv_istore_n (lv' := [(1, .int r14), (0, .ref v0)]) hx hb dX4_findFault_66 rfl hl (by decide) rfl (fun ls hl => ?_)
    refine lv_iload_n hx hb dX4_findFault_67 rfl (lv_at hl 0 rfl) ?_
    refine lv_bipush (v := (47 : Int32)) hx hb dX4_findFault_68 (by decide) ?_
    refine lv_icmp_eq (tgt := 79) hx hb dX4_findFault_70 (by decide) (fun hc => ?_) (fun hc => ?_)
    · have h := h.1 hc
      exact sX4_findFault_79 S hr hlocks hK  v0 r14 _ h _ _ _ hw (lv_sub hl [1, 0] rfl)
    · have h := h.2 hc
      refine lv_iload_n hx hb dX4_findFault_73 rfl (lv_at hl 0 rfl) ?_
      refine lv_bipush (v := (46 : Int32)) hx hb dX4_findFault_74 (by decide) ?_
      refine lv_icmp_ne (tgt := 138) hx hb dX4_findFault_76 (by decide) (fun hc => ?_) (fun hc => ?_)
      · have h := h.1 hc
        exact sX4_findFault_138 S hr hlocks hK  v0 _ h _ _ _ hw (lv_sub hl [1] rfl)
      · have h := h.2 hc
        exact sX4_findFault_79 S hr hlocks hK  v0 r14 _ h _ _ _ hw (lv_sub hl [1, 0] rfl)
  · have h := h.2 hc
    refine lv_aload_n hx hb dX4_findFault_53 rfl (lv_at hl 0 rfl) ?_
    refine zr_gi (C := RX4) (T := TX4) (N := 5) (ci := 7) (k := 2) S hK hw zi_X4 rfl (by decide) zu_270 dX4_findFault_54 h (fun start_27 h => ?_)
    exact zr_ri S hr hlocks hw h dX4_findFault_57
set_option maxHeartbeats 4000000 in
set_option maxRecDepth 100000 in
theorem kX4_findFault (l : Launch) (lo : Nat) (g : zg) (M : zm_M) (a0 : Nat) (post : Int32 → zm_M → Prop) (h : pX4_findFault g.2 a0 post M) : Met l yX4_findFault (Cond.code yX4_findFault cX4_findFault 3 (some .int) :: zU) (({ frames := 4, cells := 0, slots := 0, locals := 105 } : Room)) (zc_P zNF zNM lo g M [.ref a0]) (va_Qi post (zc_B lo g) (zA lo)) 0 0 (zA lo) := by
  refine Met.ofW (cc := cX4_findFault) (maxL := 3) (ret := (some .int)) (by decide) rfl ?_
  intro p e s m args below meth c s₁ B hml hv
  obtain ⟨rfl, hR, hK⟩ := hv
  have hts := atoms_spec (ws := Cond.code yX4_findFault cX4_findFault 3 (some .int) :: zU) B.pre
  have hts : ∀ w ∈ zU, w.before _ s = true := fun w hw => hts w (List.mem_cons_of_mem _ hw)
  have hown : s.vm.findClass RX4 = some m.cls := findClass_of_methodNamed B.named
  have hx := B.exec
  have hb := B.bytes
  have hr := B.returns
  have hlocks := B.notSynchronized
  have S : CallFix p m c cX4_findFault 3 s ([.ref a0] : List Value).toArray zU RX4 := ⟨hx, hb, hml, hown, hts⟩
  have hw : zW lo g s s.heap [] M := ⟨hR, va_S.rf⟩
  have hl := lv_entry ([.ref a0]) (n := 3) (Nat.le_of_ble_eq_true rfl)
  rw [lg_entry_eq]
  generalize (lg_sl ([.ref a0]) ++ List.replicate (3 - (lg_sl ([.ref a0])).length) Slot.unset).toArray = ls at hl ⊢
  have hl : lv_has ls 3 [(0, .ref a0)] := hl
  unfold pX4_findFault at h
  refine lv_aload_n hx hb dX4_findFault_0 rfl (lv_at hl 0 rfl) ?_
  refine lv_aload_n hx hb dX4_findFault_1 rfl (lv_at hl 0 rfl) ?_
  refine lv_iconst (v := (0 : Int32)) hx hb dX4_findFault_2 (by decide) ?_
  obtain ⟨ho, h⟩ := h
  refine zr_Vi (As := [.int (0 : Int32)]) (rest := [.ref a0]) S hK hw (kX4_at l lo g M a0 (0 : Int32) _ h) (cwV 1 hts (zg_V zu_261 zu_262 zu_263 zu_264 zu_265) rfl rfl rfl (by decide +kernel) ⟨Nat.le_of_ble_eq_true rfl, Nat.le_of_ble_eq_true rfl⟩) (ci := 7) rfl ho rfl hl.1 rfl (Nat.le_of_ble_eq_true rfl) dX4_findFault_3 ⟨Nat.le_of_ble_eq_true rfl, Nat.le_of_ble_eq_true rfl⟩ (fun r2 M1 H locs hw h => ?_)
  refine lv_bipush (v := (45 : Int32)) hx hb dX4_findFault_6 (by decide) ?_
  refine lv_icmp_ne (tgt := 15) hx hb dX4_findFault_8 (by decide) (fun hc => ?_) (fun hc => ?_)
  · have h := h.1 hc
    refine lv_iconst (v := (0 : Int32)) hx hb dX4_findFault_15 (by decide) ?_
    exact sX4_findFault_16 S hr hlocks hK  a0 a0 (0 : Int32) _ h _ _ _ hw (lv_sub hl [0] rfl)
  · have h := h.2 hc
    refine lv_iconst (v := (1 : Int32)) hx hb dX4_findFault_11 (by decide) ?_
    refine lv_goto (tgt := 16) hx hb dX4_findFault_12 (by decide) ?_
    exact sX4_findFault_16 S hr hlocks hK  a0 a0 (1 : Int32) _ h _ _ _ hw (lv_sub hl [0] rfl)
set_option maxHeartbeats 4000000 in
set_option maxRecDepth 100000 in
theorem sX4_addFigures_3 {p : Program} {l : Launch} {e : Env} {s : State} {m : MethodId} {args : Array Value} {below : List Frame} {meth : Method} {c : Code} {lo : Nat} {g : zg} {post : zm_M → Prop}  (S : CallFix p m c cX4_addFigures 5 s args zU RX4) (hr : meth.sig.returnType = none) (hlocks : meth.locks = false) (hK : zk_K zNF zNM g s)  : ∀ (n : Nat) (v0 : Nat) (v1 : Nat) (v3 : Int32) (v4 : Int32) (M : zm_M), pX4_addFigures_3 g.2 post  n v0 v1 v3 v4 M → ∀ (H : Heap) (locs : List Loc) (ls : Array Slot), zW lo g s H locs M → lv_has ls 5 [(0, .ref v0), (1, .ref v1), (3, .int v3), (4, .int v4)] → W p l e ({ frames := 3, cells := 0, slots := 0, locals := 91 } : Room) s m args below meth c H locs 0 0 (MQ below (va_Qv post (zc_B lo g) (zA lo)) args s 0 0 (zA lo)) (F0 m 3 ls []) := by
  obtain ⟨hx, hb, hml, hown, hts⟩ := id S
  intro n
  induction n with
  | zero =>
    intro v0 v1 v3 v4 M h
    exact False.elim h
  | succ n3 ih =>
    intro v0 v1 v3 v4 M h H locs ls hw hl
    rw [pX4_addFigures_3] at h
    refine lv_iload hx hb dX4_addFigures_3 (lv_at hl 3 rfl) ?_
    refine lv_iload_n hx hb dX4_addFigures_5 rfl (lv_at hl 2 rfl) ?_
    refine lv_icmp_ge (tgt := 30) hx hb dX4_addFigures_6 (by decide) (fun hc => ?_) (fun hc => ?_)
    · have h := h.1 hc
      exact zr_rv S hr hlocks hw h dX4_addFigures_30
    · have h := h.2 hc
      refine lv_aload_n hx hb dX4_addFigures_9 rfl (lv_at hl 1 rfl) ?_
      refine lv_bipush (v := (10 : Int32)) hx hb dX4_addFigures_10 (by decide) ?_
      refine lv_aload_n hx hb dX4_addFigures_12 rfl (lv_at hl 0 rfl) ?_
      refine lv_iload hx hb dX4_addFigures_13 (lv_at hl 3 rfl) ?_
      obtain ⟨ho, h⟩ := h
      refine zr_Vi (As := [.int v4]) (rest := [.int (10 : Int32), .ref v1]) S hK hw (kX4_at l lo g M v0 v4 _ h) (cwV 1 hts (zg_V zu_261 zu_262 zu_263 zu_264 zu_265) rfl rfl rfl (by decide +kernel) ⟨Nat.le_of_ble_eq_true rfl, Nat.le_of_ble_eq_true rfl⟩) (ci := 7) rfl ho rfl hl.1 rfl (Nat.le_of_ble_eq_true rfl) dX4_addFigures_15 ⟨Nat.le_of_ble_eq_true rfl, Nat.le_of_ble_eq_true rfl⟩ (fun r2 M1 H locs hw h => ?_)
      refine lv_bipush (v := (48 : Int32)) hx hb dX4_addFigures_18 (by decide) ?_
      refine lv_isub hx hb dX4_addFigures_20 ?_
      obtain ⟨ho, h⟩ := h
      refine zr_Vv (As := [.int (10 : Int32), .int (r2 - (48 : Int32))]) (rest := []) S hK hw (kX5_timesPlus l lo g M1 v1 (10 : Int32) (r2 - (48 : Int32)) _ h) (cwV 2 hts (zg_V zu_277 zu_151 zu_152 zu_12 zu_153) rfl rfl rfl (by decide +kernel) ⟨Nat.le_of_ble_eq_true rfl, Nat.le_of_ble_eq_true rfl⟩) (ci := 8) rfl ho rfl hl.1 rfl (Nat.le_of_ble_eq_true rfl) dX4_addFigures_21 ⟨Nat.le_of_ble_eq_true rfl, Nat.le_of_ble_eq_true rfl⟩ (fun M3 H locs hw h => ?_)
      obtain ⟨x4, ex4⟩ : ∃ z : Int32, z = v4 + (1 : Int32) := ⟨_, rfl⟩
      have h := h x4 ex4
      refine lv_iinc (v := x4) (lv' := [(4, .int x4), (0, .ref v0), (1, .ref v1), (3, .int v3)]) hx hb dX4_addFigures_24 hl (k := 3) rfl (by rw [ex4]; rfl) (by decide) rfl (fun ls hl => ?_)
      refine lv_goto (tgt := 3) hx hb dX4_addFigures_27 (by decide) ?_
      exact ih v0 v1 v3 x4 _ h _ _ _ hw (lv_sub hl [1, 2, 3, 0] rfl)
set_option maxHeartbeats 4000000 in
set_option maxRecDepth 100000 in
theorem kX4_addFigures (l : Launch) (lo : Nat) (g : zg) (M : zm_M) (a0 : Nat) (a1 : Nat) (a2 : Int32) (a3 : Int32) (post : zm_M → Prop) (h : pX4_addFigures g.2 a0 a1 a2 a3 post M) : Met l yX4_addFigures (Cond.code yX4_addFigures cX4_addFigures 5 none :: zU) (({ frames := 3, cells := 0, slots := 0, locals := 91 } : Room)) (zc_P zNF zNM lo g M [.ref a0, .ref a1, .int a2, .int a3]) (va_Qv post (zc_B lo g) (zA lo)) 0 0 (zA lo) := by
  refine Met.ofW (cc := cX4_addFigures) (maxL := 5) (ret := none) (by decide) rfl ?_
  intro p e s m args below meth c s₁ B hml hv
  obtain ⟨rfl, hR, hK⟩ := hv
  have hts := atoms_spec (ws := Cond.code yX4_addFigures cX4_addFigures 5 none :: zU) B.pre
  have hts : ∀ w ∈ zU, w.before _ s = true := fun w hw => hts w (List.mem_cons_of_mem _ hw)
  have hown : s.vm.findClass RX4 = some m.cls := findClass_of_methodNamed B.named
  have hx := B.exec
  have hb := B.bytes
  have hr := B.returns
  have hlocks := B.notSynchronized
  have S : CallFix p m c cX4_addFigures 5 s ([.ref a0, .ref a1, .int a2, .int a3] : List Value).toArray zU RX4 := ⟨hx, hb, hml, hown, hts⟩
  have hw : zW lo g s s.heap [] M := ⟨hR, va_S.rf⟩
  have hl := lv_entry ([.ref a0, .ref a1, .int a2, .int a3]) (n := 5) (Nat.le_of_ble_eq_true rfl)
  rw [lg_entry_eq]
  generalize (lg_sl ([.ref a0, .ref a1, .int a2, .int a3]) ++ List.replicate (5 - (lg_sl ([.ref a0, .ref a1, .int a2, .int a3])).length) Slot.unset).toArray = ls at hl ⊢
  have hl : lv_has ls 5 [(0, .ref a0), (1, .ref a1), (2, .int a2), (3, .int a3)] := hl
  unfold pX4_addFigures at h
  refine lv_iload_n hx hb dX4_addFigures_0 rfl (lv_at hl 2 rfl) ?_
  refine lv_istore (lv' := [(4, .int a2), (0, .ref a0), (1, .ref a1), (2, .int a2), (3, .int a3)]) hx hb dX4_addFigures_1 hl (by decide) rfl (fun ls hl => ?_)
  obtain ⟨n3, h⟩ := h
  refine sX4_addFigures_3 S hr hlocks hK  n3 a0 a1 a3 a2 _ h _ _ _ hw (lv_sub hl [1, 2, 4, 0] rfl)
set_option maxHeartbeats 4000000 in
set_option maxRecDepth 100000 in
theorem sX4_tell_108 {p : Program} {l : Launch} {e : Env} {s : State} {m : MethodId} {args : Array Value} {below : List Frame} {meth : Method} {c : Code} {lo : Nat} {g : zg} {post : zm_M → Prop}  (S : CallFix p m c cX4_tell 4 s args zU RX4) (hr : meth.sig.returnType = none) (hlocks : meth.locks = false) (hK : zk_K zNF zNM g s)  : ∀ (n : Nat) (v0 : Nat) (v1 : Nat) (v3 : Int32) (M : zm_M), pX4_tell_108 g.2 post  n v0 v1 v3 M → ∀ (H : Heap) (locs : List Loc) (ls : Array Slot), zW lo g s H locs M → lv_has ls 4 [(0, .ref v0), (1, .ref v1), (3, .int v3)] → W p l e ({ frames := 4, cells := 0, slots := 0, locals := 115 } : Room) s m args below meth c H locs 0 0 (MQ below (va_Qv post (zc_B lo g) (zA lo)) args s 0 0 (zA lo)) (F0 m 108 ls []) := by
  obtain ⟨hx, hb, hml, hown, hts⟩ := id S
  intro n
  induction n with
  | zero =>
    intro v0 v1 v3 M h
    exact False.elim h
  | succ n108 ih =>
    intro v0 v1 v3 M h H locs ls hw hl
    rw [pX4_tell_108] at h
    refine lv_iload_n hx hb dX4_tell_108 rfl (lv_at hl 2 rfl) ?_
    refine lv_aload_n hx hb dX4_tell_109 rfl (lv_at hl 0 rfl) ?_
    refine zr_gi (C := RX4) (T := TX4) (N := 5) (ci := 7) (k := 4) S hK hw zi_X4 rfl (by decide) zu_276 dX4_tell_110 h (fun lastEnd_16 h => ?_)
    refine lv_icmp_ge (tgt := 132) hx hb dX4_tell_113 (by decide) (fun hc => ?_) (fun hc => ?_)
    · have h := h.1 hc
      exact zr_rv S hr hlocks hw h dX4_tell_132
    · have h := h.2 hc
      refine lv_aload_n hx hb dX4_tell_116 rfl (lv_at hl 1 rfl) ?_
      refine zr_gaN (C := RX2) (T := TX2) (N := 3) (ci := 5) (k := 2) (host := "LeastTerms") S hK hw zi_X2 rfl (by decide) (by decide +kernel) dX4_tell_117 h (fun bottom_17 h => ?_)
      refine lv_bipush (v := (10 : Int32)) hx hb dX4_tell_120 (by decide) ?_
      refine lv_iconst (v := (0 : Int32)) hx hb dX4_tell_122 (by decide) ?_
      obtain ⟨ho, h⟩ := h
      refine zr_Vv (As := [.int (10 : Int32), .int (0 : Int32)]) (rest := []) S hK hw (kX5_timesPlus l lo g M bottom_17 (10 : Int32) (0 : Int32) _ h) (cwV 2 hts (zg_V zu_277 zu_151 zu_152 zu_12 zu_153) rfl rfl rfl (by decide +kernel) ⟨Nat.le_of_ble_eq_true rfl, Nat.le_of_ble_eq_true rfl⟩) (ci := 8) rfl ho rfl hl.1 rfl (Nat.le_of_ble_eq_true rfl) dX4_tell_123 ⟨Nat.le_of_ble_eq_true rfl, Nat.le_of_ble_eq_true rfl⟩ (fun M18 H locs hw h => ?_)
      obtain ⟨x19, ex19⟩ : ∃ z : Int32, z = v3 + (1 : Int32) := ⟨_, rfl⟩
      have h := h x19 ex19
      refine lv_iinc (v := x19) (lv' := [(3, .int x19), (0, .ref v0), (1, .ref v1)]) hx hb dX4_tell_126 hl (k := 2) rfl (by rw [ex19]; rfl) (by decide) rfl (fun ls hl => ?_)
      refine lv_goto (tgt := 108) hx hb dX4_tell_129 (by decide) ?_
      exact ih v0 v1 x19 _ h _ _ _ hw (lv_sub hl [1, 2, 0] rfl)
set_option maxHeartbeats 4000000 in
set_option maxRecDepth 100000 in
theorem sX4_tell_14 {p : Program} {l : Launch} {e : Env} {s : State} {m : MethodId} {args : Array Value} {below : List Frame} {meth : Method} {c : Code} {lo : Nat} {g : zg} {post : zm_M → Prop}  (S : CallFix p m c cX4_tell 4 s args zU RX4) (hr : meth.sig.returnType = none) (hlocks : meth.locks = false) (hK : zk_K zNF zNM g s)  : ∀ (v0 : Nat) (v1 : Nat) (s0 : Nat) (s1 : Int32) (M : zm_M), pX4_tell_14 g.2 post  v0 v1 s0 s1 M → ∀ (H : Heap) (locs : List Loc) (ls : Array Slot), zW lo g s H locs M → lv_has ls 4 [(0, .ref v0), (1, .ref v1)] → W p l e ({ frames := 4, cells := 0, slots := 0, locals := 115 } : Room) s m args below meth c H locs 0 0 (MQ below (va_Qv post (zc_B lo g) (zA lo)) args s 0 0 (zA lo)) (F0 m 14 ls [.int s1, .ref s0]) := by
  obtain ⟨hx, hb, hml, hown, hts⟩ := id S
  intro v0 v1 s0 s1 M h H locs ls hw hl
  unfold pX4_tell_14 at h
  refine lv_lconst (v := (0 : Int64)) hx hb dX4_tell_14 (by decide) ?_
  obtain ⟨ho, h⟩ := h
  refine zr_Vv (As := [.int s1, .long (0 : Int64)]) (rest := []) S hK hw (kX2_become l lo g M s0 s1 (0 : Int64) _ h) (cwV 2 hts (zg_V zu_278 zu_97 zu_98 zu_99 zu_100) rfl rfl rfl (by decide +kernel) ⟨Nat.le_of_ble_eq_true rfl, Nat.le_of_ble_eq_true rfl⟩) (ci := 5) rfl ho rfl hl.1 rfl (Nat.le_of_ble_eq_true rfl) dX4_tell_15 ⟨Nat.le_of_ble_eq_true rfl, Nat.le_of_ble_eq_true rfl⟩ (fun M2 H locs hw h => ?_)
  refine lv_aload_n hx hb dX4_tell_18 rfl (lv_at hl 0 rfl) ?_
  refine lv_aload_n hx hb dX4_tell_19 rfl (lv_at hl 1 rfl) ?_
  refine zr_gaN (C := RX2) (T := TX2) (N := 3) (ci := 5) (k := 1) (host := "LeastTerms") S hK hw zi_X2 rfl (by decide) (by decide +kernel) dX4_tell_20 h (fun top_3 h => ?_)
  refine lv_aload_n hx hb dX4_tell_23 rfl (lv_at hl 0 rfl) ?_
  refine zr_gi (C := RX4) (T := TX4) (N := 5) (ci := 7) (k := 2) S hK hw zi_X4 rfl (by decide) zu_270 dX4_tell_24 h (fun start_4 h => ?_)
  refine lv_aload_n hx hb dX4_tell_27 rfl (lv_at hl 0 rfl) ?_
  refine zr_gi (C := RX4) (T := TX4) (N := 5) (ci := 7) (k := 3) S hK hw zi_X4 rfl (by decide) zu_275 dX4_tell_28 h (fun end_5 h => ?_)
  obtain ⟨ho, h⟩ := h
  refine zr_Vv (As := [.ref top_3, .int start_4, .int end_5]) (rest := []) S hK hw (kX4_addFigures l lo g M2 v0 top_3 start_4 end_5 _ h) (cwV 3 hts (zg_V zu_279 zu_280 zu_281 zu_264 zu_282) rfl rfl rfl (by decide +kernel) ⟨Nat.le_of_ble_eq_true rfl, Nat.le_of_ble_eq_true rfl⟩) (ci := 7) rfl ho rfl hl.1 rfl (Nat.le_of_ble_eq_true rfl) dX4_tell_31 ⟨Nat.le_of_ble_eq_true rfl, Nat.le_of_ble_eq_true rfl⟩ (fun M6 H locs hw h => ?_)
  refine lv_aload_n hx hb dX4_tell_34 rfl (lv_at hl 0 rfl) ?_
  refine lv_aload_n hx hb dX4_tell_35 rfl (lv_at hl 0 rfl) ?_
  refine zr_gi (C := RX4) (T := TX4) (N := 5) (ci := 7) (k := 3) S hK hw zi_X4 rfl (by decide) zu_275 dX4_tell_36 h (fun end_7 h => ?_)
  obtain ⟨ho, h⟩ := h
  refine zr_Vi (As := [.int end_7]) (rest := []) S hK hw (kX4_at l lo g M6 v0 end_7 _ h) (cwV 1 hts (zg_V zu_261 zu_262 zu_263 zu_264 zu_265) rfl rfl rfl (by decide +kernel) ⟨Nat.le_of_ble_eq_true rfl, Nat.le_of_ble_eq_true rfl⟩) (ci := 7) rfl ho rfl hl.1 rfl (Nat.le_of_ble_eq_true rfl) dX4_tell_39 ⟨Nat.le_of_ble_eq_true rfl, Nat.le_of_ble_eq_true rfl⟩ (fun r9 M8 H locs hw h => ?_)
  refine lv_istore_n (lv' := [(2, .int r9), (0, .ref v0), (1, .ref v1)]) hx hb dX4_tell_42 rfl hl (by decide) rfl (fun ls hl => ?_)
  refine lv_iload_n hx hb dX4_tell_43 rfl (lv_at hl 0 rfl) ?_
  refine lv_bipush (v := (47 : Int32)) hx hb dX4_tell_44 (by decide) ?_
  refine lv_icmp_ne (tgt := 77) hx hb dX4_tell_46 (by decide) (fun hc => ?_) (fun hc => ?_)
  · have h := h.1 hc
    refine lv_iload_n hx hb dX4_tell_77 rfl (lv_at hl 0 rfl) ?_
    refine lv_bipush (v := (46 : Int32)) hx hb dX4_tell_78 (by decide) ?_
    refine lv_icmp_ne (tgt := 132) hx hb dX4_tell_80 (by decide) (fun hc => ?_) (fun hc => ?_)
    · have h := h.1 hc
      exact zr_rv S hr hlocks hw h dX4_tell_132
    · have h := h.2 hc
      refine lv_aload_n hx hb dX4_tell_83 rfl (lv_at hl 1 rfl) ?_
      refine lv_aload_n hx hb dX4_tell_84 rfl (lv_at hl 2 rfl) ?_
      refine zr_gaN (C := RX2) (T := TX2) (N := 3) (ci := 5) (k := 1) (host := "LeastTerms") S hK hw zi_X2 rfl (by decide) (by decide +kernel) dX4_tell_85 h (fun top_10 h => ?_)
      refine lv_aload_n hx hb dX4_tell_88 rfl (lv_at hl 1 rfl) ?_
      refine zr_gi (C := RX4) (T := TX4) (N := 5) (ci := 7) (k := 3) S hK hw zi_X4 rfl (by decide) zu_275 dX4_tell_89 h (fun end_11 h => ?_)
      refine lv_iconst (v := (1 : Int32)) hx hb dX4_tell_92 (by decide) ?_
      refine lv_iadd hx hb dX4_tell_93 ?_
      refine lv_aload_n hx hb dX4_tell_94 rfl (lv_at hl 1 rfl) ?_
      refine zr_gi (C := RX4) (T := TX4) (N := 5) (ci := 7) (k := 4) S hK hw zi_X4 rfl (by decide) zu_276 dX4_tell_95 h (fun lastEnd_12 h => ?_)
      obtain ⟨ho, h⟩ := h
      refine zr_Vv (As := [.ref top_10, .int (end_11 + (1 : Int32)), .int lastEnd_12]) (rest := []) S hK hw (kX4_addFigures l lo g M8 v0 top_10 (end_11 + (1 : Int32)) lastEnd_12 _ h) (cwV 3 hts (zg_V zu_279 zu_280 zu_281 zu_264 zu_282) rfl rfl rfl (by decide +kernel) ⟨Nat.le_of_ble_eq_true rfl, Nat.le_of_ble_eq_true rfl⟩) (ci := 7) rfl ho rfl hl.1 rfl (Nat.le_of_ble_eq_true rfl) dX4_tell_98 ⟨Nat.le_of_ble_eq_true rfl, Nat.le_of_ble_eq_true rfl⟩ (fun M13 H locs hw h => ?_)
      refine lv_aload_n hx hb dX4_tell_101 rfl (lv_at hl 1 rfl) ?_
      refine zr_gi (C := RX4) (T := TX4) (N := 5) (ci := 7) (k := 3) S hK hw zi_X4 rfl (by decide) zu_275 dX4_tell_102 h (fun end_14 h => ?_)
      refine lv_iconst (v := (1 : Int32)) hx hb dX4_tell_105 (by decide) ?_
      refine lv_iadd hx hb dX4_tell_106 ?_
      refine lv_topi (fun x15 ex15 => ?_)
      have h := h x15 ex15
      refine lv_istore_n (lv' := [(3, .int x15), (2, .int r9), (0, .ref v0), (1, .ref v1)]) hx hb dX4_tell_107 rfl hl (by decide) rfl (fun ls hl => ?_)
      obtain ⟨n108, h⟩ := h
      refine sX4_tell_108 S hr hlocks hK  n108 v0 v1 x15 _ h _ _ _ hw (lv_sub hl [2, 3, 0] rfl)
  · have h := h.2 hc
    refine lv_aload_n hx hb dX4_tell_49 rfl (lv_at hl 2 rfl) ?_
    refine zr_gaN (C := RX2) (T := TX2) (N := 3) (ci := 5) (k := 2) (host := "LeastTerms") S hK hw zi_X2 rfl (by decide) (by decide +kernel) dX4_tell_50 h (fun bottom_20 h => ?_)
    obtain ⟨ho, h⟩ := h
    refine zr_Vv (As := []) (rest := []) S hK hw (kX5_clear l lo g M8 bottom_20  _ h) (cwV 0 hts (zg_V zu_283 zu_40 zu_41 zu_12 zu_42) rfl rfl rfl (by decide +kernel) ⟨Nat.le_of_ble_eq_true rfl, Nat.le_of_ble_eq_true rfl⟩) (ci := 8) rfl ho rfl hl.1 rfl (Nat.le_of_ble_eq_true rfl) dX4_tell_53 ⟨Nat.le_of_ble_eq_true rfl, Nat.le_of_ble_eq_true rfl⟩ (fun M21 H locs hw h => ?_)
    refine lv_aload_n hx hb dX4_tell_56 rfl (lv_at hl 1 rfl) ?_
    refine lv_aload_n hx hb dX4_tell_57 rfl (lv_at hl 2 rfl) ?_
    refine zr_gaN (C := RX2) (T := TX2) (N := 3) (ci := 5) (k := 2) (host := "LeastTerms") S hK hw zi_X2 rfl (by decide) (by decide +kernel) dX4_tell_58 h (fun bottom_22 h => ?_)
    refine lv_aload_n hx hb dX4_tell_61 rfl (lv_at hl 1 rfl) ?_
    refine zr_gi (C := RX4) (T := TX4) (N := 5) (ci := 7) (k := 3) S hK hw zi_X4 rfl (by decide) zu_275 dX4_tell_62 h (fun end_23 h => ?_)
    refine lv_iconst (v := (1 : Int32)) hx hb dX4_tell_65 (by decide) ?_
    refine lv_iadd hx hb dX4_tell_66 ?_
    refine lv_aload_n hx hb dX4_tell_67 rfl (lv_at hl 1 rfl) ?_
    refine zr_gi (C := RX4) (T := TX4) (N := 5) (ci := 7) (k := 4) S hK hw zi_X4 rfl (by decide) zu_276 dX4_tell_68 h (fun lastEnd_24 h => ?_)
    obtain ⟨ho, h⟩ := h
    refine zr_Vv (As := [.ref bottom_22, .int (end_23 + (1 : Int32)), .int lastEnd_24]) (rest := []) S hK hw (kX4_addFigures l lo g M21 v0 bottom_22 (end_23 + (1 : Int32)) lastEnd_24 _ h) (cwV 3 hts (zg_V zu_279 zu_280 zu_281 zu_264 zu_282) rfl rfl rfl (by decide +kernel) ⟨Nat.le_of_ble_eq_true rfl, Nat.le_of_ble_eq_true rfl⟩) (ci := 7) rfl ho rfl hl.1 rfl (Nat.le_of_ble_eq_true rfl) dX4_tell_71 ⟨Nat.le_of_ble_eq_true rfl, Nat.le_of_ble_eq_true rfl⟩ (fun M25 H locs hw h => ?_)
    refine lv_goto (tgt := 132) hx hb dX4_tell_74 (by decide) ?_
    exact zr_rv S hr hlocks hw h dX4_tell_132
set_option maxHeartbeats 4000000 in
set_option maxRecDepth 100000 in
theorem kX4_tell (l : Launch) (lo : Nat) (g : zg) (M : zm_M) (a0 : Nat) (a1 : Nat) (post : zm_M → Prop) (h : pX4_tell g.2 a0 a1 post M) : Met l yX4_tell (Cond.code yX4_tell cX4_tell 4 none :: zU) (({ frames := 4, cells := 0, slots := 0, locals := 115 } : Room)) (zc_P zNF zNM lo g M [.ref a0, .ref a1]) (va_Qv post (zc_B lo g) (zA lo)) 0 0 (zA lo) := by
  refine Met.ofW (cc := cX4_tell) (maxL := 4) (ret := none) (by decide) rfl ?_
  intro p e s m args below meth c s₁ B hml hv
  obtain ⟨rfl, hR, hK⟩ := hv
  have hts := atoms_spec (ws := Cond.code yX4_tell cX4_tell 4 none :: zU) B.pre
  have hts : ∀ w ∈ zU, w.before _ s = true := fun w hw => hts w (List.mem_cons_of_mem _ hw)
  have hown : s.vm.findClass RX4 = some m.cls := findClass_of_methodNamed B.named
  have hx := B.exec
  have hb := B.bytes
  have hr := B.returns
  have hlocks := B.notSynchronized
  have S : CallFix p m c cX4_tell 4 s ([.ref a0, .ref a1] : List Value).toArray zU RX4 := ⟨hx, hb, hml, hown, hts⟩
  have hw : zW lo g s s.heap [] M := ⟨hR, va_S.rf⟩
  have hl := lv_entry ([.ref a0, .ref a1]) (n := 4) (Nat.le_of_ble_eq_true rfl)
  rw [lg_entry_eq]
  generalize (lg_sl ([.ref a0, .ref a1]) ++ List.replicate (4 - (lg_sl ([.ref a0, .ref a1])).length) Slot.unset).toArray = ls at hl ⊢
  have hl : lv_has ls 4 [(0, .ref a0), (1, .ref a1)] := hl
  unfold pX4_tell at h
  refine lv_aload_n hx hb dX4_tell_0 rfl (lv_at hl 1 rfl) ?_
  refine lv_aload_n hx hb dX4_tell_1 rfl (lv_at hl 0 rfl) ?_
  refine zr_gi (C := RX4) (T := TX4) (N := 5) (ci := 7) (k := 2) S hK hw zi_X4 rfl (by decide) zu_270 dX4_tell_2 h (fun start_1 h => ?_)
  refine lv_iconst (v := (1 : Int32)) hx hb dX4_tell_5 (by decide) ?_
  refine lv_icmp_ne (tgt := 13) hx hb dX4_tell_6 (by decide) (fun hc => ?_) (fun hc => ?_)
  · have h := h.1 hc
    refine lv_iconst (v := (1 : Int32)) hx hb dX4_tell_13 (by decide) ?_
    exact sX4_tell_14 S hr hlocks hK  a0 a1 a1 (1 : Int32) _ h _ _ _ hw (lv_sub hl [0, 1] rfl)
  · have h := h.2 hc
    refine lv_iconst (v := (-1 : Int32)) hx hb dX4_tell_9 (by decide) ?_
    refine lv_goto (tgt := 14) hx hb dX4_tell_10 (by decide) ?_
    exact sX4_tell_14 S hr hlocks hK  a0 a1 a1 (-1 : Int32) _ h _ _ _ hw (lv_sub hl [0, 1] rfl)
set_option maxHeartbeats 4000000 in
set_option maxRecDepth 100000 in
theorem kX6_isFull (l : Launch) (lo : Nat) (g : zg) (M : zm_M) (a0 : Nat) (post : Int32 → zm_M → Prop) (h : pX6_isFull g.2 a0 post M) : Met l yX6_isFull (Cond.code yX6_isFull cX6_isFull 1 (some .boolean) :: zU) (({ frames := 1, cells := 0, slots := 0, locals := 40 } : Room)) (zc_P zNF zNM lo g M [.ref a0]) (va_Qi post (zc_B lo g) (zA lo)) 0 0 (zA lo) := by
  refine Met.ofW (cc := cX6_isFull) (maxL := 1) (ret := (some .boolean)) (by decide) rfl ?_
  intro p e s m args below meth c s₁ B hml hv
  obtain ⟨rfl, hR, hK⟩ := hv
  have hts := atoms_spec (ws := Cond.code yX6_isFull cX6_isFull 1 (some .boolean) :: zU) B.pre
  have hts : ∀ w ∈ zU, w.before _ s = true := fun w hw => hts w (List.mem_cons_of_mem _ hw)
  have hown : s.vm.findClass RX6 = some m.cls := findClass_of_methodNamed B.named
  have hx := B.exec
  have hb := B.bytes
  have hr := B.returns
  have hlocks := B.notSynchronized
  have S : CallFix p m c cX6_isFull 1 s ([.ref a0] : List Value).toArray zU RX6 := ⟨hx, hb, hml, hown, hts⟩
  have hw : zW lo g s s.heap [] M := ⟨hR, va_S.rf⟩
  have hl := lv_entry ([.ref a0]) (n := 1) (Nat.le_of_ble_eq_true rfl)
  rw [lg_entry_eq]
  generalize (lg_sl ([.ref a0]) ++ List.replicate (1 - (lg_sl ([.ref a0])).length) Slot.unset).toArray = ls at hl ⊢
  have hl : lv_has ls 1 [(0, .ref a0)] := hl
  unfold pX6_isFull at h
  refine lv_aload_n hx hb dX6_isFull_0 rfl (lv_at hl 0 rfl) ?_
  refine zr_gi (C := RX6) (T := TX6) (N := 7) (ci := 9) (k := 2) S hK hw zi_X6 rfl (by decide) zu_284 dX6_isFull_1 h (fun held_1 h => ?_)
  refine lv_bipush (v := (24 : Int32)) hx hb dX6_isFull_4 (by decide) ?_
  refine lv_icmp_lt (tgt := 13) hx hb dX6_isFull_6 (by decide) (fun hc => ?_) (fun hc => ?_)
  · have h := h.1 hc
    refine lv_iconst (v := (0 : Int32)) hx hb dX6_isFull_13 (by decide) ?_
    exact zr_rz S hr hlocks hw h dX6_isFull_14
  · have h := h.2 hc
    refine lv_iconst (v := (1 : Int32)) hx hb dX6_isFull_9 (by decide) ?_
    refine lv_goto (tgt := 14) hx hb dX6_isFull_10 (by decide) ?_
    exact zr_rz S hr hlocks hw h dX6_isFull_14
set_option maxHeartbeats 4000000 in
set_option maxRecDepth 100000 in
theorem sX6_keep_25 {p : Program} {l : Launch} {e : Env} {s : State} {m : MethodId} {args : Array Value} {below : List Frame} {meth : Method} {c : Code} {lo : Nat} {g : zg} {post : Int32 → zm_M → Prop} {k40 : Nat → Int32 → zm_M → Prop} (S : CallFix p m c cX6_keep 2 s args zU RX6) (hr : meth.sig.returnType = (some .int)) (hlocks : meth.locks = false) (hK : zk_K zNF zNM g s) (hk40 : ∀ (v0 : Nat) (v1 : Int32) (M : zm_M), k40 v0 v1 M → ∀ (H : Heap) (locs : List Loc) (ls : Array Slot), zW lo g s H locs M → lv_has ls 2 [(0, .ref v0), (1, .int v1)] → W p l e ({ frames := 6, cells := 0, slots := 0, locals := 176 } : Room) s m args below meth c H locs 0 0 (MQ below (va_Qi post (zc_B lo g) (zA lo)) args s 0 0 (zA lo)) (F0 m 40 ls [])) : ∀ (n : Nat) (v0 : Nat) (v1 : Int32) (M : zm_M), pX6_keep_25 g.2 post k40 n v0 v1 M → ∀ (H : Heap) (locs : List Loc) (ls : Array Slot), zW lo g s H locs M → lv_has ls 2 [(0, .ref v0), (1, .int v1)] → W p l e ({ frames := 6, cells := 0, slots := 0, locals := 176 } : Room) s m args below meth c H locs 0 0 (MQ below (va_Qi post (zc_B lo g) (zA lo)) args s 0 0 (zA lo)) (F0 m 25 ls []) := by
  obtain ⟨hx, hb, hml, hown, hts⟩ := id S
  intro n
  induction n with
  | zero =>
    intro v0 v1 M h
    exact False.elim h
  | succ n25 ih =>
    intro v0 v1 M h H locs ls hw hl
    rw [pX6_keep_25] at h
    refine lv_iload_n hx hb dX6_keep_25 rfl (lv_at hl 1 rfl) ?_
    refine lv_bipush (v := (24 : Int32)) hx hb dX6_keep_26 (by decide) ?_
    refine lv_icmp_ge (tgt := 81) hx hb dX6_keep_28 (by decide) (fun hc => ?_) (fun hc => ?_)
    · have h := h.1 hc
      refine lv_bipush (v := (-3 : Int32)) hx hb dX6_keep_81 (by decide) ?_
      exact zr_ri S hr hlocks hw h dX6_keep_83
    · have h := h.2 hc
      refine lv_aload_n hx hb dX6_keep_31 rfl (lv_at hl 0 rfl) ?_
      refine zr_ga (C := RX6) (T := TX6) (N := 7) (ci := 9) (k := 1) S hK hw zi_X6 rfl (by decide) zu_294 dX6_keep_32 h (fun taken_8 h => ?_)
      refine lv_iload_n hx hb dX6_keep_35 rfl (lv_at hl 1 rfl) ?_
      refine zr_zald S hK hw dX6_keep_36 h (fun e9 h => ?_)
      refine lv_if_ne (tgt := 75) hx hb dX6_keep_37 (by decide) (fun hc => ?_) (fun hc => ?_)
      · have h := h.1 hc
        obtain ⟨x10, ex10⟩ : ∃ z : Int32, z = v1 + (1 : Int32) := ⟨_, rfl⟩
        have h := h x10 ex10
        refine lv_iinc (v := x10) (lv' := [(1, .int x10), (0, .ref v0)]) hx hb dX6_keep_75 hl (k := 1) rfl (by rw [ex10]; rfl) (by decide) rfl (fun ls hl => ?_)
        refine lv_goto (tgt := 25) hx hb dX6_keep_78 (by decide) ?_
        exact ih v0 x10 _ h _ _ _ hw (lv_sub hl [1, 0] rfl)
      · have h := h.2 hc
        exact hk40 v0 v1 _ h _ _ _ hw (lv_sub hl [0, 1] rfl)
set_option maxHeartbeats 4000000 in
set_option maxRecDepth 100000 in
theorem kX6_keep (l : Launch) (lo : Nat) (g : zg) (M : zm_M) (a0 : Nat) (post : Int32 → zm_M → Prop) (h : pX6_keep g.2 a0 post M) : Met l yX6_keep (Cond.code yX6_keep cX6_keep 2 (some .int) :: zU) (({ frames := 6, cells := 0, slots := 0, locals := 176 } : Room)) (zc_P zNF zNM lo g M [.ref a0]) (va_Qi post (zc_B lo g) (zA lo)) 0 0 (zA lo) := by
  refine Met.ofW (cc := cX6_keep) (maxL := 2) (ret := (some .int)) (by decide) rfl ?_
  intro p e s m args below meth c s₁ B hml hv
  obtain ⟨rfl, hR, hK⟩ := hv
  have hts := atoms_spec (ws := Cond.code yX6_keep cX6_keep 2 (some .int) :: zU) B.pre
  have hts : ∀ w ∈ zU, w.before _ s = true := fun w hw => hts w (List.mem_cons_of_mem _ hw)
  have hown : s.vm.findClass RX6 = some m.cls := findClass_of_methodNamed B.named
  have hx := B.exec
  have hb := B.bytes
  have hr := B.returns
  have hlocks := B.notSynchronized
  have S : CallFix p m c cX6_keep 2 s ([.ref a0] : List Value).toArray zU RX6 := ⟨hx, hb, hml, hown, hts⟩
  have hw : zW lo g s s.heap [] M := ⟨hR, va_S.rf⟩
  have hl := lv_entry ([.ref a0]) (n := 2) (Nat.le_of_ble_eq_true rfl)
  rw [lg_entry_eq]
  generalize (lg_sl ([.ref a0]) ++ List.replicate (2 - (lg_sl ([.ref a0])).length) Slot.unset).toArray = ls at hl ⊢
  have hl : lv_has ls 2 [(0, .ref a0)] := hl
  unfold pX6_keep at h
  refine lv_aload_n hx hb dX6_keep_0 rfl (lv_at hl 0 rfl) ?_
  refine zr_ga (C := RX6) (T := TX6) (N := 7) (ci := 9) (k := 3) S hK hw zi_X6 rfl (by decide) zu_285 dX6_keep_1 h (fun bench_1 h => ?_)
  obtain ⟨ho, h⟩ := h
  refine zr_Vv (As := []) (rest := []) S hK hw (kX0_reduce l lo g M bench_1  _ h) (cwV 0 hts (zg_V zu_286 zu_287 zu_288 zu_90 zu_289) rfl rfl rfl (by decide +kernel) ⟨Nat.le_of_ble_eq_true rfl, Nat.le_of_ble_eq_true rfl⟩) (ci := 3) rfl ho rfl hl.1 rfl (Nat.le_of_ble_eq_true rfl) dX6_keep_4 ⟨Nat.le_of_ble_eq_true rfl, Nat.le_of_ble_eq_true rfl⟩ (fun M2 H locs hw h => ?_)
  refine lv_aload_n hx hb dX6_keep_7 rfl (lv_at hl 0 rfl) ?_
  refine zr_ga (C := RX6) (T := TX6) (N := 7) (ci := 9) (k := 3) S hK hw zi_X6 rfl (by decide) zu_285 dX6_keep_8 h (fun bench_3 h => ?_)
  refine zr_gaN (C := RX0) (T := TX0) (N := 5) (ci := 3) (k := 0) (host := "LeastTerms") S hK hw zi_X0 rfl (by decide) (by decide +kernel) dX6_keep_11 h (fun result_4 h => ?_)
  obtain ⟨ho, h⟩ := h
  refine zr_Vi (As := []) (rest := []) S hK hw (kX2_isWide l lo g M2 result_4  _ h) (cwV 0 hts (zg_V zu_290 zu_291 zu_292 zu_99 zu_293) rfl rfl rfl (by decide +kernel) ⟨Nat.le_of_ble_eq_true rfl, Nat.le_of_ble_eq_true rfl⟩) (ci := 5) rfl ho rfl hl.1 rfl (Nat.le_of_ble_eq_true rfl) dX6_keep_14 ⟨Nat.le_of_ble_eq_true rfl, Nat.le_of_ble_eq_true rfl⟩ (fun r6 M5 H locs hw h => ?_)
  refine lv_if_eq (tgt := 23) hx hb dX6_keep_17 (by decide) (fun hc => ?_) (fun hc => ?_)
  · have h := h.1 hc
    refine lv_iconst (v := (0 : Int32)) hx hb dX6_keep_23 (by decide) ?_
    refine lv_topi (fun x7 ex7 => ?_)
    have h := h x7 ex7
    refine lv_istore_n (lv' := [(1, .int x7), (0, .ref a0)]) hx hb dX6_keep_24 rfl hl (by decide) rfl (fun ls hl => ?_)
    obtain ⟨n25, h⟩ := h
    refine sX6_keep_25 S hr hlocks hK (fun w11 w12 M13 h H locs ls hw hl => ?_) n25 a0 x7 _ h _ _ _ hw (lv_sub hl [1, 0] rfl)
    refine lv_aload_n hx hb dX6_keep_40 rfl (lv_at hl 0 rfl) ?_
    refine zr_ga (C := RX6) (T := TX6) (N := 7) (ci := 9) (k := 0) S hK hw zi_X6 rfl (by decide) zu_295 dX6_keep_41 h (fun numbers_14 h => ?_)
    refine lv_iload_n hx hb dX6_keep_44 rfl (lv_at hl 1 rfl) ?_
    refine zr_aald S hK hw dX6_keep_45 h (fun e15 h => ?_)
    refine lv_aload_n hx hb dX6_keep_46 rfl (lv_at hl 0 rfl) ?_
    refine zr_ga (C := RX6) (T := TX6) (N := 7) (ci := 9) (k := 3) S hK hw zi_X6 rfl (by decide) zu_285 dX6_keep_47 h (fun bench_16 h => ?_)
    refine zr_gaN (C := RX0) (T := TX0) (N := 5) (ci := 3) (k := 0) (host := "LeastTerms") S hK hw zi_X0 rfl (by decide) (by decide +kernel) dX6_keep_50 h (fun result_17 h => ?_)
    obtain ⟨ho, h⟩ := h
    refine zr_Vv (As := [.ref result_17]) (rest := []) S hK hw (kX2_copy l lo g M13 e15 result_17 _ h) (cwV 1 hts (zg_V zu_296 zu_297 zu_298 zu_99 zu_299) rfl rfl rfl (by decide +kernel) ⟨Nat.le_of_ble_eq_true rfl, Nat.le_of_ble_eq_true rfl⟩) (ci := 5) rfl ho rfl hl.1 rfl (Nat.le_of_ble_eq_true rfl) dX6_keep_53 ⟨Nat.le_of_ble_eq_true rfl, Nat.le_of_ble_eq_true rfl⟩ (fun M18 H locs hw h => ?_)
    refine lv_aload_n hx hb dX6_keep_56 rfl (lv_at hl 0 rfl) ?_
    refine zr_ga (C := RX6) (T := TX6) (N := 7) (ci := 9) (k := 1) S hK hw zi_X6 rfl (by decide) zu_294 dX6_keep_57 h (fun taken_19 h => ?_)
    refine lv_iload_n hx hb dX6_keep_60 rfl (lv_at hl 1 rfl) ?_
    refine lv_iconst (v := (1 : Int32)) hx hb dX6_keep_61 (by decide) ?_
    refine zr_zast S hK hw dX6_keep_62 h (fun M20 H locs hw h => ?_)
    refine lv_aload_n hx hb dX6_keep_63 rfl (lv_at hl 0 rfl) ?_
    refine lv_dup hx hb dX6_keep_64 rfl ?_
    refine zr_gi (C := RX6) (T := TX6) (N := 7) (ci := 9) (k := 2) S hK hw zi_X6 rfl (by decide) zu_284 dX6_keep_65 h (fun held_21 h => ?_)
    refine lv_iconst (v := (1 : Int32)) hx hb dX6_keep_68 (by decide) ?_
    refine lv_iadd hx hb dX6_keep_69 ?_
    refine zr_p (C := RX6) (T := TX6) (N := 7) (ci := 9) (k := 2) S hK hw zi_X6 tyX6 tyX6_ok nmX6 rfl (by decide) zu_284 rfl rfl rfl dX6_keep_70 h (fun M22 H locs hw h => ?_)
    refine lv_iload_n hx hb dX6_keep_73 rfl (lv_at hl 1 rfl) ?_
    exact zr_ri S hr hlocks hw h dX6_keep_74
  · have h := h.2 hc
    refine lv_bipush (v := (-4 : Int32)) hx hb dX6_keep_20 (by decide) ?_
    exact zr_ri S hr hlocks hw h dX6_keep_22
set_option maxHeartbeats 4000000 in
set_option maxRecDepth 100000 in
theorem sX6_whole_40 {p : Program} {l : Launch} {e : Env} {s : State} {m : MethodId} {args : Array Value} {below : List Frame} {meth : Method} {c : Code} {lo : Nat} {g : zg} {post : Int32 → zm_M → Prop}  (S : CallFix p m c cX6_whole 3 s args zU RX6) (hr : meth.sig.returnType = (some .int)) (hlocks : meth.locks = false) (hK : zk_K zNF zNM g s)  : ∀ (v0 : Nat) (s0 : Nat) (s1 : Int32) (s2 : Int64) (M : zm_M), pX6_whole_40 g.2 post  v0 s0 s1 s2 M → ∀ (H : Heap) (locs : List Loc) (ls : Array Slot), zW lo g s H locs M → lv_has ls 3 [(0, .ref v0)] → W p l e ({ frames := 7, cells := 0, slots := 0, locals := 197 } : Room) s m args below meth c H locs 0 0 (MQ below (va_Qi post (zc_B lo g) (zA lo)) args s 0 0 (zA lo)) (F0 m 40 ls [.long s2, .int s1, .ref s0]) := by
  obtain ⟨hx, hb, hml, hown, hts⟩ := id S
  intro v0 s0 s1 s2 M h H locs ls hw hl
  unfold pX6_whole_40 at h
  obtain ⟨ho, h⟩ := h
  refine zr_Vv (As := [.int s1, .long s2]) (rest := []) S hK hw (kX2_become l lo g M s0 s1 s2 _ h) (cwV 2 hts (zg_V zu_305 zu_97 zu_98 zu_99 zu_100) rfl rfl rfl (by decide +kernel) ⟨Nat.le_of_ble_eq_true rfl, Nat.le_of_ble_eq_true rfl⟩) (ci := 5) rfl ho rfl hl.1 rfl (Nat.le_of_ble_eq_true rfl) dX6_whole_40 ⟨Nat.le_of_ble_eq_true rfl, Nat.le_of_ble_eq_true rfl⟩ (fun M5 H locs hw h => ?_)
  refine lv_aload_n hx hb dX6_whole_43 rfl (lv_at hl 0 rfl) ?_
  obtain ⟨ho, h⟩ := h
  refine zr_Vi (As := []) (rest := []) S hK hw (kX6_keep l lo g M5 v0  _ h) (cwV 0 hts (zg_V zu_306 zu_307 zu_308 zu_303 zu_309) rfl rfl rfl (by decide +kernel) ⟨Nat.le_of_ble_eq_true rfl, Nat.le_of_ble_eq_true rfl⟩) (ci := 9) rfl ho rfl hl.1 rfl (Nat.le_of_ble_eq_true rfl) dX6_whole_44 ⟨Nat.le_of_ble_eq_true rfl, Nat.le_of_ble_eq_true rfl⟩ (fun r7 M6 H locs hw h => ?_)
  exact zr_ri S hr hlocks hw h dX6_whole_47
set_option maxHeartbeats 4000000 in
set_option maxRecDepth 100000 in
theorem sX6_whole_28 {p : Program} {l : Launch} {e : Env} {s : State} {m : MethodId} {args : Array Value} {below : List Frame} {meth : Method} {c : Code} {lo : Nat} {g : zg} {post : Int32 → zm_M → Prop}  (S : CallFix p m c cX6_whole 3 s args zU RX6) (hr : meth.sig.returnType = (some .int)) (hlocks : meth.locks = false) (hK : zk_K zNF zNM g s)  : ∀ (v0 : Nat) (v1 : Int64) (s0 : Nat) (s1 : Int32) (M : zm_M), pX6_whole_28 g.2 post  v0 v1 s0 s1 M → ∀ (H : Heap) (locs : List Loc) (ls : Array Slot), zW lo g s H locs M → lv_has ls 3 [(0, .ref v0), (1, .long v1)] → W p l e ({ frames := 7, cells := 0, slots := 0, locals := 197 } : Room) s m args below meth c H locs 0 0 (MQ below (va_Qi post (zc_B lo g) (zA lo)) args s 0 0 (zA lo)) (F0 m 28 ls [.int s1, .ref s0]) := by
  obtain ⟨hx, hb, hml, hown, hts⟩ := id S
  intro v0 v1 s0 s1 M h H locs ls hw hl
  unfold pX6_whole_28 at h
  refine lv_lload_n hx hb dX6_whole_28 rfl (lv_at hl 1 rfl) ?_
  refine lv_lconst (v := (0 : Int64)) hx hb dX6_whole_29 (by decide) ?_
  refine W.lcmp hx hb dX6_whole_30 ?_
  refine lv_if_ge (tgt := 39) hx hb dX6_whole_31 (by decide) (fun hc => ?_) (fun hc => ?_)
  · have h := h.1 (zc_ge.mp hc)
    refine lv_lload_n hx hb dX6_whole_39 rfl (lv_at hl 1 rfl) ?_
    exact sX6_whole_40 S hr hlocks hK  v0 s0 s1 v1 _ h _ _ _ hw (lv_sub hl [0] rfl)
  · have h := h.2 (fun q => hc (zc_ge.mpr q))
    refine lv_lload_n hx hb dX6_whole_34 rfl (lv_at hl 1 rfl) ?_
    refine lv_lneg hx hb dX6_whole_35 ?_
    refine lv_goto (tgt := 40) hx hb dX6_whole_36 (by decide) ?_
    exact sX6_whole_40 S hr hlocks hK  v0 s0 s1 (-v1) _ h _ _ _ hw (lv_sub hl [0] rfl)
set_option maxHeartbeats 4000000 in
set_option maxRecDepth 100000 in
theorem kX6_whole (l : Launch) (lo : Nat) (g : zg) (M : zm_M) (a0 : Nat) (a1 : Int64) (post : Int32 → zm_M → Prop) (h : pX6_whole g.2 a0 a1 post M) : Met l yX6_whole (Cond.code yX6_whole cX6_whole 3 (some .int) :: zU) (({ frames := 7, cells := 0, slots := 0, locals := 197 } : Room)) (zc_P zNF zNM lo g M [.ref a0, .long a1]) (va_Qi post (zc_B lo g) (zA lo)) 0 0 (zA lo) := by
  refine Met.ofW (cc := cX6_whole) (maxL := 3) (ret := (some .int)) (by decide) rfl ?_
  intro p e s m args below meth c s₁ B hml hv
  obtain ⟨rfl, hR, hK⟩ := hv
  have hts := atoms_spec (ws := Cond.code yX6_whole cX6_whole 3 (some .int) :: zU) B.pre
  have hts : ∀ w ∈ zU, w.before _ s = true := fun w hw => hts w (List.mem_cons_of_mem _ hw)
  have hown : s.vm.findClass RX6 = some m.cls := findClass_of_methodNamed B.named
  have hx := B.exec
  have hb := B.bytes
  have hr := B.returns
  have hlocks := B.notSynchronized
  have S : CallFix p m c cX6_whole 3 s ([.ref a0, .long a1] : List Value).toArray zU RX6 := ⟨hx, hb, hml, hown, hts⟩
  have hw : zW lo g s s.heap [] M := ⟨hR, va_S.rf⟩
  have hl := lv_entry ([.ref a0, .long a1]) (n := 3) (Nat.le_of_ble_eq_true rfl)
  rw [lg_entry_eq]
  generalize (lg_sl ([.ref a0, .long a1]) ++ List.replicate (3 - (lg_sl ([.ref a0, .long a1])).length) Slot.unset).toArray = ls at hl ⊢
  have hl : lv_has ls 3 [(0, .ref a0), (1, .long a1)] := hl
  unfold pX6_whole at h
  refine lv_aload_n hx hb dX6_whole_0 rfl (lv_at hl 0 rfl) ?_
  obtain ⟨ho, h⟩ := h
  refine zr_Vi (As := []) (rest := []) S hK hw (kX6_isFull l lo g M a0  _ h) (cwV 0 hts (zg_V zu_300 zu_301 zu_302 zu_303 zu_304) rfl rfl rfl (by decide +kernel) ⟨Nat.le_of_ble_eq_true rfl, Nat.le_of_ble_eq_true rfl⟩) (ci := 9) rfl ho rfl hl.1 rfl (Nat.le_of_ble_eq_true rfl) dX6_whole_1 ⟨Nat.le_of_ble_eq_true rfl, Nat.le_of_ble_eq_true rfl⟩ (fun r2 M1 H locs hw h => ?_)
  refine lv_if_eq (tgt := 10) hx hb dX6_whole_4 (by decide) (fun hc => ?_) (fun hc => ?_)
  · have h := h.1 hc
    refine lv_aload_n hx hb dX6_whole_10 rfl (lv_at hl 0 rfl) ?_
    refine zr_ga (C := RX6) (T := TX6) (N := 7) (ci := 9) (k := 3) S hK hw zi_X6 rfl (by decide) zu_285 dX6_whole_11 h (fun bench_3 h => ?_)
    refine zr_gaN (C := RX0) (T := TX0) (N := 5) (ci := 3) (k := 0) (host := "LeastTerms") S hK hw zi_X0 rfl (by decide) (by decide +kernel) dX6_whole_14 h (fun result_4 h => ?_)
    refine lv_lload_n hx hb dX6_whole_17 rfl (lv_at hl 1 rfl) ?_
    refine lv_lconst (v := (0 : Int64)) hx hb dX6_whole_18 (by decide) ?_
    refine W.lcmp hx hb dX6_whole_19 ?_
    refine lv_if_ge (tgt := 27) hx hb dX6_whole_20 (by decide) (fun hc => ?_) (fun hc => ?_)
    · have h := h.1 (zc_ge.mp hc)
      refine lv_iconst (v := (1 : Int32)) hx hb dX6_whole_27 (by decide) ?_
      exact sX6_whole_28 S hr hlocks hK  a0 a1 result_4 (1 : Int32) _ h _ _ _ hw (lv_sub hl [0, 1] rfl)
    · have h := h.2 (fun q => hc (zc_ge.mpr q))
      refine lv_iconst (v := (-1 : Int32)) hx hb dX6_whole_23 (by decide) ?_
      refine lv_goto (tgt := 28) hx hb dX6_whole_24 (by decide) ?_
      exact sX6_whole_28 S hr hlocks hK  a0 a1 result_4 (-1 : Int32) _ h _ _ _ hw (lv_sub hl [0, 1] rfl)
  · have h := h.2 hc
    refine lv_bipush (v := (-3 : Int32)) hx hb dX6_whole_7 (by decide) ?_
    exact zr_ri S hr hlocks hw h dX6_whole_9
set_option maxHeartbeats 4000000 in
set_option maxRecDepth 100000 in
theorem kX6_find (l : Launch) (lo : Nat) (g : zg) (M : zm_M) (a0 : Nat) (a1 : Int32) (post : Option Nat → zm_M → Prop) (h : pX6_find g.2 a0 a1 post M) : Met l yX6_find (Cond.code yX6_find cX6_find 2 (some (.object "LeastTerms$Ratio")) :: zU) (({ frames := 1, cells := 0, slots := 0, locals := 40 } : Room)) (zc_P zNF zNM lo g M [.ref a0, .int a1]) (va_Qq post (zc_B lo g) (zA lo)) 0 0 (zA lo) := by
  refine Met.ofW (cc := cX6_find) (maxL := 2) (ret := (some (.object "LeastTerms$Ratio"))) (by decide) rfl ?_
  intro p e s m args below meth c s₁ B hml hv
  obtain ⟨rfl, hR, hK⟩ := hv
  have hts := atoms_spec (ws := Cond.code yX6_find cX6_find 2 (some (.object "LeastTerms$Ratio")) :: zU) B.pre
  have hts : ∀ w ∈ zU, w.before _ s = true := fun w hw => hts w (List.mem_cons_of_mem _ hw)
  have hown : s.vm.findClass RX6 = some m.cls := findClass_of_methodNamed B.named
  have hx := B.exec
  have hb := B.bytes
  have hr := B.returns
  have hlocks := B.notSynchronized
  have S : CallFix p m c cX6_find 2 s ([.ref a0, .int a1] : List Value).toArray zU RX6 := ⟨hx, hb, hml, hown, hts⟩
  have hw : zW lo g s s.heap [] M := ⟨hR, va_S.rf⟩
  have hl := lv_entry ([.ref a0, .int a1]) (n := 2) (Nat.le_of_ble_eq_true rfl)
  rw [lg_entry_eq]
  generalize (lg_sl ([.ref a0, .int a1]) ++ List.replicate (2 - (lg_sl ([.ref a0, .int a1])).length) Slot.unset).toArray = ls at hl ⊢
  have hl : lv_has ls 2 [(0, .ref a0), (1, .int a1)] := hl
  unfold pX6_find at h
  refine lv_iload_n hx hb dX6_find_0 rfl (lv_at hl 1 rfl) ?_
  refine lv_if_lt (tgt := 28) hx hb dX6_find_1 (by decide) (fun hc => ?_) (fun hc => ?_)
  · have h := h.1 hc
    refine lv_null hx hb dX6_find_28 ?_
    exact zr_rq (v := none) S hr hlocks hw h dX6_find_29
  · have h := h.2 hc
    refine lv_iload_n hx hb dX6_find_4 rfl (lv_at hl 1 rfl) ?_
    refine lv_bipush (v := (24 : Int32)) hx hb dX6_find_5 (by decide) ?_
    refine lv_icmp_ge (tgt := 28) hx hb dX6_find_7 (by decide) (fun hc => ?_) (fun hc => ?_)
    · have h := h.1 hc
      refine lv_null hx hb dX6_find_28 ?_
      exact zr_rq (v := none) S hr hlocks hw h dX6_find_29
    · have h := h.2 hc
      refine lv_aload_n hx hb dX6_find_10 rfl (lv_at hl 0 rfl) ?_
      refine zr_ga (C := RX6) (T := TX6) (N := 7) (ci := 9) (k := 1) S hK hw zi_X6 rfl (by decide) zu_294 dX6_find_11 h (fun taken_1 h => ?_)
      refine lv_iload_n hx hb dX6_find_14 rfl (lv_at hl 1 rfl) ?_
      refine zr_zald S hK hw dX6_find_15 h (fun e2 h => ?_)
      refine lv_if_eq (tgt := 28) hx hb dX6_find_16 (by decide) (fun hc => ?_) (fun hc => ?_)
      · have h := h.1 hc
        refine lv_null hx hb dX6_find_28 ?_
        exact zr_rq (v := none) S hr hlocks hw h dX6_find_29
      · have h := h.2 hc
        refine lv_aload_n hx hb dX6_find_19 rfl (lv_at hl 0 rfl) ?_
        refine zr_ga (C := RX6) (T := TX6) (N := 7) (ci := 9) (k := 0) S hK hw zi_X6 rfl (by decide) zu_295 dX6_find_20 h (fun numbers_3 h => ?_)
        refine lv_iload_n hx hb dX6_find_23 rfl (lv_at hl 1 rfl) ?_
        refine zr_aald S hK hw dX6_find_24 h (fun e4 h => ?_)
        refine lv_goto (tgt := 29) hx hb dX6_find_25 (by decide) ?_
        exact zr_rq (v := (some e4)) S hr hlocks hw h dX6_find_29
set_option maxHeartbeats 4000000 in
set_option maxRecDepth 100000 in
theorem kX6_near (l : Launch) (lo : Nat) (g : zg) (M : zm_M) (a0 : Nat) (a1 : Int32) (a2 : Int32) (post : Int32 → zm_M → Prop) (h : pX6_near g.2 a0 a1 a2 post M) : Met l yX6_near (Cond.code yX6_near cX6_near 4 (some .int) :: zU) (({ frames := 7, cells := 0, slots := 0, locals := 197 } : Room)) (zc_P zNF zNM lo g M [.ref a0, .int a1, .int a2]) (va_Qi post (zc_B lo g) (zA lo)) 0 0 (zA lo) := by
  refine Met.ofW (cc := cX6_near) (maxL := 4) (ret := (some .int)) (by decide) rfl ?_
  intro p e s m args below meth c s₁ B hml hv
  obtain ⟨rfl, hR, hK⟩ := hv
  have hts := atoms_spec (ws := Cond.code yX6_near cX6_near 4 (some .int) :: zU) B.pre
  have hts : ∀ w ∈ zU, w.before _ s = true := fun w hw => hts w (List.mem_cons_of_mem _ hw)
  have hown : s.vm.findClass RX6 = some m.cls := findClass_of_methodNamed B.named
  have hx := B.exec
  have hb := B.bytes
  have hr := B.returns
  have hlocks := B.notSynchronized
  have S : CallFix p m c cX6_near 4 s ([.ref a0, .int a1, .int a2] : List Value).toArray zU RX6 := ⟨hx, hb, hml, hown, hts⟩
  have hw : zW lo g s s.heap [] M := ⟨hR, va_S.rf⟩
  have hl := lv_entry ([.ref a0, .int a1, .int a2]) (n := 4) (Nat.le_of_ble_eq_true rfl)
  rw [lg_entry_eq]
  generalize (lg_sl ([.ref a0, .int a1, .int a2]) ++ List.replicate (4 - (lg_sl ([.ref a0, .int a1, .int a2])).length) Slot.unset).toArray = ls at hl ⊢
  have hl : lv_has ls 4 [(0, .ref a0), (1, .int a1), (2, .int a2)] := hl
  unfold pX6_near at h
  refine lv_aload_n hx hb dX6_near_0 rfl (lv_at hl 0 rfl) ?_
  refine lv_iload_n hx hb dX6_near_1 rfl (lv_at hl 1 rfl) ?_
  obtain ⟨ho, h⟩ := h
  refine zr_Vq (As := [.int a1]) (rest := []) S hK hw (kX6_find l lo g M a0 a1 _ h) (cwV 1 hts (zg_V zu_311 zu_312 zu_313 zu_303 zu_314) rfl rfl rfl (by decide +kernel) ⟨Nat.le_of_ble_eq_true rfl, Nat.le_of_ble_eq_true rfl⟩) (ci := 9) rfl ho rfl hl.1 rfl (Nat.le_of_ble_eq_true rfl) dX6_near_2 ⟨Nat.le_of_ble_eq_true rfl, Nat.le_of_ble_eq_true rfl⟩ (fun r2 M1 H locs hw h => ?_)
  rcases r2 with _ | a3
  · have h := h.1 rfl
    refine lv_astore_nN (lv' := [(3, .null), (0, .ref a0), (1, .int a1), (2, .int a2)]) hx hb dX6_near_5 rfl hl (by decide) rfl (fun ls hl => ?_)
    refine lv_aload_nN hx hb dX6_near_6 rfl (lv_at hl 0 rfl) ?_
    refine lv_ifnullN (tgt := 19) hx hb dX6_near_7 (by decide) ?_
    refine lv_iconst (v := (-1 : Int32)) hx hb dX6_near_19 (by decide) ?_
    exact zr_ri S hr hlocks hw h dX6_near_20
  · have h := h.2 a3 rfl
    refine lv_astore_n (lv' := [(3, .ref a3), (0, .ref a0), (1, .int a1), (2, .int a2)]) hx hb dX6_near_5 rfl hl (by decide) rfl (fun ls hl => ?_)
    refine lv_aload_n hx hb dX6_near_6 rfl (lv_at hl 0 rfl) ?_
    refine lv_ifnull hx hb dX6_near_7 ?_
    refine lv_iload_n hx hb dX6_near_10 rfl (lv_at hl 3 rfl) ?_
    refine lv_if_lt (tgt := 19) hx hb dX6_near_11 (by decide) (fun hc => ?_) (fun hc => ?_)
    · have h := h.1 hc
      refine lv_iconst (v := (-1 : Int32)) hx hb dX6_near_19 (by decide) ?_
      exact zr_ri S hr hlocks hw h dX6_near_20
    · have h := h.2 hc
      refine lv_iload_n hx hb dX6_near_14 rfl (lv_at hl 3 rfl) ?_
      refine lv_iconst (v := (3 : Int32)) hx hb dX6_near_15 (by decide) ?_
      refine lv_icmp_le (tgt := 21) hx hb dX6_near_16 (by decide) (fun hc => ?_) (fun hc => ?_)
      · have h := h.1 hc
        refine lv_aload_n hx hb dX6_near_21 rfl (lv_at hl 1 rfl) ?_
        obtain ⟨ho, h⟩ := h
        refine zr_Vi (As := []) (rest := []) S hK hw (kX6_isFull l lo g M1 a0  _ h) (cwV 0 hts (zg_V zu_300 zu_301 zu_302 zu_303 zu_304) rfl rfl rfl (by decide +kernel) ⟨Nat.le_of_ble_eq_true rfl, Nat.le_of_ble_eq_true rfl⟩) (ci := 9) rfl ho rfl hl.1 rfl (Nat.le_of_ble_eq_true rfl) dX6_near_22 ⟨Nat.le_of_ble_eq_true rfl, Nat.le_of_ble_eq_true rfl⟩ (fun r5 M4 H locs hw h => ?_)
        refine lv_if_eq (tgt := 31) hx hb dX6_near_25 (by decide) (fun hc => ?_) (fun hc => ?_)
        · have h := h.1 hc
          refine lv_aload_n hx hb dX6_near_31 rfl (lv_at hl 1 rfl) ?_
          refine zr_ga (C := RX6) (T := TX6) (N := 7) (ci := 9) (k := 3) S hK hw zi_X6 rfl (by decide) zu_285 dX6_near_32 h (fun bench_6 h => ?_)
          refine lv_aload_n hx hb dX6_near_35 rfl (lv_at hl 0 rfl) ?_
          refine lv_iload_n hx hb dX6_near_36 rfl (lv_at hl 3 rfl) ?_
          obtain ⟨ho, h⟩ := h
          refine zr_Vv (As := [.ref a3, .int a2]) (rest := []) S hK hw (kX0_wholeNear l lo g M4 bench_6 a3 a2 _ h) (cwV 2 hts (zg_V zu_335 zu_336 zu_337 zu_90 zu_338) rfl rfl rfl (by decide +kernel) ⟨Nat.le_of_ble_eq_true rfl, Nat.le_of_ble_eq_true rfl⟩) (ci := 3) rfl ho rfl hl.1 rfl (Nat.le_of_ble_eq_true rfl) dX6_near_37 ⟨Nat.le_of_ble_eq_true rfl, Nat.le_of_ble_eq_true rfl⟩ (fun M7 H locs hw h => ?_)
          refine lv_aload_n hx hb dX6_near_40 rfl (lv_at hl 1 rfl) ?_
          obtain ⟨ho, h⟩ := h
          refine zr_Vi (As := []) (rest := []) S hK hw (kX6_keep l lo g M7 a0  _ h) (cwV 0 hts (zg_V zu_306 zu_307 zu_308 zu_303 zu_309) rfl rfl rfl (by decide +kernel) ⟨Nat.le_of_ble_eq_true rfl, Nat.le_of_ble_eq_true rfl⟩) (ci := 9) rfl ho rfl hl.1 rfl (Nat.le_of_ble_eq_true rfl) dX6_near_41 ⟨Nat.le_of_ble_eq_true rfl, Nat.le_of_ble_eq_true rfl⟩ (fun r9 M8 H locs hw h => ?_)
          exact zr_ri S hr hlocks hw h dX6_near_44
        · have h := h.2 hc
          refine lv_bipush (v := (-3 : Int32)) hx hb dX6_near_28 (by decide) ?_
          exact zr_ri S hr hlocks hw h dX6_near_30
      · have h := h.2 hc
        refine lv_iconst (v := (-1 : Int32)) hx hb dX6_near_19 (by decide) ?_
        exact zr_ri S hr hlocks hw h dX6_near_20
set_option maxHeartbeats 4000000 in
set_option maxRecDepth 100000 in
theorem kX6_common (l : Launch) (lo : Nat) (g : zg) (M : zm_M) (a0 : Nat) (a1 : Int32) (a2 : Int32) (post : Int32 → zm_M → Prop) (h : pX6_common g.2 a0 a1 a2 post M) : Met l yX6_common (Cond.code yX6_common cX6_common 5 (some .int) :: zU) (({ frames := 7, cells := 0, slots := 0, locals := 197 } : Room)) (zc_P zNF zNM lo g M [.ref a0, .int a1, .int a2]) (va_Qi post (zc_B lo g) (zA lo)) 0 0 (zA lo) := by
  refine Met.ofW (cc := cX6_common) (maxL := 5) (ret := (some .int)) (by decide) rfl ?_
  intro p e s m args below meth c s₁ B hml hv
  obtain ⟨rfl, hR, hK⟩ := hv
  have hts := atoms_spec (ws := Cond.code yX6_common cX6_common 5 (some .int) :: zU) B.pre
  have hts : ∀ w ∈ zU, w.before _ s = true := fun w hw => hts w (List.mem_cons_of_mem _ hw)
  have hown : s.vm.findClass RX6 = some m.cls := findClass_of_methodNamed B.named
  have hx := B.exec
  have hb := B.bytes
  have hr := B.returns
  have hlocks := B.notSynchronized
  have S : CallFix p m c cX6_common 5 s ([.ref a0, .int a1, .int a2] : List Value).toArray zU RX6 := ⟨hx, hb, hml, hown, hts⟩
  have hw : zW lo g s s.heap [] M := ⟨hR, va_S.rf⟩
  have hl := lv_entry ([.ref a0, .int a1, .int a2]) (n := 5) (Nat.le_of_ble_eq_true rfl)
  rw [lg_entry_eq]
  generalize (lg_sl ([.ref a0, .int a1, .int a2]) ++ List.replicate (5 - (lg_sl ([.ref a0, .int a1, .int a2])).length) Slot.unset).toArray = ls at hl ⊢
  have hl : lv_has ls 5 [(0, .ref a0), (1, .int a1), (2, .int a2)] := hl
  unfold pX6_common at h
  refine lv_aload_n hx hb dX6_common_0 rfl (lv_at hl 0 rfl) ?_
  refine lv_iload_n hx hb dX6_common_1 rfl (lv_at hl 1 rfl) ?_
  obtain ⟨ho, h⟩ := h
  refine zr_Vq (As := [.int a1]) (rest := []) S hK hw (kX6_find l lo g M a0 a1 _ h) (cwV 1 hts (zg_V zu_311 zu_312 zu_313 zu_303 zu_314) rfl rfl rfl (by decide +kernel) ⟨Nat.le_of_ble_eq_true rfl, Nat.le_of_ble_eq_true rfl⟩) (ci := 9) rfl ho rfl hl.1 rfl (Nat.le_of_ble_eq_true rfl) dX6_common_2 ⟨Nat.le_of_ble_eq_true rfl, Nat.le_of_ble_eq_true rfl⟩ (fun r2 M1 H locs hw h => ?_)
  rcases r2 with _ | a3
  · have h := h.1 rfl
    refine lv_astore_nN (lv' := [(3, .null), (0, .ref a0), (1, .int a1), (2, .int a2)]) hx hb dX6_common_5 rfl hl (by decide) rfl (fun ls hl => ?_)
    refine lv_aload_n hx hb dX6_common_6 rfl (lv_at hl 1 rfl) ?_
    refine lv_iload_n hx hb dX6_common_7 rfl (lv_at hl 3 rfl) ?_
    obtain ⟨ho, h⟩ := h
    refine zr_Vq (As := [.int a2]) (rest := []) S hK hw (kX6_find l lo g M1 a0 a2 _ h) (cwV 1 hts (zg_V zu_311 zu_312 zu_313 zu_303 zu_314) rfl rfl rfl (by decide +kernel) ⟨Nat.le_of_ble_eq_true rfl, Nat.le_of_ble_eq_true rfl⟩) (ci := 9) rfl ho rfl hl.1 rfl (Nat.le_of_ble_eq_true rfl) dX6_common_8 ⟨Nat.le_of_ble_eq_true rfl, Nat.le_of_ble_eq_true rfl⟩ (fun r5 M4 H locs hw h => ?_)
    rcases r5 with _ | a6
    · have h := h.1 rfl
      refine lv_astoreN (lv' := [(4, .null), (3, .null), (0, .ref a0), (1, .int a1), (2, .int a2)]) hx hb dX6_common_11 hl (by decide) rfl (fun ls hl => ?_)
      refine lv_aload_nN hx hb dX6_common_13 rfl (lv_at hl 1 rfl) ?_
      refine lv_ifnullN (tgt := 22) hx hb dX6_common_14 (by decide) ?_
      refine lv_iconst (v := (-1 : Int32)) hx hb dX6_common_22 (by decide) ?_
      exact zr_ri S hr hlocks hw h dX6_common_23
    · have h := h.2 a6 rfl
      refine lv_astore (lv' := [(4, .ref a6), (3, .null), (0, .ref a0), (1, .int a1), (2, .int a2)]) hx hb dX6_common_11 hl (by decide) rfl (fun ls hl => ?_)
      refine lv_aload_nN hx hb dX6_common_13 rfl (lv_at hl 1 rfl) ?_
      refine lv_ifnullN (tgt := 22) hx hb dX6_common_14 (by decide) ?_
      refine lv_iconst (v := (-1 : Int32)) hx hb dX6_common_22 (by decide) ?_
      exact zr_ri S hr hlocks hw h dX6_common_23
  · have h := h.2 a3 rfl
    refine lv_astore_n (lv' := [(3, .ref a3), (0, .ref a0), (1, .int a1), (2, .int a2)]) hx hb dX6_common_5 rfl hl (by decide) rfl (fun ls hl => ?_)
    refine lv_aload_n hx hb dX6_common_6 rfl (lv_at hl 1 rfl) ?_
    refine lv_iload_n hx hb dX6_common_7 rfl (lv_at hl 3 rfl) ?_
    obtain ⟨ho, h⟩ := h
    refine zr_Vq (As := [.int a2]) (rest := []) S hK hw (kX6_find l lo g M1 a0 a2 _ h) (cwV 1 hts (zg_V zu_311 zu_312 zu_313 zu_303 zu_314) rfl rfl rfl (by decide +kernel) ⟨Nat.le_of_ble_eq_true rfl, Nat.le_of_ble_eq_true rfl⟩) (ci := 9) rfl ho rfl hl.1 rfl (Nat.le_of_ble_eq_true rfl) dX6_common_8 ⟨Nat.le_of_ble_eq_true rfl, Nat.le_of_ble_eq_true rfl⟩ (fun r8 M7 H locs hw h => ?_)
    rcases r8 with _ | a9
    · have h := h.1 rfl
      refine lv_astoreN (lv' := [(4, .null), (3, .ref a3), (0, .ref a0), (1, .int a1), (2, .int a2)]) hx hb dX6_common_11 hl (by decide) rfl (fun ls hl => ?_)
      refine lv_aload_n hx hb dX6_common_13 rfl (lv_at hl 1 rfl) ?_
      refine lv_ifnull hx hb dX6_common_14 ?_
      refine lv_aloadN hx hb dX6_common_17 (lv_at hl 0 rfl) ?_
      refine lv_ifnonnullN hx hb dX6_common_19 ?_
      refine lv_iconst (v := (-1 : Int32)) hx hb dX6_common_22 (by decide) ?_
      exact zr_ri S hr hlocks hw h dX6_common_23
    · have h := h.2 a9 rfl
      refine lv_astore (lv' := [(4, .ref a9), (3, .ref a3), (0, .ref a0), (1, .int a1), (2, .int a2)]) hx hb dX6_common_11 hl (by decide) rfl (fun ls hl => ?_)
      refine lv_aload_n hx hb dX6_common_13 rfl (lv_at hl 1 rfl) ?_
      refine lv_ifnull hx hb dX6_common_14 ?_
      refine lv_aload hx hb dX6_common_17 (lv_at hl 0 rfl) ?_
      refine lv_ifnonnull (tgt := 24) hx hb dX6_common_19 (by decide) ?_
      refine lv_aload_n hx hb dX6_common_24 rfl (lv_at hl 1 rfl) ?_
      obtain ⟨ho, h⟩ := h
      refine zr_Vi (As := []) (rest := []) S hK hw (kX2_isWhole l lo g M7 a3  _ h) (cwV 0 hts (zg_V zu_339 zu_340 zu_341 zu_99 zu_342) rfl rfl rfl (by decide +kernel) ⟨Nat.le_of_ble_eq_true rfl, Nat.le_of_ble_eq_true rfl⟩) (ci := 5) rfl ho rfl hl.1 rfl (Nat.le_of_ble_eq_true rfl) dX6_common_25 ⟨Nat.le_of_ble_eq_true rfl, Nat.le_of_ble_eq_true rfl⟩ (fun r11 M10 H locs hw h => ?_)
      refine lv_if_eq (tgt := 39) hx hb dX6_common_28 (by decide) (fun hc => ?_) (fun hc => ?_)
      · have h := h.1 hc
        refine lv_bipush (v := (-2 : Int32)) hx hb dX6_common_39 (by decide) ?_
        exact zr_ri S hr hlocks hw h dX6_common_41
      · have h := h.2 hc
        refine lv_aload hx hb dX6_common_31 (lv_at hl 0 rfl) ?_
        obtain ⟨ho, h⟩ := h
        refine zr_Vi (As := []) (rest := []) S hK hw (kX2_isWhole l lo g M10 a9  _ h) (cwV 0 hts (zg_V zu_339 zu_340 zu_341 zu_99 zu_342) rfl rfl rfl (by decide +kernel) ⟨Nat.le_of_ble_eq_true rfl, Nat.le_of_ble_eq_true rfl⟩) (ci := 5) rfl ho rfl hl.1 rfl (Nat.le_of_ble_eq_true rfl) dX6_common_33 ⟨Nat.le_of_ble_eq_true rfl, Nat.le_of_ble_eq_true rfl⟩ (fun r13 M12 H locs hw h => ?_)
        refine lv_if_ne (tgt := 42) hx hb dX6_common_36 (by decide) (fun hc => ?_) (fun hc => ?_)
        · have h := h.1 hc
          refine lv_aload_n hx hb dX6_common_42 rfl (lv_at hl 2 rfl) ?_
          obtain ⟨ho, h⟩ := h
          refine zr_Vi (As := []) (rest := []) S hK hw (kX6_isFull l lo g M12 a0  _ h) (cwV 0 hts (zg_V zu_300 zu_301 zu_302 zu_303 zu_304) rfl rfl rfl (by decide +kernel) ⟨Nat.le_of_ble_eq_true rfl, Nat.le_of_ble_eq_true rfl⟩) (ci := 9) rfl ho rfl hl.1 rfl (Nat.le_of_ble_eq_true rfl) dX6_common_43 ⟨Nat.le_of_ble_eq_true rfl, Nat.le_of_ble_eq_true rfl⟩ (fun r15 M14 H locs hw h => ?_)
          refine lv_if_eq (tgt := 52) hx hb dX6_common_46 (by decide) (fun hc => ?_) (fun hc => ?_)
          · have h := h.1 hc
            refine lv_aload_n hx hb dX6_common_52 rfl (lv_at hl 2 rfl) ?_
            refine zr_ga (C := RX6) (T := TX6) (N := 7) (ci := 9) (k := 3) S hK hw zi_X6 rfl (by decide) zu_285 dX6_common_53 h (fun bench_16 h => ?_)
            refine zr_gaN (C := RX0) (T := TX0) (N := 5) (ci := 3) (k := 0) (host := "LeastTerms") S hK hw zi_X0 rfl (by decide) (by decide +kernel) dX6_common_56 h (fun result_17 h => ?_)
            refine lv_iconst (v := (1 : Int32)) hx hb dX6_common_59 (by decide) ?_
            refine lv_aload_n hx hb dX6_common_60 rfl (lv_at hl 2 rfl) ?_
            refine zr_ga (C := RX6) (T := TX6) (N := 7) (ci := 9) (k := 3) S hK hw zi_X6 rfl (by decide) zu_285 dX6_common_61 h (fun bench_18 h => ?_)
            refine lv_aload_n hx hb dX6_common_64 rfl (lv_at hl 1 rfl) ?_
            refine zr_gaN (C := RX2) (T := TX2) (N := 3) (ci := 5) (k := 1) (host := "LeastTerms") S hK hw zi_X2 rfl (by decide) (by decide +kernel) dX6_common_65 h (fun top_19 h => ?_)
            refine lv_aload hx hb dX6_common_68 (lv_at hl 0 rfl) ?_
            refine zr_gaN (C := RX2) (T := TX2) (N := 3) (ci := 5) (k := 1) (host := "LeastTerms") S hK hw zi_X2 rfl (by decide) (by decide +kernel) dX6_common_70 h (fun top_20 h => ?_)
            obtain ⟨ho, h⟩ := h
            refine zr_Vq (As := [.ref top_19, .ref top_20]) (rest := [.int (1 : Int32), .ref result_17]) S hK hw (kX0_greatestDivisor l lo g M14 bench_18 top_19 top_20 _ h) (cwV 2 hts (zg_V zu_343 zu_88 zu_89 zu_90 zu_91) rfl rfl rfl (by decide +kernel) ⟨Nat.le_of_ble_eq_true rfl, Nat.le_of_ble_eq_true rfl⟩) (ci := 3) rfl ho rfl hl.1 rfl (Nat.le_of_ble_eq_true rfl) dX6_common_73 ⟨Nat.le_of_ble_eq_true rfl, Nat.le_of_ble_eq_true rfl⟩ (fun r22 M21 H locs hw h => ?_)
            obtain ⟨a23, rfl, h⟩ := h
            obtain ⟨ho, h⟩ := h
            refine zr_Vv (As := [.int (1 : Int32), .ref a23]) (rest := []) S hK hw (kX2_becomeWhole l lo g M21 result_17 (1 : Int32) a23 _ h) (cwV 2 hts (zg_V zu_344 zu_345 zu_346 zu_99 zu_347) rfl rfl rfl (by decide +kernel) ⟨Nat.le_of_ble_eq_true rfl, Nat.le_of_ble_eq_true rfl⟩) (ci := 5) rfl ho rfl hl.1 rfl (Nat.le_of_ble_eq_true rfl) dX6_common_76 ⟨Nat.le_of_ble_eq_true rfl, Nat.le_of_ble_eq_true rfl⟩ (fun M24 H locs hw h => ?_)
            refine lv_aload_n hx hb dX6_common_79 rfl (lv_at hl 2 rfl) ?_
            obtain ⟨ho, h⟩ := h
            refine zr_Vi (As := []) (rest := []) S hK hw (kX6_keep l lo g M24 a0  _ h) (cwV 0 hts (zg_V zu_306 zu_307 zu_308 zu_303 zu_309) rfl rfl rfl (by decide +kernel) ⟨Nat.le_of_ble_eq_true rfl, Nat.le_of_ble_eq_true rfl⟩) (ci := 9) rfl ho rfl hl.1 rfl (Nat.le_of_ble_eq_true rfl) dX6_common_80 ⟨Nat.le_of_ble_eq_true rfl, Nat.le_of_ble_eq_true rfl⟩ (fun r26 M25 H locs hw h => ?_)
            exact zr_ri S hr hlocks hw h dX6_common_83
          · have h := h.2 hc
            refine lv_bipush (v := (-3 : Int32)) hx hb dX6_common_49 (by decide) ?_
            exact zr_ri S hr hlocks hw h dX6_common_51
        · have h := h.2 hc
          refine lv_bipush (v := (-2 : Int32)) hx hb dX6_common_39 (by decide) ?_
          exact zr_ri S hr hlocks hw h dX6_common_41
set_option maxHeartbeats 4000000 in
set_option maxRecDepth 100000 in
theorem kX6_drop (l : Launch) (lo : Nat) (g : zg) (M : zm_M) (a0 : Nat) (a1 : Int32) (post : Int32 → zm_M → Prop) (h : pX6_drop g.2 a0 a1 post M) : Met l yX6_drop (Cond.code yX6_drop cX6_drop 2 (some .int) :: zU) (({ frames := 2, cells := 0, slots := 0, locals := 61 } : Room)) (zc_P zNF zNM lo g M [.ref a0, .int a1]) (va_Qi post (zc_B lo g) (zA lo)) 0 0 (zA lo) := by
  refine Met.ofW (cc := cX6_drop) (maxL := 2) (ret := (some .int)) (by decide) rfl ?_
  intro p e s m args below meth c s₁ B hml hv
  obtain ⟨rfl, hR, hK⟩ := hv
  have hts := atoms_spec (ws := Cond.code yX6_drop cX6_drop 2 (some .int) :: zU) B.pre
  have hts : ∀ w ∈ zU, w.before _ s = true := fun w hw => hts w (List.mem_cons_of_mem _ hw)
  have hown : s.vm.findClass RX6 = some m.cls := findClass_of_methodNamed B.named
  have hx := B.exec
  have hb := B.bytes
  have hr := B.returns
  have hlocks := B.notSynchronized
  have S : CallFix p m c cX6_drop 2 s ([.ref a0, .int a1] : List Value).toArray zU RX6 := ⟨hx, hb, hml, hown, hts⟩
  have hw : zW lo g s s.heap [] M := ⟨hR, va_S.rf⟩
  have hl := lv_entry ([.ref a0, .int a1]) (n := 2) (Nat.le_of_ble_eq_true rfl)
  rw [lg_entry_eq]
  generalize (lg_sl ([.ref a0, .int a1]) ++ List.replicate (2 - (lg_sl ([.ref a0, .int a1])).length) Slot.unset).toArray = ls at hl ⊢
  have hl : lv_has ls 2 [(0, .ref a0), (1, .int a1)] := hl
  unfold pX6_drop at h
  refine lv_aload_n hx hb dX6_drop_0 rfl (lv_at hl 0 rfl) ?_
  refine lv_iload_n hx hb dX6_drop_1 rfl (lv_at hl 1 rfl) ?_
  obtain ⟨ho, h⟩ := h
  refine zr_Vq (As := [.int a1]) (rest := []) S hK hw (kX6_find l lo g M a0 a1 _ h) (cwV 1 hts (zg_V zu_311 zu_312 zu_313 zu_303 zu_314) rfl rfl rfl (by decide +kernel) ⟨Nat.le_of_ble_eq_true rfl, Nat.le_of_ble_eq_true rfl⟩) (ci := 9) rfl ho rfl hl.1 rfl (Nat.le_of_ble_eq_true rfl) dX6_drop_2 ⟨Nat.le_of_ble_eq_true rfl, Nat.le_of_ble_eq_true rfl⟩ (fun r2 M1 H locs hw h => ?_)
  rcases r2 with _ | a3
  · have h := h.1 rfl
    refine lv_ifnonnullN hx hb dX6_drop_5 ?_
    refine lv_iconst (v := (-1 : Int32)) hx hb dX6_drop_8 (by decide) ?_
    exact zr_ri S hr hlocks hw h dX6_drop_9
  · have h := h.2 a3 rfl
    refine lv_ifnonnull (tgt := 10) hx hb dX6_drop_5 (by decide) ?_
    refine lv_aload_n hx hb dX6_drop_10 rfl (lv_at hl 0 rfl) ?_
    refine zr_ga (C := RX6) (T := TX6) (N := 7) (ci := 9) (k := 1) S hK hw zi_X6 rfl (by decide) zu_294 dX6_drop_11 h (fun taken_4 h => ?_)
    refine lv_iload_n hx hb dX6_drop_14 rfl (lv_at hl 1 rfl) ?_
    refine lv_iconst (v := (0 : Int32)) hx hb dX6_drop_15 (by decide) ?_
    refine zr_zast S hK hw dX6_drop_16 h (fun M5 H locs hw h => ?_)
    refine lv_aload_n hx hb dX6_drop_17 rfl (lv_at hl 0 rfl) ?_
    refine lv_dup hx hb dX6_drop_18 rfl ?_
    refine zr_gi (C := RX6) (T := TX6) (N := 7) (ci := 9) (k := 2) S hK hw zi_X6 rfl (by decide) zu_284 dX6_drop_19 h (fun held_6 h => ?_)
    refine lv_iconst (v := (1 : Int32)) hx hb dX6_drop_22 (by decide) ?_
    refine lv_isub hx hb dX6_drop_23 ?_
    refine zr_p (C := RX6) (T := TX6) (N := 7) (ci := 9) (k := 2) S hK hw zi_X6 tyX6 tyX6_ok nmX6 rfl (by decide) zu_284 rfl rfl rfl dX6_drop_24 h (fun M7 H locs hw h => ?_)
    refine lv_aload_n hx hb dX6_drop_27 rfl (lv_at hl 0 rfl) ?_
    refine zr_gi (C := RX6) (T := TX6) (N := 7) (ci := 9) (k := 2) S hK hw zi_X6 rfl (by decide) zu_284 dX6_drop_28 h (fun held_8 h => ?_)
    exact zr_ri S hr hlocks hw h dX6_drop_31
set_option maxHeartbeats 4000000 in
set_option maxRecDepth 100000 in
theorem kX6_count (l : Launch) (lo : Nat) (g : zg) (M : zm_M) (a0 : Nat) (post : Int32 → zm_M → Prop) (h : pX6_count g.2 a0 post M) : Met l yX6_count (Cond.code yX6_count cX6_count 1 (some .int) :: zU) (({ frames := 1, cells := 0, slots := 0, locals := 40 } : Room)) (zc_P zNF zNM lo g M [.ref a0]) (va_Qi post (zc_B lo g) (zA lo)) 0 0 (zA lo) := by
  refine Met.ofW (cc := cX6_count) (maxL := 1) (ret := (some .int)) (by decide) rfl ?_
  intro p e s m args below meth c s₁ B hml hv
  obtain ⟨rfl, hR, hK⟩ := hv
  have hts := atoms_spec (ws := Cond.code yX6_count cX6_count 1 (some .int) :: zU) B.pre
  have hts : ∀ w ∈ zU, w.before _ s = true := fun w hw => hts w (List.mem_cons_of_mem _ hw)
  have hown : s.vm.findClass RX6 = some m.cls := findClass_of_methodNamed B.named
  have hx := B.exec
  have hb := B.bytes
  have hr := B.returns
  have hlocks := B.notSynchronized
  have S : CallFix p m c cX6_count 1 s ([.ref a0] : List Value).toArray zU RX6 := ⟨hx, hb, hml, hown, hts⟩
  have hw : zW lo g s s.heap [] M := ⟨hR, va_S.rf⟩
  have hl := lv_entry ([.ref a0]) (n := 1) (Nat.le_of_ble_eq_true rfl)
  rw [lg_entry_eq]
  generalize (lg_sl ([.ref a0]) ++ List.replicate (1 - (lg_sl ([.ref a0])).length) Slot.unset).toArray = ls at hl ⊢
  have hl : lv_has ls 1 [(0, .ref a0)] := hl
  unfold pX6_count at h
  refine lv_aload_n hx hb dX6_count_0 rfl (lv_at hl 0 rfl) ?_
  refine zr_gi (C := RX6) (T := TX6) (N := 7) (ci := 9) (k := 2) S hK hw zi_X6 rfl (by decide) zu_284 dX6_count_1 h (fun held_1 h => ?_)
  exact zr_ri S hr hlocks hw h dX6_count_4
set_option maxHeartbeats 4000000 in
set_option maxRecDepth 100000 in
theorem kX6_compare (l : Launch) (lo : Nat) (g : zg) (M : zm_M) (a0 : Nat) (a1 : Int32) (a2 : Int32) (post : Int32 → zm_M → Prop) (h : pX6_compare g.2 a0 a1 a2 post M) : Met l yX6_compare (Cond.code yX6_compare cX6_compare 5 (some .int) :: zU) (({ frames := 5, cells := 0, slots := 0, locals := 138 } : Room)) (zc_P zNF zNM lo g M [.ref a0, .int a1, .int a2]) (va_Qi post (zc_B lo g) (zA lo)) 0 0 (zA lo) := by
  refine Met.ofW (cc := cX6_compare) (maxL := 5) (ret := (some .int)) (by decide) rfl ?_
  intro p e s m args below meth c s₁ B hml hv
  obtain ⟨rfl, hR, hK⟩ := hv
  have hts := atoms_spec (ws := Cond.code yX6_compare cX6_compare 5 (some .int) :: zU) B.pre
  have hts : ∀ w ∈ zU, w.before _ s = true := fun w hw => hts w (List.mem_cons_of_mem _ hw)
  have hown : s.vm.findClass RX6 = some m.cls := findClass_of_methodNamed B.named
  have hx := B.exec
  have hb := B.bytes
  have hr := B.returns
  have hlocks := B.notSynchronized
  have S : CallFix p m c cX6_compare 5 s ([.ref a0, .int a1, .int a2] : List Value).toArray zU RX6 := ⟨hx, hb, hml, hown, hts⟩
  have hw : zW lo g s s.heap [] M := ⟨hR, va_S.rf⟩
  have hl := lv_entry ([.ref a0, .int a1, .int a2]) (n := 5) (Nat.le_of_ble_eq_true rfl)
  rw [lg_entry_eq]
  generalize (lg_sl ([.ref a0, .int a1, .int a2]) ++ List.replicate (5 - (lg_sl ([.ref a0, .int a1, .int a2])).length) Slot.unset).toArray = ls at hl ⊢
  have hl : lv_has ls 5 [(0, .ref a0), (1, .int a1), (2, .int a2)] := hl
  unfold pX6_compare at h
  refine lv_aload_n hx hb dX6_compare_0 rfl (lv_at hl 0 rfl) ?_
  refine lv_iload_n hx hb dX6_compare_1 rfl (lv_at hl 1 rfl) ?_
  obtain ⟨ho, h⟩ := h
  refine zr_Vq (As := [.int a1]) (rest := []) S hK hw (kX6_find l lo g M a0 a1 _ h) (cwV 1 hts (zg_V zu_311 zu_312 zu_313 zu_303 zu_314) rfl rfl rfl (by decide +kernel) ⟨Nat.le_of_ble_eq_true rfl, Nat.le_of_ble_eq_true rfl⟩) (ci := 9) rfl ho rfl hl.1 rfl (Nat.le_of_ble_eq_true rfl) dX6_compare_2 ⟨Nat.le_of_ble_eq_true rfl, Nat.le_of_ble_eq_true rfl⟩ (fun r2 M1 H locs hw h => ?_)
  rcases r2 with _ | a3
  · have h := h.1 rfl
    refine lv_astore_nN (lv' := [(3, .null), (0, .ref a0), (1, .int a1), (2, .int a2)]) hx hb dX6_compare_5 rfl hl (by decide) rfl (fun ls hl => ?_)
    refine lv_aload_n hx hb dX6_compare_6 rfl (lv_at hl 1 rfl) ?_
    refine lv_iload_n hx hb dX6_compare_7 rfl (lv_at hl 3 rfl) ?_
    obtain ⟨ho, h⟩ := h
    refine zr_Vq (As := [.int a2]) (rest := []) S hK hw (kX6_find l lo g M1 a0 a2 _ h) (cwV 1 hts (zg_V zu_311 zu_312 zu_313 zu_303 zu_314) rfl rfl rfl (by decide +kernel) ⟨Nat.le_of_ble_eq_true rfl, Nat.le_of_ble_eq_true rfl⟩) (ci := 9) rfl ho rfl hl.1 rfl (Nat.le_of_ble_eq_true rfl) dX6_compare_8 ⟨Nat.le_of_ble_eq_true rfl, Nat.le_of_ble_eq_true rfl⟩ (fun r5 M4 H locs hw h => ?_)
    rcases r5 with _ | a6
    · have h := h.1 rfl
      refine lv_astoreN (lv' := [(4, .null), (3, .null), (0, .ref a0), (1, .int a1), (2, .int a2)]) hx hb dX6_compare_11 hl (by decide) rfl (fun ls hl => ?_)
      refine lv_aload_nN hx hb dX6_compare_13 rfl (lv_at hl 1 rfl) ?_
      refine lv_ifnullN (tgt := 22) hx hb dX6_compare_14 (by decide) ?_
      refine lv_iconst (v := (-1 : Int32)) hx hb dX6_compare_22 (by decide) ?_
      exact zr_ri S hr hlocks hw h dX6_compare_23
    · have h := h.2 a6 rfl
      refine lv_astore (lv' := [(4, .ref a6), (3, .null), (0, .ref a0), (1, .int a1), (2, .int a2)]) hx hb dX6_compare_11 hl (by decide) rfl (fun ls hl => ?_)
      refine lv_aload_nN hx hb dX6_compare_13 rfl (lv_at hl 1 rfl) ?_
      refine lv_ifnullN (tgt := 22) hx hb dX6_compare_14 (by decide) ?_
      refine lv_iconst (v := (-1 : Int32)) hx hb dX6_compare_22 (by decide) ?_
      exact zr_ri S hr hlocks hw h dX6_compare_23
  · have h := h.2 a3 rfl
    refine lv_astore_n (lv' := [(3, .ref a3), (0, .ref a0), (1, .int a1), (2, .int a2)]) hx hb dX6_compare_5 rfl hl (by decide) rfl (fun ls hl => ?_)
    refine lv_aload_n hx hb dX6_compare_6 rfl (lv_at hl 1 rfl) ?_
    refine lv_iload_n hx hb dX6_compare_7 rfl (lv_at hl 3 rfl) ?_
    obtain ⟨ho, h⟩ := h
    refine zr_Vq (As := [.int a2]) (rest := []) S hK hw (kX6_find l lo g M1 a0 a2 _ h) (cwV 1 hts (zg_V zu_311 zu_312 zu_313 zu_303 zu_314) rfl rfl rfl (by decide +kernel) ⟨Nat.le_of_ble_eq_true rfl, Nat.le_of_ble_eq_true rfl⟩) (ci := 9) rfl ho rfl hl.1 rfl (Nat.le_of_ble_eq_true rfl) dX6_compare_8 ⟨Nat.le_of_ble_eq_true rfl, Nat.le_of_ble_eq_true rfl⟩ (fun r8 M7 H locs hw h => ?_)
    rcases r8 with _ | a9
    · have h := h.1 rfl
      refine lv_astoreN (lv' := [(4, .null), (3, .ref a3), (0, .ref a0), (1, .int a1), (2, .int a2)]) hx hb dX6_compare_11 hl (by decide) rfl (fun ls hl => ?_)
      refine lv_aload_n hx hb dX6_compare_13 rfl (lv_at hl 1 rfl) ?_
      refine lv_ifnull hx hb dX6_compare_14 ?_
      refine lv_aloadN hx hb dX6_compare_17 (lv_at hl 0 rfl) ?_
      refine lv_ifnonnullN hx hb dX6_compare_19 ?_
      refine lv_iconst (v := (-1 : Int32)) hx hb dX6_compare_22 (by decide) ?_
      exact zr_ri S hr hlocks hw h dX6_compare_23
    · have h := h.2 a9 rfl
      refine lv_astore (lv' := [(4, .ref a9), (3, .ref a3), (0, .ref a0), (1, .int a1), (2, .int a2)]) hx hb dX6_compare_11 hl (by decide) rfl (fun ls hl => ?_)
      refine lv_aload_n hx hb dX6_compare_13 rfl (lv_at hl 1 rfl) ?_
      refine lv_ifnull hx hb dX6_compare_14 ?_
      refine lv_aload hx hb dX6_compare_17 (lv_at hl 0 rfl) ?_
      refine lv_ifnonnull (tgt := 24) hx hb dX6_compare_19 (by decide) ?_
      refine lv_aload_n hx hb dX6_compare_24 rfl (lv_at hl 2 rfl) ?_
      refine zr_ga (C := RX6) (T := TX6) (N := 7) (ci := 9) (k := 3) S hK hw zi_X6 rfl (by decide) zu_285 dX6_compare_25 h (fun bench_10 h => ?_)
      refine lv_aload_n hx hb dX6_compare_28 rfl (lv_at hl 1 rfl) ?_
      refine lv_aload hx hb dX6_compare_29 (lv_at hl 0 rfl) ?_
      obtain ⟨ho, h⟩ := h
      refine zr_Vi (As := [.ref a3, .ref a9]) (rest := []) S hK hw (kX0_orderOf l lo g M7 bench_10 a3 a9 _ h) (cwV 2 hts (zg_V zu_348 zu_349 zu_350 zu_90 zu_351) rfl rfl rfl (by decide +kernel) ⟨Nat.le_of_ble_eq_true rfl, Nat.le_of_ble_eq_true rfl⟩) (ci := 3) rfl ho rfl hl.1 rfl (Nat.le_of_ble_eq_true rfl) dX6_compare_31 ⟨Nat.le_of_ble_eq_true rfl, Nat.le_of_ble_eq_true rfl⟩ (fun r12 M11 H locs hw h => ?_)
      exact zr_ri S hr hlocks hw h dX6_compare_34
set_option maxHeartbeats 4000000 in
set_option maxRecDepth 100000 in
theorem kX6_of (l : Launch) (lo : Nat) (g : zg) (M : zm_M) (a0 : Nat) (a1 : Int32) (a2 : Int32) (post : Int32 → zm_M → Prop) (h : pX6_of g.2 a0 a1 a2 post M) : Met l yX6_of (Cond.code yX6_of cX6_of 4 (some .int) :: zU) (({ frames := 4, cells := 0, slots := 0, locals := 101 } : Room)) (zc_P zNF zNM lo g M [.ref a0, .int a1, .int a2]) (va_Qi post (zc_B lo g) (zA lo)) 0 0 (zA lo) := by
  refine Met.ofW (cc := cX6_of) (maxL := 4) (ret := (some .int)) (by decide) rfl ?_
  intro p e s m args below meth c s₁ B hml hv
  obtain ⟨rfl, hR, hK⟩ := hv
  have hts := atoms_spec (ws := Cond.code yX6_of cX6_of 4 (some .int) :: zU) B.pre
  have hts : ∀ w ∈ zU, w.before _ s = true := fun w hw => hts w (List.mem_cons_of_mem _ hw)
  have hown : s.vm.findClass RX6 = some m.cls := findClass_of_methodNamed B.named
  have hx := B.exec
  have hb := B.bytes
  have hr := B.returns
  have hlocks := B.notSynchronized
  have S : CallFix p m c cX6_of 4 s ([.ref a0, .int a1, .int a2] : List Value).toArray zU RX6 := ⟨hx, hb, hml, hown, hts⟩
  have hw : zW lo g s s.heap [] M := ⟨hR, va_S.rf⟩
  have hl := lv_entry ([.ref a0, .int a1, .int a2]) (n := 4) (Nat.le_of_ble_eq_true rfl)
  rw [lg_entry_eq]
  generalize (lg_sl ([.ref a0, .int a1, .int a2]) ++ List.replicate (4 - (lg_sl ([.ref a0, .int a1, .int a2])).length) Slot.unset).toArray = ls at hl ⊢
  have hl : lv_has ls 4 [(0, .ref a0), (1, .int a1), (2, .int a2)] := hl
  unfold pX6_of at h
  refine lv_aload_n hx hb dX6_of_0 rfl (lv_at hl 0 rfl) ?_
  refine lv_iload_n hx hb dX6_of_1 rfl (lv_at hl 1 rfl) ?_
  obtain ⟨ho, h⟩ := h
  refine zr_Vq (As := [.int a1]) (rest := []) S hK hw (kX6_find l lo g M a0 a1 _ h) (cwV 1 hts (zg_V zu_311 zu_312 zu_313 zu_303 zu_314) rfl rfl rfl (by decide +kernel) ⟨Nat.le_of_ble_eq_true rfl, Nat.le_of_ble_eq_true rfl⟩) (ci := 9) rfl ho rfl hl.1 rfl (Nat.le_of_ble_eq_true rfl) dX6_of_2 ⟨Nat.le_of_ble_eq_true rfl, Nat.le_of_ble_eq_true rfl⟩ (fun r2 M1 H locs hw h => ?_)
  rcases r2 with _ | a3
  · have h := h.1 rfl
    refine lv_astore_nN (lv' := [(3, .null), (0, .ref a0), (1, .int a1), (2, .int a2)]) hx hb dX6_of_5 rfl hl (by decide) rfl (fun ls hl => ?_)
    refine lv_aload_nN hx hb dX6_of_6 rfl (lv_at hl 0 rfl) ?_
    refine lv_ifnonnullN hx hb dX6_of_7 ?_
    refine lv_iconst (v := (-1 : Int32)) hx hb dX6_of_10 (by decide) ?_
    exact zr_ri S hr hlocks hw h dX6_of_11
  · have h := h.2 a3 rfl
    refine lv_astore_n (lv' := [(3, .ref a3), (0, .ref a0), (1, .int a1), (2, .int a2)]) hx hb dX6_of_5 rfl hl (by decide) rfl (fun ls hl => ?_)
    refine lv_aload_n hx hb dX6_of_6 rfl (lv_at hl 0 rfl) ?_
    refine lv_ifnonnull (tgt := 12) hx hb dX6_of_7 (by decide) ?_
    refine lv_iload_n hx hb dX6_of_12 rfl (lv_at hl 3 rfl) ?_
    by_cases hd : a2.toInt < 0 ∨ 3 < a2.toInt
    · refine lv_tableOut (tgt := 78) hx hb dX6_of_13 hd (by decide) ?_
      have h := h.1 hd
      refine lv_iconst (v := (-1 : Int32)) hx hb dX6_of_78 (by decide) ?_
      exact zr_ri S hr hlocks hw h dX6_of_79
    · have hcs : a2.toInt = 0 ∨ a2.toInt = 1 ∨ a2.toInt = 2 ∨ a2.toInt = 3 := by omega
      have h := h.2
      rcases hcs with q | q | q | q
      · refine lv_tableIn (off := 31) (tgt := 44) hx hb dX6_of_13 (by omega) (by omega) (by rw [q]; rfl) (by decide) ?_
        have h := h.1 q
        refine lv_aload_n hx hb dX6_of_44 rfl (lv_at hl 0 rfl) ?_
        refine zr_giN (C := RX2) (T := TX2) (N := 3) (ci := 5) (k := 0) (host := "LeastTerms") S hK hw zi_X2 rfl (by decide) (by decide +kernel) dX6_of_45 h (fun sign_4 h => ?_)
        exact zr_ri S hr hlocks hw h dX6_of_48
      · refine lv_tableIn (off := 36) (tgt := 49) hx hb dX6_of_13 (by omega) (by omega) (by rw [q]; rfl) (by decide) ?_
        have h := h.2.1 q
        refine lv_aload_n hx hb dX6_of_49 rfl (lv_at hl 0 rfl) ?_
        obtain ⟨ho, h⟩ := h
        refine zr_Vi (As := []) (rest := []) S hK hw (kX2_isWhole l lo g M1 a3  _ h) (cwV 0 hts (zg_V zu_339 zu_340 zu_341 zu_99 zu_342) rfl rfl rfl (by decide +kernel) ⟨Nat.le_of_ble_eq_true rfl, Nat.le_of_ble_eq_true rfl⟩) (ci := 5) rfl ho rfl hl.1 rfl (Nat.le_of_ble_eq_true rfl) dX6_of_50 ⟨Nat.le_of_ble_eq_true rfl, Nat.le_of_ble_eq_true rfl⟩ (fun r6 M5 H locs hw h => ?_)
        refine lv_if_eq (tgt := 60) hx hb dX6_of_53 (by decide) (fun hc => ?_) (fun hc => ?_)
        · have h := h.1 hc
          refine lv_iconst (v := (0 : Int32)) hx hb dX6_of_60 (by decide) ?_
          exact zr_ri S hr hlocks hw h dX6_of_61
        · have h := h.2 hc
          refine lv_iconst (v := (1 : Int32)) hx hb dX6_of_56 (by decide) ?_
          refine lv_goto (tgt := 61) hx hb dX6_of_57 (by decide) ?_
          exact zr_ri S hr hlocks hw h dX6_of_61
      · refine lv_tableIn (off := 49) (tgt := 62) hx hb dX6_of_13 (by omega) (by omega) (by rw [q]; rfl) (by decide) ?_
        have h := h.2.2.1 q
        refine lv_aload_n hx hb dX6_of_62 rfl (lv_at hl 0 rfl) ?_
        refine zr_gaN (C := RX2) (T := TX2) (N := 3) (ci := 5) (k := 1) (host := "LeastTerms") S hK hw zi_X2 rfl (by decide) (by decide +kernel) dX6_of_63 h (fun top_7 h => ?_)
        obtain ⟨ho, h⟩ := h
        refine zr_Vi (As := []) (rest := []) S hK hw (kX5_bits l lo g M1 top_7  _ h) (cwV 0 hts (zg_V zu_352 zu_130 zu_131 zu_12 zu_132) rfl rfl rfl (by decide +kernel) ⟨Nat.le_of_ble_eq_true rfl, Nat.le_of_ble_eq_true rfl⟩) (ci := 8) rfl ho rfl hl.1 rfl (Nat.le_of_ble_eq_true rfl) dX6_of_66 ⟨Nat.le_of_ble_eq_true rfl, Nat.le_of_ble_eq_true rfl⟩ (fun r9 M8 H locs hw h => ?_)
        exact zr_ri S hr hlocks hw h dX6_of_69
      · refine lv_tableIn (off := 57) (tgt := 70) hx hb dX6_of_13 (by omega) (by omega) (by rw [q]; rfl) (by decide) ?_
        have h := h.2.2.2 q
        refine lv_aload_n hx hb dX6_of_70 rfl (lv_at hl 0 rfl) ?_
        refine zr_gaN (C := RX2) (T := TX2) (N := 3) (ci := 5) (k := 2) (host := "LeastTerms") S hK hw zi_X2 rfl (by decide) (by decide +kernel) dX6_of_71 h (fun bottom_10 h => ?_)
        obtain ⟨ho, h⟩ := h
        refine zr_Vi (As := []) (rest := []) S hK hw (kX5_bits l lo g M1 bottom_10  _ h) (cwV 0 hts (zg_V zu_352 zu_130 zu_131 zu_12 zu_132) rfl rfl rfl (by decide +kernel) ⟨Nat.le_of_ble_eq_true rfl, Nat.le_of_ble_eq_true rfl⟩) (ci := 8) rfl ho rfl hl.1 rfl (Nat.le_of_ble_eq_true rfl) dX6_of_74 ⟨Nat.le_of_ble_eq_true rfl, Nat.le_of_ble_eq_true rfl⟩ (fun r12 M11 H locs hw h => ?_)
        exact zr_ri S hr hlocks hw h dX6_of_77
set_option maxHeartbeats 4000000 in
set_option maxRecDepth 100000 in
theorem kX6_terms (l : Launch) (lo : Nat) (g : zg) (M : zm_M) (a0 : Nat) (a1 : Int32) (post : Int32 → zm_M → Prop) (h : pX6_terms g.2 a0 a1 post M) : Met l yX6_terms (Cond.code yX6_terms cX6_terms 3 (some .int) :: zU) (({ frames := 6, cells := 0, slots := 0, locals := 171 } : Room)) (zc_P zNF zNM lo g M [.ref a0, .int a1]) (va_Qi post (zc_B lo g) (zA lo)) 0 0 (zA lo) := by
  refine Met.ofW (cc := cX6_terms) (maxL := 3) (ret := (some .int)) (by decide) rfl ?_
  intro p e s m args below meth c s₁ B hml hv
  obtain ⟨rfl, hR, hK⟩ := hv
  have hts := atoms_spec (ws := Cond.code yX6_terms cX6_terms 3 (some .int) :: zU) B.pre
  have hts : ∀ w ∈ zU, w.before _ s = true := fun w hw => hts w (List.mem_cons_of_mem _ hw)
  have hown : s.vm.findClass RX6 = some m.cls := findClass_of_methodNamed B.named
  have hx := B.exec
  have hb := B.bytes
  have hr := B.returns
  have hlocks := B.notSynchronized
  have S : CallFix p m c cX6_terms 3 s ([.ref a0, .int a1] : List Value).toArray zU RX6 := ⟨hx, hb, hml, hown, hts⟩
  have hw : zW lo g s s.heap [] M := ⟨hR, va_S.rf⟩
  have hl := lv_entry ([.ref a0, .int a1]) (n := 3) (Nat.le_of_ble_eq_true rfl)
  rw [lg_entry_eq]
  generalize (lg_sl ([.ref a0, .int a1]) ++ List.replicate (3 - (lg_sl ([.ref a0, .int a1])).length) Slot.unset).toArray = ls at hl ⊢
  have hl : lv_has ls 3 [(0, .ref a0), (1, .int a1)] := hl
  unfold pX6_terms at h
  refine lv_aload_n hx hb dX6_terms_0 rfl (lv_at hl 0 rfl) ?_
  refine lv_iload_n hx hb dX6_terms_1 rfl (lv_at hl 1 rfl) ?_
  obtain ⟨ho, h⟩ := h
  refine zr_Vq (As := [.int a1]) (rest := []) S hK hw (kX6_find l lo g M a0 a1 _ h) (cwV 1 hts (zg_V zu_311 zu_312 zu_313 zu_303 zu_314) rfl rfl rfl (by decide +kernel) ⟨Nat.le_of_ble_eq_true rfl, Nat.le_of_ble_eq_true rfl⟩) (ci := 9) rfl ho rfl hl.1 rfl (Nat.le_of_ble_eq_true rfl) dX6_terms_2 ⟨Nat.le_of_ble_eq_true rfl, Nat.le_of_ble_eq_true rfl⟩ (fun r2 M1 H locs hw h => ?_)
  rcases r2 with _ | a3
  · have h := h.1 rfl
    refine lv_astore_nN (lv' := [(2, .null), (0, .ref a0), (1, .int a1)]) hx hb dX6_terms_5 rfl hl (by decide) rfl (fun ls hl => ?_)
    refine lv_aload_nN hx hb dX6_terms_6 rfl (lv_at hl 0 rfl) ?_
    refine lv_ifnonnullN hx hb dX6_terms_7 ?_
    refine lv_iconst (v := (-1 : Int32)) hx hb dX6_terms_10 (by decide) ?_
    exact zr_ri S hr hlocks hw h dX6_terms_11
  · have h := h.2 a3 rfl
    refine lv_astore_n (lv' := [(2, .ref a3), (0, .ref a0), (1, .int a1)]) hx hb dX6_terms_5 rfl hl (by decide) rfl (fun ls hl => ?_)
    refine lv_aload_n hx hb dX6_terms_6 rfl (lv_at hl 0 rfl) ?_
    refine lv_ifnonnull (tgt := 12) hx hb dX6_terms_7 (by decide) ?_
    refine lv_aload_n hx hb dX6_terms_12 rfl (lv_at hl 1 rfl) ?_
    refine zr_ga (C := RX6) (T := TX6) (N := 7) (ci := 9) (k := 4) S hK hw zi_X6 rfl (by decide) zu_353 dX6_terms_13 h (fun chain_4 h => ?_)
    refine lv_aload_n hx hb dX6_terms_16 rfl (lv_at hl 0 rfl) ?_
    obtain ⟨ho, h⟩ := h
    refine zr_Vv (As := [.ref a3]) (rest := []) S hK hw (kX1_begin l lo g M1 chain_4 a3 _ h) (cwV 1 hts (zg_V zu_354 zu_355 zu_356 zu_191 zu_357) rfl rfl rfl (by decide +kernel) ⟨Nat.le_of_ble_eq_true rfl, Nat.le_of_ble_eq_true rfl⟩) (ci := 4) rfl ho rfl hl.1 rfl (Nat.le_of_ble_eq_true rfl) dX6_terms_17 ⟨Nat.le_of_ble_eq_true rfl, Nat.le_of_ble_eq_true rfl⟩ (fun M5 H locs hw h => ?_)
    refine lv_aload_n hx hb dX6_terms_20 rfl (lv_at hl 1 rfl) ?_
    refine zr_ga (C := RX6) (T := TX6) (N := 7) (ci := 9) (k := 4) S hK hw zi_X6 rfl (by decide) zu_353 dX6_terms_21 h (fun chain_6 h => ?_)
    obtain ⟨ho, h⟩ := h
    refine zr_Vi (As := []) (rest := []) S hK hw (kX1_length l lo g M5 chain_6  _ h) (cwV 0 hts (zg_V zu_358 zu_359 zu_360 zu_191 zu_361) rfl rfl rfl (by decide +kernel) ⟨Nat.le_of_ble_eq_true rfl, Nat.le_of_ble_eq_true rfl⟩) (ci := 4) rfl ho rfl hl.1 rfl (Nat.le_of_ble_eq_true rfl) dX6_terms_24 ⟨Nat.le_of_ble_eq_true rfl, Nat.le_of_ble_eq_true rfl⟩ (fun r8 M7 H locs hw h => ?_)
    exact zr_ri S hr hlocks hw h dX6_terms_27
set_option maxHeartbeats 4000000 in
set_option maxRecDepth 100000 in
theorem sX6_term_92 {p : Program} {l : Launch} {e : Env} {s : State} {m : MethodId} {args : Array Value} {below : List Frame} {meth : Method} {c : Code} {lo : Nat} {g : zg} {post : Int32 → zm_M → Prop}  (S : CallFix p m c cX6_term 4 s args zU RX6) (hr : meth.sig.returnType = (some .int)) (hlocks : meth.locks = false) (hK : zk_K zNF zNM g s)  : ∀ (v0 : Nat) (M : zm_M), pX6_term_92 g.2 post  v0 M → ∀ (H : Heap) (locs : List Loc) (ls : Array Slot), zW lo g s H locs M → lv_has ls 4 [(0, .ref v0)] → W p l e ({ frames := 7, cells := 0, slots := 0, locals := 197 } : Room) s m args below meth c H locs 0 0 (MQ below (va_Qi post (zc_B lo g) (zA lo)) args s 0 0 (zA lo)) (F0 m 92 ls []) := by
  obtain ⟨hx, hb, hml, hown, hts⟩ := id S
  intro v0 M h H locs ls hw hl
  unfold pX6_term_92 at h
  refine lv_aload_n hx hb dX6_term_92 rfl (lv_at hl 0 rfl) ?_
  obtain ⟨ho, h⟩ := h
  refine zr_Vi (As := []) (rest := []) S hK hw (kX6_keep l lo g M v0  _ h) (cwV 0 hts (zg_V zu_306 zu_307 zu_308 zu_303 zu_309) rfl rfl rfl (by decide +kernel) ⟨Nat.le_of_ble_eq_true rfl, Nat.le_of_ble_eq_true rfl⟩) (ci := 9) rfl ho rfl hl.1 rfl (Nat.le_of_ble_eq_true rfl) dX6_term_93 ⟨Nat.le_of_ble_eq_true rfl, Nat.le_of_ble_eq_true rfl⟩ (fun r17 M16 H locs hw h => ?_)
  exact zr_ri S hr hlocks hw h dX6_term_96
set_option maxHeartbeats 4000000 in
set_option maxRecDepth 100000 in
theorem kX6_term (l : Launch) (lo : Nat) (g : zg) (M : zm_M) (a0 : Nat) (a1 : Int32) (a2 : Int32) (post : Int32 → zm_M → Prop) (h : pX6_term g.2 a0 a1 a2 post M) : Met l yX6_term (Cond.code yX6_term cX6_term 4 (some .int) :: zU) (({ frames := 7, cells := 0, slots := 0, locals := 197 } : Room)) (zc_P zNF zNM lo g M [.ref a0, .int a1, .int a2]) (va_Qi post (zc_B lo g) (zA lo)) 0 0 (zA lo) := by
  refine Met.ofW (cc := cX6_term) (maxL := 4) (ret := (some .int)) (by decide) rfl ?_
  intro p e s m args below meth c s₁ B hml hv
  obtain ⟨rfl, hR, hK⟩ := hv
  have hts := atoms_spec (ws := Cond.code yX6_term cX6_term 4 (some .int) :: zU) B.pre
  have hts : ∀ w ∈ zU, w.before _ s = true := fun w hw => hts w (List.mem_cons_of_mem _ hw)
  have hown : s.vm.findClass RX6 = some m.cls := findClass_of_methodNamed B.named
  have hx := B.exec
  have hb := B.bytes
  have hr := B.returns
  have hlocks := B.notSynchronized
  have S : CallFix p m c cX6_term 4 s ([.ref a0, .int a1, .int a2] : List Value).toArray zU RX6 := ⟨hx, hb, hml, hown, hts⟩
  have hw : zW lo g s s.heap [] M := ⟨hR, va_S.rf⟩
  have hl := lv_entry ([.ref a0, .int a1, .int a2]) (n := 4) (Nat.le_of_ble_eq_true rfl)
  rw [lg_entry_eq]
  generalize (lg_sl ([.ref a0, .int a1, .int a2]) ++ List.replicate (4 - (lg_sl ([.ref a0, .int a1, .int a2])).length) Slot.unset).toArray = ls at hl ⊢
  have hl : lv_has ls 4 [(0, .ref a0), (1, .int a1), (2, .int a2)] := hl
  unfold pX6_term at h
  refine lv_aload_n hx hb dX6_term_0 rfl (lv_at hl 0 rfl) ?_
  refine lv_iload_n hx hb dX6_term_1 rfl (lv_at hl 1 rfl) ?_
  obtain ⟨ho, h⟩ := h
  refine zr_Vq (As := [.int a1]) (rest := []) S hK hw (kX6_find l lo g M a0 a1 _ h) (cwV 1 hts (zg_V zu_311 zu_312 zu_313 zu_303 zu_314) rfl rfl rfl (by decide +kernel) ⟨Nat.le_of_ble_eq_true rfl, Nat.le_of_ble_eq_true rfl⟩) (ci := 9) rfl ho rfl hl.1 rfl (Nat.le_of_ble_eq_true rfl) dX6_term_2 ⟨Nat.le_of_ble_eq_true rfl, Nat.le_of_ble_eq_true rfl⟩ (fun r2 M1 H locs hw h => ?_)
  rcases r2 with _ | a3
  · have h := h.1 rfl
    refine lv_astore_nN (lv' := [(3, .null), (0, .ref a0), (1, .int a1), (2, .int a2)]) hx hb dX6_term_5 rfl hl (by decide) rfl (fun ls hl => ?_)
    refine lv_aload_nN hx hb dX6_term_6 rfl (lv_at hl 0 rfl) ?_
    refine lv_ifnonnullN hx hb dX6_term_7 ?_
    refine lv_iconst (v := (-1 : Int32)) hx hb dX6_term_10 (by decide) ?_
    exact zr_ri S hr hlocks hw h dX6_term_11
  · have h := h.2 a3 rfl
    refine lv_astore_n (lv' := [(3, .ref a3), (0, .ref a0), (1, .int a1), (2, .int a2)]) hx hb dX6_term_5 rfl hl (by decide) rfl (fun ls hl => ?_)
    refine lv_aload_n hx hb dX6_term_6 rfl (lv_at hl 0 rfl) ?_
    refine lv_ifnonnull (tgt := 12) hx hb dX6_term_7 (by decide) ?_
    refine lv_aload_n hx hb dX6_term_12 rfl (lv_at hl 1 rfl) ?_
    refine zr_ga (C := RX6) (T := TX6) (N := 7) (ci := 9) (k := 4) S hK hw zi_X6 rfl (by decide) zu_353 dX6_term_13 h (fun chain_4 h => ?_)
    refine lv_aload_n hx hb dX6_term_16 rfl (lv_at hl 0 rfl) ?_
    obtain ⟨ho, h⟩ := h
    refine zr_Vv (As := [.ref a3]) (rest := []) S hK hw (kX1_begin l lo g M1 chain_4 a3 _ h) (cwV 1 hts (zg_V zu_354 zu_355 zu_356 zu_191 zu_357) rfl rfl rfl (by decide +kernel) ⟨Nat.le_of_ble_eq_true rfl, Nat.le_of_ble_eq_true rfl⟩) (ci := 4) rfl ho rfl hl.1 rfl (Nat.le_of_ble_eq_true rfl) dX6_term_17 ⟨Nat.le_of_ble_eq_true rfl, Nat.le_of_ble_eq_true rfl⟩ (fun M5 H locs hw h => ?_)
    refine lv_aload_n hx hb dX6_term_20 rfl (lv_at hl 1 rfl) ?_
    refine zr_ga (C := RX6) (T := TX6) (N := 7) (ci := 9) (k := 4) S hK hw zi_X6 rfl (by decide) zu_353 dX6_term_21 h (fun chain_6 h => ?_)
    refine lv_iload_n hx hb dX6_term_24 rfl (lv_at hl 3 rfl) ?_
    obtain ⟨ho, h⟩ := h
    refine zr_Vi (As := [.int a2]) (rest := []) S hK hw (kX1_goTo l lo g M5 chain_6 a2 _ h) (cwV 1 hts (zg_V zu_362 zu_363 zu_364 zu_191 zu_365) rfl rfl rfl (by decide +kernel) ⟨Nat.le_of_ble_eq_true rfl, Nat.le_of_ble_eq_true rfl⟩) (ci := 4) rfl ho rfl hl.1 rfl (Nat.le_of_ble_eq_true rfl) dX6_term_25 ⟨Nat.le_of_ble_eq_true rfl, Nat.le_of_ble_eq_true rfl⟩ (fun r8 M7 H locs hw h => ?_)
    refine lv_if_ne (tgt := 33) hx hb dX6_term_28 (by decide) (fun hc => ?_) (fun hc => ?_)
    · have h := h.1 hc
      refine lv_aload_n hx hb dX6_term_33 rfl (lv_at hl 1 rfl) ?_
      obtain ⟨ho, h⟩ := h
      refine zr_Vi (As := []) (rest := []) S hK hw (kX6_isFull l lo g M7 a0  _ h) (cwV 0 hts (zg_V zu_300 zu_301 zu_302 zu_303 zu_304) rfl rfl rfl (by decide +kernel) ⟨Nat.le_of_ble_eq_true rfl, Nat.le_of_ble_eq_true rfl⟩) (ci := 9) rfl ho rfl hl.1 rfl (Nat.le_of_ble_eq_true rfl) dX6_term_34 ⟨Nat.le_of_ble_eq_true rfl, Nat.le_of_ble_eq_true rfl⟩ (fun r10 M9 H locs hw h => ?_)
      refine lv_if_eq (tgt := 43) hx hb dX6_term_37 (by decide) (fun hc => ?_) (fun hc => ?_)
      · have h := h.1 hc
        refine lv_iload_n hx hb dX6_term_43 rfl (lv_at hl 3 rfl) ?_
        refine lv_if_ne (tgt := 74) hx hb dX6_term_44 (by decide) (fun hc => ?_) (fun hc => ?_)
        · have h := h.1 hc
          refine lv_aload_n hx hb dX6_term_74 rfl (lv_at hl 1 rfl) ?_
          refine zr_ga (C := RX6) (T := TX6) (N := 7) (ci := 9) (k := 3) S hK hw zi_X6 rfl (by decide) zu_285 dX6_term_75 h (fun bench_11 h => ?_)
          refine zr_gaN (C := RX0) (T := TX0) (N := 5) (ci := 3) (k := 0) (host := "LeastTerms") S hK hw zi_X0 rfl (by decide) (by decide +kernel) dX6_term_78 h (fun result_12 h => ?_)
          refine lv_iconst (v := (1 : Int32)) hx hb dX6_term_81 (by decide) ?_
          refine lv_aload_n hx hb dX6_term_82 rfl (lv_at hl 1 rfl) ?_
          refine zr_ga (C := RX6) (T := TX6) (N := 7) (ci := 9) (k := 4) S hK hw zi_X6 rfl (by decide) zu_353 dX6_term_83 h (fun chain_13 h => ?_)
          refine zr_gaN (C := RX1) (T := TX1) (N := 11) (ci := 4) (k := 3) (host := "LeastTerms") S hK hw zi_X1 rfl (by decide) (by decide +kernel) dX6_term_86 h (fun link_14 h => ?_)
          obtain ⟨ho, h⟩ := h
          refine zr_Vv (As := [.int (1 : Int32), .ref link_14]) (rest := []) S hK hw (kX2_becomeWhole l lo g M9 result_12 (1 : Int32) link_14 _ h) (cwV 2 hts (zg_V zu_344 zu_345 zu_346 zu_99 zu_347) rfl rfl rfl (by decide +kernel) ⟨Nat.le_of_ble_eq_true rfl, Nat.le_of_ble_eq_true rfl⟩) (ci := 5) rfl ho rfl hl.1 rfl (Nat.le_of_ble_eq_true rfl) dX6_term_89 ⟨Nat.le_of_ble_eq_true rfl, Nat.le_of_ble_eq_true rfl⟩ (fun M15 H locs hw h => ?_)
          exact sX6_term_92 S hr hlocks hK  a0 _ h _ _ _ hw (lv_sub hl [1] rfl)
        · have h := h.2 hc
          refine lv_aload_n hx hb dX6_term_47 rfl (lv_at hl 1 rfl) ?_
          refine zr_ga (C := RX6) (T := TX6) (N := 7) (ci := 9) (k := 3) S hK hw zi_X6 rfl (by decide) zu_285 dX6_term_48 h (fun bench_18 h => ?_)
          refine zr_gaN (C := RX0) (T := TX0) (N := 5) (ci := 3) (k := 0) (host := "LeastTerms") S hK hw zi_X0 rfl (by decide) (by decide +kernel) dX6_term_51 h (fun result_19 h => ?_)
          refine lv_aload_n hx hb dX6_term_54 rfl (lv_at hl 1 rfl) ?_
          refine zr_ga (C := RX6) (T := TX6) (N := 7) (ci := 9) (k := 4) S hK hw zi_X6 rfl (by decide) zu_353 dX6_term_55 h (fun chain_20 h => ?_)
          refine zr_giN (C := RX1) (T := TX1) (N := 11) (ci := 4) (k := 0) (host := "LeastTerms") S hK hw zi_X1 rfl (by decide) (by decide +kernel) dX6_term_58 h (fun headSign_21 h => ?_)
          refine lv_aload_n hx hb dX6_term_61 rfl (lv_at hl 1 rfl) ?_
          refine zr_ga (C := RX6) (T := TX6) (N := 7) (ci := 9) (k := 4) S hK hw zi_X6 rfl (by decide) zu_353 dX6_term_62 h (fun chain_22 h => ?_)
          refine zr_gaN (C := RX1) (T := TX1) (N := 11) (ci := 4) (k := 1) (host := "LeastTerms") S hK hw zi_X1 rfl (by decide) (by decide +kernel) dX6_term_65 h (fun head_23 h => ?_)
          obtain ⟨ho, h⟩ := h
          refine zr_Vv (As := [.int headSign_21, .ref head_23]) (rest := []) S hK hw (kX2_becomeWhole l lo g M9 result_19 headSign_21 head_23 _ h) (cwV 2 hts (zg_V zu_344 zu_345 zu_346 zu_99 zu_347) rfl rfl rfl (by decide +kernel) ⟨Nat.le_of_ble_eq_true rfl, Nat.le_of_ble_eq_true rfl⟩) (ci := 5) rfl ho rfl hl.1 rfl (Nat.le_of_ble_eq_true rfl) dX6_term_68 ⟨Nat.le_of_ble_eq_true rfl, Nat.le_of_ble_eq_true rfl⟩ (fun M24 H locs hw h => ?_)
          refine lv_goto (tgt := 92) hx hb dX6_term_71 (by decide) ?_
          exact sX6_term_92 S hr hlocks hK  a0 _ h _ _ _ hw (lv_sub hl [1] rfl)
      · have h := h.2 hc
        refine lv_bipush (v := (-3 : Int32)) hx hb dX6_term_40 (by decide) ?_
        exact zr_ri S hr hlocks hw h dX6_term_42
    · have h := h.2 hc
      refine lv_iconst (v := (-1 : Int32)) hx hb dX6_term_31 (by decide) ?_
      exact zr_ri S hr hlocks hw h dX6_term_32
