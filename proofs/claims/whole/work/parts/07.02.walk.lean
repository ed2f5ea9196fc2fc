set_option maxHeartbeats 4000000 in
set_option maxRecDepth 100000 in
theorem sX5_divideBy_16 {p : Program} {l : Launch} {e : Env} {s : State} {m : MethodId} {args : Array Value} {below : List Frame} {meth : Method} {c : Code} {lo : Nat} {g : zg} {post : Int32 → zm_M → Prop} {k57 : Nat → Int64 → zm_M → Prop} (S : CallFix p m c cX5_divideBy 7 s args zU RX5) (hr : meth.sig.returnType = (some .int)) (hlocks : meth.locks = false) (hK : zk_K zNF zNM g s) (hk57 : ∀ (v0 : Nat) (v2 : Int64) (M : zm_M), k57 v0 v2 M → ∀ (H : Heap) (locs : List Loc) (ls : Array Slot), zW lo g s H locs M → lv_has ls 7 [(0, .ref v0), (2, .long v2)] → W p l e ({ frames := 2, cells := 0, slots := 0, locals := 63 } : Room) s m args below meth c H locs 0 0 (MQ below (va_Qi post (zc_B lo g) (zA lo)) args s 0 0 (zA lo)) (F0 m 57 ls [])) : ∀ (n : Nat) (v0 : Nat) (v1 : Int32) (v2 : Int64) (v4 : Int32) (M : zm_M), pX5_divideBy_16 g.2 post k57 n v0 v1 v2 v4 M → ∀ (H : Heap) (locs : List Loc) (ls : Array Slot), zW lo g s H locs M → lv_has ls 7 [(0, .ref v0), (1, .int v1), (2, .long v2), (4, .int v4)] → W p l e ({ frames := 2, cells := 0, slots := 0, locals := 63 } : Room) s m args below meth c H locs 0 0 (MQ below (va_Qi post (zc_B lo g) (zA lo)) args s 0 0 (zA lo)) (F0 m 16 ls []) := by
  obtain ⟨hx, hb, hml, hown, hts⟩ := id S
  intro n
  induction n with
  | zero =>
    intro v0 v1 v2 v4 M h
    exact False.elim h
  | succ n16 ih =>
    intro v0 v1 v2 v4 M h H locs ls hw hl
    rw [pX5_divideBy_16] at h
    refine lv_iload hx hb dX5_divideBy_16 (lv_at hl 3 rfl) ?_
    refine lv_if_lt (tgt := 57) hx hb dX5_divideBy_18 (by decide) (fun hc => ?_) (fun hc => ?_)
    · have h := h.1 hc
      exact hk57 v0 v2 _ h _ _ _ hw (lv_sub hl [0, 2] rfl)
    · have h := h.2 hc
      refine lv_lload_n hx hb dX5_divideBy_21 rfl (lv_at hl 2 rfl) ?_
      refine lv_bipush (v := (32 : Int32)) hx hb dX5_divideBy_22 (by decide) ?_
      refine lv_lshl hx hb dX5_divideBy_24 rfl ?_
      refine lv_aload_n hx hb dX5_divideBy_25 rfl (lv_at hl 0 rfl) ?_
      refine lv_iload hx hb dX5_divideBy_26 (lv_at hl 3 rfl) ?_
      obtain ⟨ho, h⟩ := h
      refine zr_Vl (As := [.int v4]) (rest := [.long (v2 <<< ((32 : Int32).toInt64 &&& 63))]) S hK hw (kX5_limbAt l lo g M v0 v4 _ h) (cwV 1 hts (zg_V zu_26 zu_27 zu_28 zu_12 zu_29) rfl rfl rfl (by decide +kernel) ⟨Nat.le_of_ble_eq_true rfl, Nat.le_of_ble_eq_true rfl⟩) (ci := 8) rfl ho rfl hl.1 rfl (Nat.le_of_ble_eq_true rfl) dX5_divideBy_28 ⟨Nat.le_of_ble_eq_true rfl, Nat.le_of_ble_eq_true rfl⟩ (fun r5 M4 H locs hw h => ?_)
      refine lv_lor hx hb dX5_divideBy_31 ?_
      refine lv_topl (fun x6 ex6 => ?_)
      have h := h x6 ex6
      refine lv_lstore (lv' := [(5, .long x6), (0, .ref v0), (1, .int v1), (2, .long v2), (4, .int v4)]) hx hb dX5_divideBy_32 hl (by decide) rfl (fun ls hl => ?_)
      refine lv_aload_n hx hb dX5_divideBy_34 rfl (lv_at hl 1 rfl) ?_
      refine lv_iload hx hb dX5_divideBy_35 (lv_at hl 4 rfl) ?_
      refine lv_lload hx hb dX5_divideBy_37 (lv_at hl 0 rfl) ?_
      refine lv_iload_n hx hb dX5_divideBy_39 rfl (lv_at hl 2 rfl) ?_
      refine lv_i2l hx hb dX5_divideBy_40 rfl ?_
      refine lv_ldiv hx hb dX5_divideBy_41 h.1 ?_
      have h := h.2
      obtain ⟨ho, h⟩ := h
      refine zr_Vv (As := [.int v4, .long (x6 / (v1.toInt64))]) (rest := []) S hK hw (kX5_put l lo g M4 v0 v4 (x6 / (v1.toInt64)) _ h) (cwV 2 hts (zg_V zu_9 zu_10 zu_11 zu_12 zu_13) rfl rfl rfl (by decide +kernel) ⟨Nat.le_of_ble_eq_true rfl, Nat.le_of_ble_eq_true rfl⟩) (ci := 8) rfl ho rfl hl.1 rfl (Nat.le_of_ble_eq_true rfl) dX5_divideBy_42 ⟨Nat.le_of_ble_eq_true rfl, Nat.le_of_ble_eq_true rfl⟩ (fun M7 H locs hw h => ?_)
      refine lv_lload hx hb dX5_divideBy_45 (lv_at hl 0 rfl) ?_
      refine lv_iload_n hx hb dX5_divideBy_47 rfl (lv_at hl 2 rfl) ?_
      refine lv_i2l hx hb dX5_divideBy_48 rfl ?_
      refine lv_lrem hx hb dX5_divideBy_49 h.1 ?_
      have h := h.2
      refine lv_topl (fun x8 ex8 => ?_)
      have h := h x8 ex8
      refine lv_lstore_n (lv' := [(2, .long x8), (5, .long x6), (0, .ref v0), (1, .int v1), (4, .int v4)]) hx hb dX5_divideBy_50 rfl hl (by decide) rfl (fun ls hl => ?_)
      obtain ⟨x9, ex9⟩ : ∃ z : Int32, z = v4 + (-1 : Int32) := ⟨_, rfl⟩
      have h := h x9 ex9
      refine lv_iinc (v := x9) (lv' := [(4, .int x9), (2, .long x8), (5, .long x6), (0, .ref v0), (1, .int v1)]) hx hb dX5_divideBy_51 hl (k := 4) rfl (by rw [ex9]; rfl) (by decide) rfl (fun ls hl => ?_)
      refine lv_goto (tgt := 16) hx hb dX5_divideBy_54 (by decide) ?_
      exact ih v0 v1 x8 x9 _ h _ _ _ hw (lv_sub hl [3, 4, 1, 0] rfl)
set_option maxHeartbeats 4000000 in
set_option maxRecDepth 100000 in
theorem kX5_divideBy (l : Launch) (lo : Nat) (g : zg) (M : zm_M) (a0 : Nat) (a1 : Int32) (post : Int32 → zm_M → Prop) (h : pX5_divideBy g.2 a0 a1 post M) : Met l yX5_divideBy (Cond.code yX5_divideBy cX5_divideBy 7 (some .int) :: zU) (({ frames := 2, cells := 0, slots := 0, locals := 63 } : Room)) (zc_P zNF zNM lo g M [.ref a0, .int a1]) (va_Qi post (zc_B lo g) (zA lo)) 0 0 (zA lo) := by
  refine Met.ofW (cc := cX5_divideBy) (maxL := 7) (ret := (some .int)) (by decide) rfl ?_
  intro p e s m args below meth c s₁ B hml hv
  obtain ⟨rfl, hR, hK⟩ := hv
  have hts := atoms_spec (ws := Cond.code yX5_divideBy cX5_divideBy 7 (some .int) :: zU) B.pre
  have hts : ∀ w ∈ zU, w.before _ s = true := fun w hw => hts w (List.mem_cons_of_mem _ hw)
  have hown : s.vm.findClass RX5 = some m.cls := findClass_of_methodNamed B.named
  have hx := B.exec
  have hb := B.bytes
  have hr := B.returns
  have hlocks := B.notSynchronized
  have S : CallFix p m c cX5_divideBy 7 s ([.ref a0, .int a1] : List Value).toArray zU RX5 := ⟨hx, hb, hml, hown, hts⟩
  have hw : zW lo g s s.heap [] M := ⟨hR, va_S.rf⟩
  have hl := lv_entry ([.ref a0, .int a1]) (n := 7) (Nat.le_of_ble_eq_true rfl)
  rw [lg_entry_eq]
  generalize (lg_sl ([.ref a0, .int a1]) ++ List.replicate (7 - (lg_sl ([.ref a0, .int a1])).length) Slot.unset).toArray = ls at hl ⊢
  have hl : lv_has ls 7 [(0, .ref a0), (1, .int a1)] := hl
  unfold pX5_divideBy at h
  refine lv_iload_n hx hb dX5_divideBy_0 rfl (lv_at hl 1 rfl) ?_
  refine lv_if_gt (tgt := 6) hx hb dX5_divideBy_1 (by decide) (fun hc => ?_) (fun hc => ?_)
  · have h := h.1 hc
    refine lv_lconst (v := (0 : Int64)) hx hb dX5_divideBy_6 (by decide) ?_
    refine lv_topl (fun x1 ex1 => ?_)
    have h := h x1 ex1
    refine lv_lstore_n (lv' := [(2, .long x1), (0, .ref a0), (1, .int a1)]) hx hb dX5_divideBy_7 rfl hl (by decide) rfl (fun ls hl => ?_)
    refine lv_aload_n hx hb dX5_divideBy_8 rfl (lv_at hl 1 rfl) ?_
    refine zr_gi (C := RX5) (T := TX5) (N := 2) (ci := 8) (k := 1) S hK hw zi_X5 rfl (by decide) zu_0 dX5_divideBy_9 h (fun used_2 h => ?_)
    refine lv_iconst (v := (1 : Int32)) hx hb dX5_divideBy_12 (by decide) ?_
    refine lv_isub hx hb dX5_divideBy_13 ?_
    refine lv_topi (fun x3 ex3 => ?_)
    have h := h x3 ex3
    refine lv_istore (lv' := [(4, .int x3), (2, .long x1), (0, .ref a0), (1, .int a1)]) hx hb dX5_divideBy_14 hl (by decide) rfl (fun ls hl => ?_)
    obtain ⟨n16, h⟩ := h
    refine sX5_divideBy_16 S hr hlocks hK (fun w10 w11 M12 h H locs ls hw hl => ?_) n16 a0 a1 x1 x3 _ h _ _ _ hw (lv_sub hl [2, 3, 1, 0] rfl)
    refine lv_aload_n hx hb dX5_divideBy_57 rfl (lv_at hl 0 rfl) ?_
    refine lv_aload_n hx hb dX5_divideBy_58 rfl (lv_at hl 0 rfl) ?_
    refine zr_gi (C := RX5) (T := TX5) (N := 2) (ci := 8) (k := 1) S hK hw zi_X5 rfl (by decide) zu_0 dX5_divideBy_59 h (fun used_13 h => ?_)
    obtain ⟨ho, h⟩ := h
    refine zr_Vv (As := [.int used_13]) (rest := []) S hK hw (kX5_trim l lo g M12 w10 used_13 _ h) (cwV 1 hts (zg_V zu_14 zu_15 zu_16 zu_12 zu_17) rfl rfl rfl (by decide +kernel) ⟨Nat.le_of_ble_eq_true rfl, Nat.le_of_ble_eq_true rfl⟩) (ci := 8) rfl ho rfl hl.1 rfl (Nat.le_of_ble_eq_true rfl) dX5_divideBy_62 ⟨Nat.le_of_ble_eq_true rfl, Nat.le_of_ble_eq_true rfl⟩ (fun M14 H locs hw h => ?_)
    refine lv_lload_n hx hb dX5_divideBy_65 rfl (lv_at hl 1 rfl) ?_
    refine lv_l2i hx hb dX5_divideBy_66 rfl ?_
    exact zr_ri S hr hlocks hw h dX5_divideBy_67
  · have h := h.2 hc
    refine lv_iconst (v := (0 : Int32)) hx hb dX5_divideBy_4 (by decide) ?_
    exact zr_ri S hr hlocks hw h dX5_divideBy_5
set_option maxHeartbeats 4000000 in
set_option maxRecDepth 100000 in
theorem sX0_takeFactors_2 {p : Program} {l : Launch} {e : Env} {s : State} {m : MethodId} {args : Array Value} {below : List Frame} {meth : Method} {c : Code} {lo : Nat} {g : zg} {post : Int32 → zm_M → Prop}  (S : CallFix p m c cX0_takeFactors 4 s args zU RX0) (hr : meth.sig.returnType = (some .int)) (hlocks : meth.locks = false) (hK : zk_K zNF zNM g s)  : ∀ (n : Nat) (v0 : Nat) (v1 : Nat) (v2 : Int32) (v3 : Int32) (M : zm_M), pX0_takeFactors_2 g.2 post  n v0 v1 v2 v3 M → ∀ (H : Heap) (locs : List Loc) (ls : Array Slot), zW lo g s H locs M → lv_has ls 4 [(0, .ref v0), (1, .ref v1), (2, .int v2), (3, .int v3)] → W p l e ({ frames := 3, cells := 0, slots := 0, locals := 89 } : Room) s m args below meth c H locs 0 0 (MQ below (va_Qi post (zc_B lo g) (zA lo)) args s 0 0 (zA lo)) (F0 m 2 ls []) := by
  obtain ⟨hx, hb, hml, hown, hts⟩ := id S
  intro n
  induction n with
  | zero =>
    intro v0 v1 v2 v3 M h
    exact False.elim h
  | succ n2 ih =>
    intro v0 v1 v2 v3 M h H locs ls hw hl
    rw [pX0_takeFactors_2] at h
    refine lv_iload_n hx hb dX0_takeFactors_2 rfl (lv_at hl 3 rfl) ?_
    refine lv_sipush (v := (512 : Int32)) hx hb dX0_takeFactors_3 (by decide) ?_
    refine lv_icmp_ge (tgt := 44) hx hb dX0_takeFactors_6 (by decide) (fun hc => ?_) (fun hc => ?_)
    · have h := h.1 hc
      refine lv_sipush (v := (512 : Int32)) hx hb dX0_takeFactors_44 (by decide) ?_
      exact zr_ri S hr hlocks hw h dX0_takeFactors_47
    · have h := h.2 hc
      refine lv_aload_n hx hb dX0_takeFactors_9 rfl (lv_at hl 0 rfl) ?_
      refine zr_ga (C := RX0) (T := TX0) (N := 5) (ci := 3) (k := 4) S hK hw zi_X0 rfl (by decide) zu_81 dX0_takeFactors_10 h (fun spare_2 h => ?_)
      refine lv_aload_n hx hb dX0_takeFactors_13 rfl (lv_at hl 1 rfl) ?_
      obtain ⟨ho, h⟩ := h
      refine zr_Vv (As := [.ref v1]) (rest := []) S hK hw (kX5_copy l lo g M spare_2 v1 _ h) (cwV 1 hts (zg_V zu_68 zu_69 zu_70 zu_12 zu_71) rfl rfl rfl (by decide +kernel) ⟨Nat.le_of_ble_eq_true rfl, Nat.le_of_ble_eq_true rfl⟩) (ci := 8) rfl ho rfl hl.1 rfl (Nat.le_of_ble_eq_true rfl) dX0_takeFactors_14 ⟨Nat.le_of_ble_eq_true rfl, Nat.le_of_ble_eq_true rfl⟩ (fun M3 H locs hw h => ?_)
      refine lv_aload_n hx hb dX0_takeFactors_17 rfl (lv_at hl 0 rfl) ?_
      refine zr_ga (C := RX0) (T := TX0) (N := 5) (ci := 3) (k := 4) S hK hw zi_X0 rfl (by decide) zu_81 dX0_takeFactors_18 h (fun spare_4 h => ?_)
      refine lv_iload_n hx hb dX0_takeFactors_21 rfl (lv_at hl 2 rfl) ?_
      obtain ⟨ho, h⟩ := h
      refine zr_Vi (As := [.int v2]) (rest := []) S hK hw (kX5_divideBy l lo g M3 spare_4 v2 _ h) (cwV 1 hts (zg_V zu_173 zu_174 zu_175 zu_12 zu_176) rfl rfl rfl (by decide +kernel) ⟨Nat.le_of_ble_eq_true rfl, Nat.le_of_ble_eq_true rfl⟩) (ci := 8) rfl ho rfl hl.1 rfl (Nat.le_of_ble_eq_true rfl) dX0_takeFactors_22 ⟨Nat.le_of_ble_eq_true rfl, Nat.le_of_ble_eq_true rfl⟩ (fun r6 M5 H locs hw h => ?_)
      refine lv_if_eq (tgt := 30) hx hb dX0_takeFactors_25 (by decide) (fun hc => ?_) (fun hc => ?_)
      · have h := h.1 hc
        refine lv_aload_n hx hb dX0_takeFactors_30 rfl (lv_at hl 1 rfl) ?_
        refine lv_aload_n hx hb dX0_takeFactors_31 rfl (lv_at hl 0 rfl) ?_
        refine zr_ga (C := RX0) (T := TX0) (N := 5) (ci := 3) (k := 4) S hK hw zi_X0 rfl (by decide) zu_81 dX0_takeFactors_32 h (fun spare_7 h => ?_)
        obtain ⟨ho, h⟩ := h
        refine zr_Vv (As := [.ref spare_7]) (rest := []) S hK hw (kX5_copy l lo g M5 v1 spare_7 _ h) (cwV 1 hts (zg_V zu_68 zu_69 zu_70 zu_12 zu_71) rfl rfl rfl (by decide +kernel) ⟨Nat.le_of_ble_eq_true rfl, Nat.le_of_ble_eq_true rfl⟩) (ci := 8) rfl ho rfl hl.1 rfl (Nat.le_of_ble_eq_true rfl) dX0_takeFactors_35 ⟨Nat.le_of_ble_eq_true rfl, Nat.le_of_ble_eq_true rfl⟩ (fun M8 H locs hw h => ?_)
        obtain ⟨x9, ex9⟩ : ∃ z : Int32, z = v3 + (1 : Int32) := ⟨_, rfl⟩
        have h := h x9 ex9
        refine lv_iinc (v := x9) (lv' := [(3, .int x9), (0, .ref v0), (1, .ref v1), (2, .int v2)]) hx hb dX0_takeFactors_38 hl (k := 3) rfl (by rw [ex9]; rfl) (by decide) rfl (fun ls hl => ?_)
        refine lv_goto (tgt := 2) hx hb dX0_takeFactors_41 (by decide) ?_
        exact ih v0 v1 v2 x9 _ h _ _ _ hw (lv_sub hl [1, 2, 3, 0] rfl)
      · have h := h.2 hc
        refine lv_iload_n hx hb dX0_takeFactors_28 rfl (lv_at hl 3 rfl) ?_
        exact zr_ri S hr hlocks hw h dX0_takeFactors_29
set_option maxHeartbeats 4000000 in
set_option maxRecDepth 100000 in
theorem kX0_takeFactors (l : Launch) (lo : Nat) (g : zg) (M : zm_M) (a0 : Nat) (a1 : Nat) (a2 : Int32) (post : Int32 → zm_M → Prop) (h : pX0_takeFactors g.2 a0 a1 a2 post M) : Met l yX0_takeFactors (Cond.code yX0_takeFactors cX0_takeFactors 4 (some .int) :: zU) (({ frames := 3, cells := 0, slots := 0, locals := 89 } : Room)) (zc_P zNF zNM lo g M [.ref a0, .ref a1, .int a2]) (va_Qi post (zc_B lo g) (zA lo)) 0 0 (zA lo) := by
  refine Met.ofW (cc := cX0_takeFactors) (maxL := 4) (ret := (some .int)) (by decide) rfl ?_
  intro p e s m args below meth c s₁ B hml hv
  obtain ⟨rfl, hR, hK⟩ := hv
  have hts := atoms_spec (ws := Cond.code yX0_takeFactors cX0_takeFactors 4 (some .int) :: zU) B.pre
  have hts : ∀ w ∈ zU, w.before _ s = true := fun w hw => hts w (List.mem_cons_of_mem _ hw)
  have hown : s.vm.findClass RX0 = some m.cls := findClass_of_methodNamed B.named
  have hx := B.exec
  have hb := B.bytes
  have hr := B.returns
  have hlocks := B.notSynchronized
  have S : CallFix p m c cX0_takeFactors 4 s ([.ref a0, .ref a1, .int a2] : List Value).toArray zU RX0 := ⟨hx, hb, hml, hown, hts⟩
  have hw : zW lo g s s.heap [] M := ⟨hR, va_S.rf⟩
  have hl := lv_entry ([.ref a0, .ref a1, .int a2]) (n := 4) (Nat.le_of_ble_eq_true rfl)
  rw [lg_entry_eq]
  generalize (lg_sl ([.ref a0, .ref a1, .int a2]) ++ List.replicate (4 - (lg_sl ([.ref a0, .ref a1, .int a2])).length) Slot.unset).toArray = ls at hl ⊢
  have hl : lv_has ls 4 [(0, .ref a0), (1, .ref a1), (2, .int a2)] := hl
  unfold pX0_takeFactors at h
  refine lv_iconst (v := (0 : Int32)) hx hb dX0_takeFactors_0 (by decide) ?_
  refine lv_topi (fun x1 ex1 => ?_)
  have h := h x1 ex1
  refine lv_istore_n (lv' := [(3, .int x1), (0, .ref a0), (1, .ref a1), (2, .int a2)]) hx hb dX0_takeFactors_1 rfl hl (by decide) rfl (fun ls hl => ?_)
  obtain ⟨n2, h⟩ := h
  refine sX0_takeFactors_2 S hr hlocks hK  n2 a0 a1 a2 x1 _ h _ _ _ hw (lv_sub hl [1, 2, 3, 0] rfl)
set_option maxHeartbeats 4000000 in
set_option maxRecDepth 100000 in
theorem sX1_begin_75 {p : Program} {l : Launch} {e : Env} {s : State} {m : MethodId} {args : Array Value} {below : List Frame} {meth : Method} {c : Code} {lo : Nat} {g : zg} {post : zm_M → Prop}  (S : CallFix p m c cX1_begin 2 s args zU RX1) (hr : meth.sig.returnType = none) (hlocks : meth.locks = false) (hK : zk_K zNF zNM g s)  : ∀ (v0 : Nat) (v1 : Nat) (M : zm_M), pX1_begin_75 g.2 post  v0 v1 M → ∀ (H : Heap) (locs : List Loc) (ls : Array Slot), zW lo g s H locs M → lv_has ls 2 [(0, .ref v0), (1, .ref v1)] → W p l e ({ frames := 4, cells := 0, slots := 0, locals := 129 } : Room) s m args below meth c H locs 0 0 (MQ below (va_Qv post (zc_B lo g) (zA lo)) args s 0 0 (zA lo)) (F0 m 75 ls []) := by
  obtain ⟨hx, hb, hml, hown, hts⟩ := id S
  intro v0 v1 M h H locs ls hw hl
  unfold pX1_begin_75 at h
  refine lv_aload_n hx hb dX1_begin_75 rfl (lv_at hl 0 rfl) ?_
  refine zr_ga (C := RX1) (T := TX1) (N := 11) (ci := 4) (k := 4) S hK hw zi_X1 rfl (by decide) zu_182 dX1_begin_76 h (fun greater_11 h => ?_)
  refine lv_aload_n hx hb dX1_begin_79 rfl (lv_at hl 1 rfl) ?_
  refine zr_gaN (C := RX2) (T := TX2) (N := 3) (ci := 5) (k := 2) (host := "LeastTerms") S hK hw zi_X2 rfl (by decide) (by decide +kernel) dX1_begin_80 h (fun bottom_12 h => ?_)
  obtain ⟨ho, h⟩ := h
  refine zr_Vv (As := [.ref bottom_12]) (rest := []) S hK hw (kX5_copy l lo g M greater_11 bottom_12 _ h) (cwV 1 hts (zg_V zu_179 zu_69 zu_70 zu_12 zu_71) rfl rfl rfl (by decide +kernel) ⟨Nat.le_of_ble_eq_true rfl, Nat.le_of_ble_eq_true rfl⟩) (ci := 8) rfl ho rfl hl.1 rfl (Nat.le_of_ble_eq_true rfl) dX1_begin_83 ⟨Nat.le_of_ble_eq_true rfl, Nat.le_of_ble_eq_true rfl⟩ (fun M13 H locs hw h => ?_)
  refine lv_aload_n hx hb dX1_begin_86 rfl (lv_at hl 0 rfl) ?_
  refine zr_ga (C := RX1) (T := TX1) (N := 11) (ci := 4) (k := 5) S hK hw zi_X1 rfl (by decide) zu_183 dX1_begin_87 h (fun lesser_14 h => ?_)
  refine lv_aload_n hx hb dX1_begin_90 rfl (lv_at hl 0 rfl) ?_
  refine zr_ga (C := RX1) (T := TX1) (N := 11) (ci := 4) (k := 2) S hK hw zi_X1 rfl (by decide) zu_178 dX1_begin_91 h (fun rest_15 h => ?_)
  obtain ⟨ho, h⟩ := h
  refine zr_Vv (As := [.ref rest_15]) (rest := []) S hK hw (kX5_copy l lo g M13 lesser_14 rest_15 _ h) (cwV 1 hts (zg_V zu_179 zu_69 zu_70 zu_12 zu_71) rfl rfl rfl (by decide +kernel) ⟨Nat.le_of_ble_eq_true rfl, Nat.le_of_ble_eq_true rfl⟩) (ci := 8) rfl ho rfl hl.1 rfl (Nat.le_of_ble_eq_true rfl) dX1_begin_94 ⟨Nat.le_of_ble_eq_true rfl, Nat.le_of_ble_eq_true rfl⟩ (fun M16 H locs hw h => ?_)
  exact zr_rv S hr hlocks hw h dX1_begin_97
set_option maxHeartbeats 4000000 in
set_option maxRecDepth 100000 in
theorem kX1_begin (l : Launch) (lo : Nat) (g : zg) (M : zm_M) (a0 : Nat) (a1 : Nat) (post : zm_M → Prop) (h : pX1_begin g.2 a0 a1 post M) : Met l yX1_begin (Cond.code yX1_begin cX1_begin 2 none :: zU) (({ frames := 4, cells := 0, slots := 0, locals := 129 } : Room)) (zc_P zNF zNM lo g M [.ref a0, .ref a1]) (va_Qv post (zc_B lo g) (zA lo)) 0 0 (zA lo) := by
  refine Met.ofW (cc := cX1_begin) (maxL := 2) (ret := none) (by decide) rfl ?_
  intro p e s m args below meth c s₁ B hml hv
  obtain ⟨rfl, hR, hK⟩ := hv
  have hts := atoms_spec (ws := Cond.code yX1_begin cX1_begin 2 none :: zU) B.pre
  have hts : ∀ w ∈ zU, w.before _ s = true := fun w hw => hts w (List.mem_cons_of_mem _ hw)
  have hown : s.vm.findClass RX1 = some m.cls := findClass_of_methodNamed B.named
  have hx := B.exec
  have hb := B.bytes
  have hr := B.returns
  have hlocks := B.notSynchronized
  have S : CallFix p m c cX1_begin 2 s ([.ref a0, .ref a1] : List Value).toArray zU RX1 := ⟨hx, hb, hml, hown, hts⟩
  have hw : zW lo g s s.heap [] M := ⟨hR, va_S.rf⟩
  have hl := lv_entry ([.ref a0, .ref a1]) (n := 2) (Nat.le_of_ble_eq_true rfl)
  rw [lg_entry_eq]
  generalize (lg_sl ([.ref a0, .ref a1]) ++ List.replicate (2 - (lg_sl ([.ref a0, .ref a1])).length) Slot.unset).toArray = ls at hl ⊢
  have hl : lv_has ls 2 [(0, .ref a0), (1, .ref a1)] := hl
  unfold pX1_begin at h
  refine lv_aload_n hx hb dX1_begin_0 rfl (lv_at hl 0 rfl) ?_
  refine lv_aload_n hx hb dX1_begin_1 rfl (lv_at hl 1 rfl) ?_
  refine zr_giN (C := RX2) (T := TX2) (N := 3) (ci := 5) (k := 0) (host := "LeastTerms") S hK hw zi_X2 rfl (by decide) (by decide +kernel) dX1_begin_2 h (fun sign_1 h => ?_)
  refine zr_p (C := RX1) (T := TX1) (N := 11) (ci := 4) (k := 0) S hK hw zi_X1 tyX1 tyX1_ok nmX1 rfl (by decide) zu_177 rfl rfl rfl dX1_begin_5 h (fun M2 H locs hw h => ?_)
  refine lv_aload_n hx hb dX1_begin_8 rfl (lv_at hl 0 rfl) ?_
  refine zr_ga (C := RX1) (T := TX1) (N := 11) (ci := 4) (k := 2) S hK hw zi_X1 rfl (by decide) zu_178 dX1_begin_9 h (fun rest_3 h => ?_)
  refine lv_aload_n hx hb dX1_begin_12 rfl (lv_at hl 1 rfl) ?_
  refine zr_gaN (C := RX2) (T := TX2) (N := 3) (ci := 5) (k := 1) (host := "LeastTerms") S hK hw zi_X2 rfl (by decide) (by decide +kernel) dX1_begin_13 h (fun top_4 h => ?_)
  obtain ⟨ho, h⟩ := h
  refine zr_Vv (As := [.ref top_4]) (rest := []) S hK hw (kX5_copy l lo g M2 rest_3 top_4 _ h) (cwV 1 hts (zg_V zu_179 zu_69 zu_70 zu_12 zu_71) rfl rfl rfl (by decide +kernel) ⟨Nat.le_of_ble_eq_true rfl, Nat.le_of_ble_eq_true rfl⟩) (ci := 8) rfl ho rfl hl.1 rfl (Nat.le_of_ble_eq_true rfl) dX1_begin_16 ⟨Nat.le_of_ble_eq_true rfl, Nat.le_of_ble_eq_true rfl⟩ (fun M5 H locs hw h => ?_)
  refine lv_aload_n hx hb dX1_begin_19 rfl (lv_at hl 0 rfl) ?_
  refine zr_ga (C := RX1) (T := TX1) (N := 11) (ci := 4) (k := 2) S hK hw zi_X1 rfl (by decide) zu_178 dX1_begin_20 h (fun rest_6 h => ?_)
  refine lv_aload_n hx hb dX1_begin_23 rfl (lv_at hl 1 rfl) ?_
  refine zr_gaN (C := RX2) (T := TX2) (N := 3) (ci := 5) (k := 2) (host := "LeastTerms") S hK hw zi_X2 rfl (by decide) (by decide +kernel) dX1_begin_24 h (fun bottom_7 h => ?_)
  refine lv_aload_n hx hb dX1_begin_27 rfl (lv_at hl 0 rfl) ?_
  refine zr_ga (C := RX1) (T := TX1) (N := 11) (ci := 4) (k := 1) S hK hw zi_X1 rfl (by decide) zu_180 dX1_begin_28 h (fun head_8 h => ?_)
  obtain ⟨ho, h⟩ := h
  refine zr_Vv (As := [.ref bottom_7, .ref head_8]) (rest := []) S hK hw (kX5_divide l lo g M5 rest_6 bottom_7 head_8 _ h) (cwV 2 hts (zg_V zu_181 zu_78 zu_79 zu_12 zu_80) rfl rfl rfl (by decide +kernel) ⟨Nat.le_of_ble_eq_true rfl, Nat.le_of_ble_eq_true rfl⟩) (ci := 8) rfl ho rfl hl.1 rfl (Nat.le_of_ble_eq_true rfl) dX1_begin_31 ⟨Nat.le_of_ble_eq_true rfl, Nat.le_of_ble_eq_true rfl⟩ (fun M9 H locs hw h => ?_)
  refine lv_aload_n hx hb dX1_begin_34 rfl (lv_at hl 1 rfl) ?_
  refine zr_giN (C := RX2) (T := TX2) (N := 3) (ci := 5) (k := 0) (host := "LeastTerms") S hK hw zi_X2 rfl (by decide) (by decide +kernel) dX1_begin_35 h (fun sign_10 h => ?_)
  refine lv_if_ge (tgt := 75) hx hb dX1_begin_38 (by decide) (fun hc => ?_) (fun hc => ?_)
  · have h := h.1 hc
    exact sX1_begin_75 S hr hlocks hK  a0 a1 _ h _ _ _ hw (lv_sub hl [0, 1] rfl)
  · have h := h.2 hc
    refine lv_aload_n hx hb dX1_begin_41 rfl (lv_at hl 0 rfl) ?_
    refine zr_ga (C := RX1) (T := TX1) (N := 11) (ci := 4) (k := 2) S hK hw zi_X1 rfl (by decide) zu_178 dX1_begin_42 h (fun rest_17 h => ?_)
    obtain ⟨ho, h⟩ := h
    refine zr_Vi (As := []) (rest := []) S hK hw (kX5_isZero l lo g M9 rest_17  _ h) (cwV 0 hts (zg_V zu_184 zu_73 zu_74 zu_12 zu_75) rfl rfl rfl (by decide +kernel) ⟨Nat.le_of_ble_eq_true rfl, Nat.le_of_ble_eq_true rfl⟩) (ci := 8) rfl ho rfl hl.1 rfl (Nat.le_of_ble_eq_true rfl) dX1_begin_45 ⟨Nat.le_of_ble_eq_true rfl, Nat.le_of_ble_eq_true rfl⟩ (fun r19 M18 H locs hw h => ?_)
    refine lv_if_ne (tgt := 75) hx hb dX1_begin_48 (by decide) (fun hc => ?_) (fun hc => ?_)
    · have h := h.1 hc
      exact sX1_begin_75 S hr hlocks hK  a0 a1 _ h _ _ _ hw (lv_sub hl [0, 1] rfl)
    · have h := h.2 hc
      refine lv_aload_n hx hb dX1_begin_51 rfl (lv_at hl 0 rfl) ?_
      refine zr_ga (C := RX1) (T := TX1) (N := 11) (ci := 4) (k := 1) S hK hw zi_X1 rfl (by decide) zu_180 dX1_begin_52 h (fun head_20 h => ?_)
      refine lv_iconst (v := (1 : Int32)) hx hb dX1_begin_55 (by decide) ?_
      refine lv_iconst (v := (1 : Int32)) hx hb dX1_begin_56 (by decide) ?_
      obtain ⟨ho, h⟩ := h
      refine zr_Vv (As := [.int (1 : Int32), .int (1 : Int32)]) (rest := []) S hK hw (kX5_timesPlus l lo g M18 head_20 (1 : Int32) (1 : Int32) _ h) (cwV 2 hts (zg_V zu_185 zu_151 zu_152 zu_12 zu_153) rfl rfl rfl (by decide +kernel) ⟨Nat.le_of_ble_eq_true rfl, Nat.le_of_ble_eq_true rfl⟩) (ci := 8) rfl ho rfl hl.1 rfl (Nat.le_of_ble_eq_true rfl) dX1_begin_57 ⟨Nat.le_of_ble_eq_true rfl, Nat.le_of_ble_eq_true rfl⟩ (fun M21 H locs hw h => ?_)
      refine lv_aload_n hx hb dX1_begin_60 rfl (lv_at hl 0 rfl) ?_
      refine zr_ga (C := RX1) (T := TX1) (N := 11) (ci := 4) (k := 2) S hK hw zi_X1 rfl (by decide) zu_178 dX1_begin_61 h (fun rest_22 h => ?_)
      refine lv_aload_n hx hb dX1_begin_64 rfl (lv_at hl 1 rfl) ?_
      refine zr_gaN (C := RX2) (T := TX2) (N := 3) (ci := 5) (k := 2) (host := "LeastTerms") S hK hw zi_X2 rfl (by decide) (by decide +kernel) dX1_begin_65 h (fun bottom_23 h => ?_)
      refine lv_aload_n hx hb dX1_begin_68 rfl (lv_at hl 0 rfl) ?_
      refine zr_ga (C := RX1) (T := TX1) (N := 11) (ci := 4) (k := 2) S hK hw zi_X1 rfl (by decide) zu_178 dX1_begin_69 h (fun rest_24 h => ?_)
      obtain ⟨ho, h⟩ := h
      refine zr_Vv (As := [.ref bottom_23, .ref rest_24]) (rest := []) S hK hw (kX5_subtract l lo g M21 rest_22 bottom_23 rest_24 _ h) (cwV 2 hts (zg_V zu_186 zu_112 zu_113 zu_12 zu_114) rfl rfl rfl (by decide +kernel) ⟨Nat.le_of_ble_eq_true rfl, Nat.le_of_ble_eq_true rfl⟩) (ci := 8) rfl ho rfl hl.1 rfl (Nat.le_of_ble_eq_true rfl) dX1_begin_72 ⟨Nat.le_of_ble_eq_true rfl, Nat.le_of_ble_eq_true rfl⟩ (fun M25 H locs hw h => ?_)
      exact sX1_begin_75 S hr hlocks hK  a0 a1 _ h _ _ _ hw (lv_sub hl [0, 1] rfl)
set_option maxHeartbeats 4000000 in
set_option maxRecDepth 100000 in
theorem kX1_hasMore (l : Launch) (lo : Nat) (g : zg) (M : zm_M) (a0 : Nat) (post : Int32 → zm_M → Prop) (h : pX1_hasMore g.2 a0 post M) : Met l yX1_hasMore (Cond.code yX1_hasMore cX1_hasMore 1 (some .boolean) :: zU) (({ frames := 2, cells := 0, slots := 0, locals := 60 } : Room)) (zc_P zNF zNM lo g M [.ref a0]) (va_Qi post (zc_B lo g) (zA lo)) 0 0 (zA lo) := by
  refine Met.ofW (cc := cX1_hasMore) (maxL := 1) (ret := (some .boolean)) (by decide) rfl ?_
  intro p e s m args below meth c s₁ B hml hv
  obtain ⟨rfl, hR, hK⟩ := hv
  have hts := atoms_spec (ws := Cond.code yX1_hasMore cX1_hasMore 1 (some .boolean) :: zU) B.pre
  have hts : ∀ w ∈ zU, w.before _ s = true := fun w hw => hts w (List.mem_cons_of_mem _ hw)
  have hown : s.vm.findClass RX1 = some m.cls := findClass_of_methodNamed B.named
  have hx := B.exec
  have hb := B.bytes
  have hr := B.returns
  have hlocks := B.notSynchronized
  have S : CallFix p m c cX1_hasMore 1 s ([.ref a0] : List Value).toArray zU RX1 := ⟨hx, hb, hml, hown, hts⟩
  have hw : zW lo g s s.heap [] M := ⟨hR, va_S.rf⟩
  have hl := lv_entry ([.ref a0]) (n := 1) (Nat.le_of_ble_eq_true rfl)
  rw [lg_entry_eq]
  generalize (lg_sl ([.ref a0]) ++ List.replicate (1 - (lg_sl ([.ref a0])).length) Slot.unset).toArray = ls at hl ⊢
  have hl : lv_has ls 1 [(0, .ref a0)] := hl
  unfold pX1_hasMore at h
  refine lv_aload_n hx hb dX1_hasMore_0 rfl (lv_at hl 0 rfl) ?_
  refine zr_ga (C := RX1) (T := TX1) (N := 11) (ci := 4) (k := 5) S hK hw zi_X1 rfl (by decide) zu_183 dX1_hasMore_1 h (fun lesser_1 h => ?_)
  obtain ⟨ho, h⟩ := h
  refine zr_Vi (As := []) (rest := []) S hK hw (kX5_isZero l lo g M lesser_1  _ h) (cwV 0 hts (zg_V zu_184 zu_73 zu_74 zu_12 zu_75) rfl rfl rfl (by decide +kernel) ⟨Nat.le_of_ble_eq_true rfl, Nat.le_of_ble_eq_true rfl⟩) (ci := 8) rfl ho rfl hl.1 rfl (Nat.le_of_ble_eq_true rfl) dX1_hasMore_4 ⟨Nat.le_of_ble_eq_true rfl, Nat.le_of_ble_eq_true rfl⟩ (fun r3 M2 H locs hw h => ?_)
  refine lv_if_ne (tgt := 14) hx hb dX1_hasMore_7 (by decide) (fun hc => ?_) (fun hc => ?_)
  · have h := h.1 hc
    refine lv_iconst (v := (0 : Int32)) hx hb dX1_hasMore_14 (by decide) ?_
    exact zr_rz S hr hlocks hw h dX1_hasMore_15
  · have h := h.2 hc
    refine lv_iconst (v := (1 : Int32)) hx hb dX1_hasMore_10 (by decide) ?_
    refine lv_goto (tgt := 15) hx hb dX1_hasMore_11 (by decide) ?_
    exact zr_rz S hr hlocks hw h dX1_hasMore_15
set_option maxHeartbeats 4000000 in
set_option maxRecDepth 100000 in
theorem kX1_cut (l : Launch) (lo : Nat) (g : zg) (M : zm_M) (a0 : Nat) (post : zm_M → Prop) (h : pX1_cut g.2 a0 post M) : Met l yX1_cut (Cond.code yX1_cut cX1_cut 2 none :: zU) (({ frames := 4, cells := 0, slots := 0, locals := 129 } : Room)) (zc_P zNF zNM lo g M [.ref a0]) (va_Qv post (zc_B lo g) (zA lo)) 0 0 (zA lo) := by
  refine Met.ofW (cc := cX1_cut) (maxL := 2) (ret := none) (by decide) rfl ?_
  intro p e s m args below meth c s₁ B hml hv
  obtain ⟨rfl, hR, hK⟩ := hv
  have hts := atoms_spec (ws := Cond.code yX1_cut cX1_cut 2 none :: zU) B.pre
  have hts : ∀ w ∈ zU, w.before _ s = true := fun w hw => hts w (List.mem_cons_of_mem _ hw)
  have hown : s.vm.findClass RX1 = some m.cls := findClass_of_methodNamed B.named
  have hx := B.exec
  have hb := B.bytes
  have hr := B.returns
  have hlocks := B.notSynchronized
  have S : CallFix p m c cX1_cut 2 s ([.ref a0] : List Value).toArray zU RX1 := ⟨hx, hb, hml, hown, hts⟩
  have hw : zW lo g s s.heap [] M := ⟨hR, va_S.rf⟩
  have hl := lv_entry ([.ref a0]) (n := 2) (Nat.le_of_ble_eq_true rfl)
  rw [lg_entry_eq]
  generalize (lg_sl ([.ref a0]) ++ List.replicate (2 - (lg_sl ([.ref a0])).length) Slot.unset).toArray = ls at hl ⊢
  have hl : lv_has ls 2 [(0, .ref a0)] := hl
  unfold pX1_cut at h
  refine lv_aload_n hx hb dX1_cut_0 rfl (lv_at hl 0 rfl) ?_
  refine zr_ga (C := RX1) (T := TX1) (N := 11) (ci := 4) (k := 4) S hK hw zi_X1 rfl (by decide) zu_182 dX1_cut_1 h (fun greater_1 h => ?_)
  refine lv_aload_n hx hb dX1_cut_4 rfl (lv_at hl 0 rfl) ?_
  refine zr_ga (C := RX1) (T := TX1) (N := 11) (ci := 4) (k := 5) S hK hw zi_X1 rfl (by decide) zu_183 dX1_cut_5 h (fun lesser_2 h => ?_)
  refine lv_aload_n hx hb dX1_cut_8 rfl (lv_at hl 0 rfl) ?_
  refine zr_ga (C := RX1) (T := TX1) (N := 11) (ci := 4) (k := 3) S hK hw zi_X1 rfl (by decide) zu_187 dX1_cut_9 h (fun link_3 h => ?_)
  obtain ⟨ho, h⟩ := h
  refine zr_Vv (As := [.ref lesser_2, .ref link_3]) (rest := []) S hK hw (kX5_divide l lo g M greater_1 lesser_2 link_3 _ h) (cwV 2 hts (zg_V zu_181 zu_78 zu_79 zu_12 zu_80) rfl rfl rfl (by decide +kernel) ⟨Nat.le_of_ble_eq_true rfl, Nat.le_of_ble_eq_true rfl⟩) (ci := 8) rfl ho rfl hl.1 rfl (Nat.le_of_ble_eq_true rfl) dX1_cut_12 ⟨Nat.le_of_ble_eq_true rfl, Nat.le_of_ble_eq_true rfl⟩ (fun M4 H locs hw h => ?_)
  refine lv_aload_n hx hb dX1_cut_15 rfl (lv_at hl 0 rfl) ?_
  refine zr_ga (C := RX1) (T := TX1) (N := 11) (ci := 4) (k := 4) S hK hw zi_X1 rfl (by decide) zu_182 dX1_cut_16 h (fun greater_5 h => ?_)
  refine lv_astore_n (lv' := [(1, .ref greater_5), (0, .ref a0)]) hx hb dX1_cut_19 rfl hl (by decide) rfl (fun ls hl => ?_)
  refine lv_aload_n hx hb dX1_cut_20 rfl (lv_at hl 1 rfl) ?_
  refine lv_aload_n hx hb dX1_cut_21 rfl (lv_at hl 1 rfl) ?_
  refine zr_ga (C := RX1) (T := TX1) (N := 11) (ci := 4) (k := 5) S hK hw zi_X1 rfl (by decide) zu_183 dX1_cut_22 h (fun lesser_6 h => ?_)
  refine zr_p (C := RX1) (T := TX1) (N := 11) (ci := 4) (k := 4) S hK hw zi_X1 tyX1 tyX1_ok nmX1 rfl (by decide) zu_182 rfl rfl rfl dX1_cut_25 h (fun M7 H locs hw h => ?_)
  refine lv_aload_n hx hb dX1_cut_28 rfl (lv_at hl 1 rfl) ?_
  refine lv_aload_n hx hb dX1_cut_29 rfl (lv_at hl 0 rfl) ?_
  refine zr_p (C := RX1) (T := TX1) (N := 11) (ci := 4) (k := 5) S hK hw zi_X1 tyX1 tyX1_ok nmX1 rfl (by decide) zu_183 rfl rfl rfl dX1_cut_30 h (fun M8 H locs hw h => ?_)
  exact zr_rv S hr hlocks hw h dX1_cut_33
set_option maxHeartbeats 4000000 in
set_option maxRecDepth 100000 in
theorem sX1_length_2 {p : Program} {l : Launch} {e : Env} {s : State} {m : MethodId} {args : Array Value} {below : List Frame} {meth : Method} {c : Code} {lo : Nat} {g : zg} {post : Int32 → zm_M → Prop}  (S : CallFix p m c cX1_length 2 s args zU RX1) (hr : meth.sig.returnType = (some .int)) (hlocks : meth.locks = false) (hK : zk_K zNF zNM g s)  : ∀ (n : Nat) (v0 : Nat) (v1 : Int32) (M : zm_M), pX1_length_2 g.2 post  n v0 v1 M → ∀ (H : Heap) (locs : List Loc) (ls : Array Slot), zW lo g s H locs M → lv_has ls 2 [(0, .ref v0), (1, .int v1)] → W p l e ({ frames := 5, cells := 0, slots := 0, locals := 150 } : Room) s m args below meth c H locs 0 0 (MQ below (va_Qi post (zc_B lo g) (zA lo)) args s 0 0 (zA lo)) (F0 m 2 ls []) := by
  obtain ⟨hx, hb, hml, hown, hts⟩ := id S
  intro n
  induction n with
  | zero =>
    intro v0 v1 M h
    exact False.elim h
  | succ n2 ih =>
    intro v0 v1 M h H locs ls hw hl
    rw [pX1_length_2] at h
    refine lv_iload_n hx hb dX1_length_2 rfl (lv_at hl 1 rfl) ?_
    refine lv_sipush (v := (4000 : Int32)) hx hb dX1_length_3 (by decide) ?_
    refine lv_icmp_ge (tgt := 26) hx hb dX1_length_6 (by decide) (fun hc => ?_) (fun hc => ?_)
    · have h := h.1 hc
      refine lv_iload_n hx hb dX1_length_26 rfl (lv_at hl 1 rfl) ?_
      exact zr_ri S hr hlocks hw h dX1_length_27
    · have h := h.2 hc
      refine lv_aload_n hx hb dX1_length_9 rfl (lv_at hl 0 rfl) ?_
      obtain ⟨ho, h⟩ := h
      refine zr_Vi (As := []) (rest := []) S hK hw (kX1_hasMore l lo g M v0  _ h) (cwV 0 hts (zg_V zu_188 zu_189 zu_190 zu_191 zu_192) rfl rfl rfl (by decide +kernel) ⟨Nat.le_of_ble_eq_true rfl, Nat.le_of_ble_eq_true rfl⟩) (ci := 4) rfl ho rfl hl.1 rfl (Nat.le_of_ble_eq_true rfl) dX1_length_10 ⟨Nat.le_of_ble_eq_true rfl, Nat.le_of_ble_eq_true rfl⟩ (fun r3 M2 H locs hw h => ?_)
      refine lv_if_eq (tgt := 26) hx hb dX1_length_13 (by decide) (fun hc => ?_) (fun hc => ?_)
      · have h := h.1 hc
        refine lv_iload_n hx hb dX1_length_26 rfl (lv_at hl 1 rfl) ?_
        exact zr_ri S hr hlocks hw h dX1_length_27
      · have h := h.2 hc
        refine lv_aload_n hx hb dX1_length_16 rfl (lv_at hl 0 rfl) ?_
        obtain ⟨ho, h⟩ := h
        refine zr_Vv (As := []) (rest := []) S hK hw (kX1_cut l lo g M2 v0  _ h) (cwV 0 hts (zg_V zu_193 zu_194 zu_195 zu_191 zu_196) rfl rfl rfl (by decide +kernel) ⟨Nat.le_of_ble_eq_true rfl, Nat.le_of_ble_eq_true rfl⟩) (ci := 4) rfl ho rfl hl.1 rfl (Nat.le_of_ble_eq_true rfl) dX1_length_17 ⟨Nat.le_of_ble_eq_true rfl, Nat.le_of_ble_eq_true rfl⟩ (fun M4 H locs hw h => ?_)
        obtain ⟨x5, ex5⟩ : ∃ z : Int32, z = v1 + (1 : Int32) := ⟨_, rfl⟩
        have h := h x5 ex5
        refine lv_iinc (v := x5) (lv' := [(1, .int x5), (0, .ref v0)]) hx hb dX1_length_20 hl (k := 1) rfl (by rw [ex5]; rfl) (by decide) rfl (fun ls hl => ?_)
        refine lv_goto (tgt := 2) hx hb dX1_length_23 (by decide) ?_
        exact ih v0 x5 _ h _ _ _ hw (lv_sub hl [1, 0] rfl)
set_option maxHeartbeats 4000000 in
set_option maxRecDepth 100000 in
theorem kX1_length (l : Launch) (lo : Nat) (g : zg) (M : zm_M) (a0 : Nat) (post : Int32 → zm_M → Prop) (h : pX1_length g.2 a0 post M) : Met l yX1_length (Cond.code yX1_length cX1_length 2 (some .int) :: zU) (({ frames := 5, cells := 0, slots := 0, locals := 150 } : Room)) (zc_P zNF zNM lo g M [.ref a0]) (va_Qi post (zc_B lo g) (zA lo)) 0 0 (zA lo) := by
  refine Met.ofW (cc := cX1_length) (maxL := 2) (ret := (some .int)) (by decide) rfl ?_
  intro p e s m args below meth c s₁ B hml hv
  obtain ⟨rfl, hR, hK⟩ := hv
  have hts := atoms_spec (ws := Cond.code yX1_length cX1_length 2 (some .int) :: zU) B.pre
  have hts : ∀ w ∈ zU, w.before _ s = true := fun w hw => hts w (List.mem_cons_of_mem _ hw)
  have hown : s.vm.findClass RX1 = some m.cls := findClass_of_methodNamed B.named
  have hx := B.exec
  have hb := B.bytes
  have hr := B.returns
  have hlocks := B.notSynchronized
  have S : CallFix p m c cX1_length 2 s ([.ref a0] : List Value).toArray zU RX1 := ⟨hx, hb, hml, hown, hts⟩
  have hw : zW lo g s s.heap [] M := ⟨hR, va_S.rf⟩
  have hl := lv_entry ([.ref a0]) (n := 2) (Nat.le_of_ble_eq_true rfl)
  rw [lg_entry_eq]
  generalize (lg_sl ([.ref a0]) ++ List.replicate (2 - (lg_sl ([.ref a0])).length) Slot.unset).toArray = ls at hl ⊢
  have hl : lv_has ls 2 [(0, .ref a0)] := hl
  unfold pX1_length at h
  refine lv_iconst (v := (1 : Int32)) hx hb dX1_length_0 (by decide) ?_
  refine lv_topi (fun x1 ex1 => ?_)
  have h := h x1 ex1
  refine lv_istore_n (lv' := [(1, .int x1), (0, .ref a0)]) hx hb dX1_length_1 rfl hl (by decide) rfl (fun ls hl => ?_)
  obtain ⟨n2, h⟩ := h
  refine sX1_length_2 S hr hlocks hK  n2 a0 x1 _ h _ _ _ hw (lv_sub hl [1, 0] rfl)
set_option maxHeartbeats 4000000 in
set_option maxRecDepth 100000 in
theorem sX1_goTo_15 {p : Program} {l : Launch} {e : Env} {s : State} {m : MethodId} {args : Array Value} {below : List Frame} {meth : Method} {c : Code} {lo : Nat} {g : zg} {post : Int32 → zm_M → Prop} {k37 : Int32 → Int32 → zm_M → Prop} (S : CallFix p m c cX1_goTo 3 s args zU RX1) (hr : meth.sig.returnType = (some .boolean)) (hlocks : meth.locks = false) (hK : zk_K zNF zNM g s) (hk37 : ∀ (v1 : Int32) (v2 : Int32) (M : zm_M), k37 v1 v2 M → ∀ (H : Heap) (locs : List Loc) (ls : Array Slot), zW lo g s H locs M → lv_has ls 3 [(1, .int v1), (2, .int v2)] → W p l e ({ frames := 5, cells := 0, slots := 0, locals := 150 } : Room) s m args below meth c H locs 0 0 (MQ below (va_Qi post (zc_B lo g) (zA lo)) args s 0 0 (zA lo)) (F0 m 37 ls [])) : ∀ (n : Nat) (v0 : Nat) (v1 : Int32) (v2 : Int32) (M : zm_M), pX1_goTo_15 g.2 post k37 n v0 v1 v2 M → ∀ (H : Heap) (locs : List Loc) (ls : Array Slot), zW lo g s H locs M → lv_has ls 3 [(0, .ref v0), (1, .int v1), (2, .int v2)] → W p l e ({ frames := 5, cells := 0, slots := 0, locals := 150 } : Room) s m args below meth c H locs 0 0 (MQ below (va_Qi post (zc_B lo g) (zA lo)) args s 0 0 (zA lo)) (F0 m 15 ls []) := by
  obtain ⟨hx, hb, hml, hown, hts⟩ := id S
  intro n
  induction n with
  | zero =>
    intro v0 v1 v2 M h
    exact False.elim h
  | succ n15 ih =>
    intro v0 v1 v2 M h H locs ls hw hl
    rw [pX1_goTo_15] at h
    refine lv_iload_n hx hb dX1_goTo_15 rfl (lv_at hl 2 rfl) ?_
    refine lv_iload_n hx hb dX1_goTo_16 rfl (lv_at hl 1 rfl) ?_
    refine lv_icmp_ge (tgt := 37) hx hb dX1_goTo_17 (by decide) (fun hc => ?_) (fun hc => ?_)
    · have h := h.1 hc
      exact hk37 v1 v2 _ h _ _ _ hw (lv_sub hl [1, 2] rfl)
    · have h := h.2 hc
      refine lv_aload_n hx hb dX1_goTo_20 rfl (lv_at hl 0 rfl) ?_
      obtain ⟨ho, h⟩ := h
      refine zr_Vi (As := []) (rest := []) S hK hw (kX1_hasMore l lo g M v0  _ h) (cwV 0 hts (zg_V zu_188 zu_189 zu_190 zu_191 zu_192) rfl rfl rfl (by decide +kernel) ⟨Nat.le_of_ble_eq_true rfl, Nat.le_of_ble_eq_true rfl⟩) (ci := 4) rfl ho rfl hl.1 rfl (Nat.le_of_ble_eq_true rfl) dX1_goTo_21 ⟨Nat.le_of_ble_eq_true rfl, Nat.le_of_ble_eq_true rfl⟩ (fun r3 M2 H locs hw h => ?_)
      refine lv_if_eq (tgt := 37) hx hb dX1_goTo_24 (by decide) (fun hc => ?_) (fun hc => ?_)
      · have h := h.1 hc
        exact hk37 v1 v2 _ h _ _ _ hw (lv_sub hl [1, 2] rfl)
      · have h := h.2 hc
        refine lv_aload_n hx hb dX1_goTo_27 rfl (lv_at hl 0 rfl) ?_
        obtain ⟨ho, h⟩ := h
        refine zr_Vv (As := []) (rest := []) S hK hw (kX1_cut l lo g M2 v0  _ h) (cwV 0 hts (zg_V zu_193 zu_194 zu_195 zu_191 zu_196) rfl rfl rfl (by decide +kernel) ⟨Nat.le_of_ble_eq_true rfl, Nat.le_of_ble_eq_true rfl⟩) (ci := 4) rfl ho rfl hl.1 rfl (Nat.le_of_ble_eq_true rfl) dX1_goTo_28 ⟨Nat.le_of_ble_eq_true rfl, Nat.le_of_ble_eq_true rfl⟩ (fun M4 H locs hw h => ?_)
        obtain ⟨x5, ex5⟩ : ∃ z : Int32, z = v2 + (1 : Int32) := ⟨_, rfl⟩
        have h := h x5 ex5
        refine lv_iinc (v := x5) (lv' := [(2, .int x5), (0, .ref v0), (1, .int v1)]) hx hb dX1_goTo_31 hl (k := 2) rfl (by rw [ex5]; rfl) (by decide) rfl (fun ls hl => ?_)
        refine lv_goto (tgt := 15) hx hb dX1_goTo_34 (by decide) ?_
        exact ih v0 v1 x5 _ h _ _ _ hw (lv_sub hl [1, 2, 0] rfl)
set_option maxHeartbeats 4000000 in
set_option maxRecDepth 100000 in
theorem sX1_goTo_37 {p : Program} {l : Launch} {e : Env} {s : State} {m : MethodId} {args : Array Value} {below : List Frame} {meth : Method} {c : Code} {lo : Nat} {g : zg} {post : Int32 → zm_M → Prop}  (S : CallFix p m c cX1_goTo 3 s args zU RX1) (hr : meth.sig.returnType = (some .boolean)) (hlocks : meth.locks = false) (hK : zk_K zNF zNM g s)  : ∀ (v1 : Int32) (v2 : Int32) (M : zm_M), pX1_goTo_37 g.2 post  v1 v2 M → ∀ (H : Heap) (locs : List Loc) (ls : Array Slot), zW lo g s H locs M → lv_has ls 3 [(1, .int v1), (2, .int v2)] → W p l e ({ frames := 5, cells := 0, slots := 0, locals := 150 } : Room) s m args below meth c H locs 0 0 (MQ below (va_Qi post (zc_B lo g) (zA lo)) args s 0 0 (zA lo)) (F0 m 37 ls []) := by
  obtain ⟨hx, hb, hml, hown, hts⟩ := id S
  intro v1 v2 M h H locs ls hw hl
  unfold pX1_goTo_37 at h
  refine lv_iload_n hx hb dX1_goTo_37 rfl (lv_at hl 1 rfl) ?_
  refine lv_iload_n hx hb dX1_goTo_38 rfl (lv_at hl 0 rfl) ?_
  refine lv_icmp_ne (tgt := 46) hx hb dX1_goTo_39 (by decide) (fun hc => ?_) (fun hc => ?_)
  · have h := h.1 hc
    refine lv_iconst (v := (0 : Int32)) hx hb dX1_goTo_46 (by decide) ?_
    exact zr_rz S hr hlocks hw h dX1_goTo_47
  · have h := h.2 hc
    refine lv_iconst (v := (1 : Int32)) hx hb dX1_goTo_42 (by decide) ?_
    refine lv_goto (tgt := 47) hx hb dX1_goTo_43 (by decide) ?_
    exact zr_rz S hr hlocks hw h dX1_goTo_47
set_option maxHeartbeats 4000000 in
set_option maxRecDepth 100000 in
theorem kX1_goTo (l : Launch) (lo : Nat) (g : zg) (M : zm_M) (a0 : Nat) (a1 : Int32) (post : Int32 → zm_M → Prop) (h : pX1_goTo g.2 a0 a1 post M) : Met l yX1_goTo (Cond.code yX1_goTo cX1_goTo 3 (some .boolean) :: zU) (({ frames := 5, cells := 0, slots := 0, locals := 150 } : Room)) (zc_P zNF zNM lo g M [.ref a0, .int a1]) (va_Qi post (zc_B lo g) (zA lo)) 0 0 (zA lo) := by
  refine Met.ofW (cc := cX1_goTo) (maxL := 3) (ret := (some .boolean)) (by decide) rfl ?_
  intro p e s m args below meth c s₁ B hml hv
  obtain ⟨rfl, hR, hK⟩ := hv
  have hts := atoms_spec (ws := Cond.code yX1_goTo cX1_goTo 3 (some .boolean) :: zU) B.pre
  have hts : ∀ w ∈ zU, w.before _ s = true := fun w hw => hts w (List.mem_cons_of_mem _ hw)
  have hown : s.vm.findClass RX1 = some m.cls := findClass_of_methodNamed B.named
  have hx := B.exec
  have hb := B.bytes
  have hr := B.returns
  have hlocks := B.notSynchronized
  have S : CallFix p m c cX1_goTo 3 s ([.ref a0, .int a1] : List Value).toArray zU RX1 := ⟨hx, hb, hml, hown, hts⟩
  have hw : zW lo g s s.heap [] M := ⟨hR, va_S.rf⟩
  have hl := lv_entry ([.ref a0, .int a1]) (n := 3) (Nat.le_of_ble_eq_true rfl)
  rw [lg_entry_eq]
  generalize (lg_sl ([.ref a0, .int a1]) ++ List.replicate (3 - (lg_sl ([.ref a0, .int a1])).length) Slot.unset).toArray = ls at hl ⊢
  have hl : lv_has ls 3 [(0, .ref a0), (1, .int a1)] := hl
  unfold pX1_goTo at h
  refine lv_iload_n hx hb dX1_goTo_0 rfl (lv_at hl 1 rfl) ?_
  refine lv_if_lt (tgt := 11) hx hb dX1_goTo_1 (by decide) (fun hc => ?_) (fun hc => ?_)
  · have h := h.1 hc
    refine lv_iconst (v := (0 : Int32)) hx hb dX1_goTo_11 (by decide) ?_
    exact zr_rz S hr hlocks hw h dX1_goTo_12
  · have h := h.2 hc
    refine lv_iload_n hx hb dX1_goTo_4 rfl (lv_at hl 1 rfl) ?_
    refine lv_sipush (v := (4000 : Int32)) hx hb dX1_goTo_5 (by decide) ?_
    refine lv_icmp_le (tgt := 13) hx hb dX1_goTo_8 (by decide) (fun hc => ?_) (fun hc => ?_)
    · have h := h.1 hc
      refine lv_iconst (v := (0 : Int32)) hx hb dX1_goTo_13 (by decide) ?_
      refine lv_topi (fun x1 ex1 => ?_)
      have h := h x1 ex1
      refine lv_istore_n (lv' := [(2, .int x1), (0, .ref a0), (1, .int a1)]) hx hb dX1_goTo_14 rfl hl (by decide) rfl (fun ls hl => ?_)
      obtain ⟨n15, h⟩ := h
      refine sX1_goTo_15 S hr hlocks hK (fun w6 w7 M8 h H locs ls hw hl => ?_) n15 a0 a1 x1 _ h _ _ _ hw (lv_sub hl [1, 2, 0] rfl)
      exact sX1_goTo_37 S hr hlocks hK  w6 w7 _ h _ _ _ hw (lv_sub hl [0, 1] rfl)
    · have h := h.2 hc
      refine lv_iconst (v := (0 : Int32)) hx hb dX1_goTo_11 (by decide) ?_
      exact zr_rz S hr hlocks hw h dX1_goTo_12
set_option maxHeartbeats 4000000 in
set_option maxRecDepth 100000 in
theorem kX1_join (l : Launch) (lo : Nat) (g : zg) (M : zm_M) (a0 : Nat) (post : zm_M → Prop) (h : pX1_join g.2 a0 post M) : Met l yX1_join (Cond.code yX1_join cX1_join 2 none :: zU) (({ frames := 3, cells := 0, slots := 0, locals := 94 } : Room)) (zc_P zNF zNM lo g M [.ref a0]) (va_Qv post (zc_B lo g) (zA lo)) 0 0 (zA lo) := by
  refine Met.ofW (cc := cX1_join) (maxL := 2) (ret := none) (by decide) rfl ?_
  intro p e s m args below meth c s₁ B hml hv
  obtain ⟨rfl, hR, hK⟩ := hv
  have hts := atoms_spec (ws := Cond.code yX1_join cX1_join 2 none :: zU) B.pre
  have hts : ∀ w ∈ zU, w.before _ s = true := fun w hw => hts w (List.mem_cons_of_mem _ hw)
  have hown : s.vm.findClass RX1 = some m.cls := findClass_of_methodNamed B.named
  have hx := B.exec
  have hb := B.bytes
  have hr := B.returns
  have hlocks := B.notSynchronized
  have S : CallFix p m c cX1_join 2 s ([.ref a0] : List Value).toArray zU RX1 := ⟨hx, hb, hml, hown, hts⟩
  have hw : zW lo g s s.heap [] M := ⟨hR, va_S.rf⟩
  have hl := lv_entry ([.ref a0]) (n := 2) (Nat.le_of_ble_eq_true rfl)
  rw [lg_entry_eq]
  generalize (lg_sl ([.ref a0]) ++ List.replicate (2 - (lg_sl ([.ref a0])).length) Slot.unset).toArray = ls at hl ⊢
  have hl : lv_has ls 2 [(0, .ref a0)] := hl
  unfold pX1_join at h
  refine lv_aload_n hx hb dX1_join_0 rfl (lv_at hl 0 rfl) ?_
  refine zr_ga (C := RX1) (T := TX1) (N := 11) (ci := 4) (k := 8) S hK hw zi_X1 rfl (by decide) zu_197 dX1_join_1 h (fun topBefore_1 h => ?_)
  refine lv_aload_n hx hb dX1_join_4 rfl (lv_at hl 0 rfl) ?_
  refine zr_ga (C := RX1) (T := TX1) (N := 11) (ci := 4) (k := 3) S hK hw zi_X1 rfl (by decide) zu_187 dX1_join_5 h (fun link_2 h => ?_)
  refine lv_aload_n hx hb dX1_join_8 rfl (lv_at hl 0 rfl) ?_
  refine zr_ga (C := RX1) (T := TX1) (N := 11) (ci := 4) (k := 6) S hK hw zi_X1 rfl (by decide) zu_198 dX1_join_9 h (fun top_3 h => ?_)
  obtain ⟨ho, h⟩ := h
  refine zr_Vv (As := [.ref link_2, .ref top_3]) (rest := []) S hK hw (kX5_addProduct l lo g M topBefore_1 link_2 top_3 _ h) (cwV 2 hts (zg_V zu_199 zu_106 zu_107 zu_12 zu_108) rfl rfl rfl (by decide +kernel) ⟨Nat.le_of_ble_eq_true rfl, Nat.le_of_ble_eq_true rfl⟩) (ci := 8) rfl ho rfl hl.1 rfl (Nat.le_of_ble_eq_true rfl) dX1_join_12 ⟨Nat.le_of_ble_eq_true rfl, Nat.le_of_ble_eq_true rfl⟩ (fun M4 H locs hw h => ?_)
  refine lv_aload_n hx hb dX1_join_15 rfl (lv_at hl 0 rfl) ?_
  refine zr_ga (C := RX1) (T := TX1) (N := 11) (ci := 4) (k := 8) S hK hw zi_X1 rfl (by decide) zu_197 dX1_join_16 h (fun topBefore_5 h => ?_)
  refine lv_astore_n (lv' := [(1, .ref topBefore_5), (0, .ref a0)]) hx hb dX1_join_19 rfl hl (by decide) rfl (fun ls hl => ?_)
  refine lv_aload_n hx hb dX1_join_20 rfl (lv_at hl 1 rfl) ?_
  refine lv_aload_n hx hb dX1_join_21 rfl (lv_at hl 1 rfl) ?_
  refine zr_ga (C := RX1) (T := TX1) (N := 11) (ci := 4) (k := 6) S hK hw zi_X1 rfl (by decide) zu_198 dX1_join_22 h (fun top_6 h => ?_)
  refine zr_p (C := RX1) (T := TX1) (N := 11) (ci := 4) (k := 8) S hK hw zi_X1 tyX1 tyX1_ok nmX1 rfl (by decide) zu_197 rfl rfl rfl dX1_join_25 h (fun M7 H locs hw h => ?_)
  refine lv_aload_n hx hb dX1_join_28 rfl (lv_at hl 1 rfl) ?_
  refine lv_aload_n hx hb dX1_join_29 rfl (lv_at hl 0 rfl) ?_
  refine zr_p (C := RX1) (T := TX1) (N := 11) (ci := 4) (k := 6) S hK hw zi_X1 tyX1 tyX1_ok nmX1 rfl (by decide) zu_198 rfl rfl rfl dX1_join_30 h (fun M8 H locs hw h => ?_)
  refine lv_aload_n hx hb dX1_join_33 rfl (lv_at hl 1 rfl) ?_
  refine zr_ga (C := RX1) (T := TX1) (N := 11) (ci := 4) (k := 9) S hK hw zi_X1 rfl (by decide) zu_200 dX1_join_34 h (fun bottomBefore_9 h => ?_)
  refine lv_aload_n hx hb dX1_join_37 rfl (lv_at hl 1 rfl) ?_
  refine zr_ga (C := RX1) (T := TX1) (N := 11) (ci := 4) (k := 3) S hK hw zi_X1 rfl (by decide) zu_187 dX1_join_38 h (fun link_10 h => ?_)
  refine lv_aload_n hx hb dX1_join_41 rfl (lv_at hl 1 rfl) ?_
  refine zr_ga (C := RX1) (T := TX1) (N := 11) (ci := 4) (k := 7) S hK hw zi_X1 rfl (by decide) zu_201 dX1_join_42 h (fun bottom_11 h => ?_)
  obtain ⟨ho, h⟩ := h
  refine zr_Vv (As := [.ref link_10, .ref bottom_11]) (rest := []) S hK hw (kX5_addProduct l lo g M8 bottomBefore_9 link_10 bottom_11 _ h) (cwV 2 hts (zg_V zu_199 zu_106 zu_107 zu_12 zu_108) rfl rfl rfl (by decide +kernel) ⟨Nat.le_of_ble_eq_true rfl, Nat.le_of_ble_eq_true rfl⟩) (ci := 8) rfl ho rfl hl.1 rfl (Nat.le_of_ble_eq_true rfl) dX1_join_45 ⟨Nat.le_of_ble_eq_true rfl, Nat.le_of_ble_eq_true rfl⟩ (fun M12 H locs hw h => ?_)
  refine lv_aload_n hx hb dX1_join_48 rfl (lv_at hl 1 rfl) ?_
  refine zr_ga (C := RX1) (T := TX1) (N := 11) (ci := 4) (k := 9) S hK hw zi_X1 rfl (by decide) zu_200 dX1_join_49 h (fun bottomBefore_13 h => ?_)
  refine lv_astore_n (lv' := [(1, .ref bottomBefore_13), (0, .ref a0)]) hx hb dX1_join_52 rfl hl (by decide) rfl (fun ls hl => ?_)
  refine lv_aload_n hx hb dX1_join_53 rfl (lv_at hl 1 rfl) ?_
  refine lv_aload_n hx hb dX1_join_54 rfl (lv_at hl 1 rfl) ?_
  refine zr_ga (C := RX1) (T := TX1) (N := 11) (ci := 4) (k := 7) S hK hw zi_X1 rfl (by decide) zu_201 dX1_join_55 h (fun bottom_14 h => ?_)
  refine zr_p (C := RX1) (T := TX1) (N := 11) (ci := 4) (k := 9) S hK hw zi_X1 tyX1 tyX1_ok nmX1 rfl (by decide) zu_200 rfl rfl rfl dX1_join_58 h (fun M15 H locs hw h => ?_)
  refine lv_aload_n hx hb dX1_join_61 rfl (lv_at hl 1 rfl) ?_
  refine lv_aload_n hx hb dX1_join_62 rfl (lv_at hl 0 rfl) ?_
  refine zr_p (C := RX1) (T := TX1) (N := 11) (ci := 4) (k := 7) S hK hw zi_X1 tyX1 tyX1_ok nmX1 rfl (by decide) zu_201 rfl rfl rfl dX1_join_63 h (fun M16 H locs hw h => ?_)
  exact zr_rv S hr hlocks hw h dX1_join_66
set_option maxHeartbeats 4000000 in
set_option maxRecDepth 100000 in
theorem sX1_gather_46 {p : Program} {l : Launch} {e : Env} {s : State} {m : MethodId} {args : Array Value} {below : List Frame} {meth : Method} {c : Code} {lo : Nat} {g : zg} {post : Int32 → zm_M → Prop} {k72 : Int32 → Int32 → zm_M → Prop} (S : CallFix p m c cX1_gather 3 s args zU RX1) (hr : meth.sig.returnType = (some .boolean)) (hlocks : meth.locks = false) (hK : zk_K zNF zNM g s) (hk72 : ∀ (v1 : Int32) (v2 : Int32) (M : zm_M), k72 v1 v2 M → ∀ (H : Heap) (locs : List Loc) (ls : Array Slot), zW lo g s H locs M → lv_has ls 3 [(1, .int v1), (2, .int v2)] → W p l e ({ frames := 5, cells := 0, slots := 0, locals := 150 } : Room) s m args below meth c H locs 0 0 (MQ below (va_Qi post (zc_B lo g) (zA lo)) args s 0 0 (zA lo)) (F0 m 72 ls [])) : ∀ (n : Nat) (v0 : Nat) (v1 : Int32) (v2 : Int32) (M : zm_M), pX1_gather_46 g.2 post k72 n v0 v1 v2 M → ∀ (H : Heap) (locs : List Loc) (ls : Array Slot), zW lo g s H locs M → lv_has ls 3 [(0, .ref v0), (1, .int v1), (2, .int v2)] → W p l e ({ frames := 5, cells := 0, slots := 0, locals := 150 } : Room) s m args below meth c H locs 0 0 (MQ below (va_Qi post (zc_B lo g) (zA lo)) args s 0 0 (zA lo)) (F0 m 46 ls []) := by
  obtain ⟨hx, hb, hml, hown, hts⟩ := id S
  intro n
  induction n with
  | zero =>
    intro v0 v1 v2 M h
    exact False.elim h
  | succ n46 ih =>
    intro v0 v1 v2 M h H locs ls hw hl
    rw [pX1_gather_46] at h
    refine lv_iload_n hx hb dX1_gather_46 rfl (lv_at hl 2 rfl) ?_
    refine lv_iload_n hx hb dX1_gather_47 rfl (lv_at hl 1 rfl) ?_
    refine lv_icmp_ge (tgt := 72) hx hb dX1_gather_48 (by decide) (fun hc => ?_) (fun hc => ?_)
    · have h := h.1 hc
      exact hk72 v1 v2 _ h _ _ _ hw (lv_sub hl [1, 2] rfl)
    · have h := h.2 hc
      refine lv_aload_n hx hb dX1_gather_51 rfl (lv_at hl 0 rfl) ?_
      obtain ⟨ho, h⟩ := h
      refine zr_Vi (As := []) (rest := []) S hK hw (kX1_hasMore l lo g M v0  _ h) (cwV 0 hts (zg_V zu_188 zu_189 zu_190 zu_191 zu_192) rfl rfl rfl (by decide +kernel) ⟨Nat.le_of_ble_eq_true rfl, Nat.le_of_ble_eq_true rfl⟩) (ci := 4) rfl ho rfl hl.1 rfl (Nat.le_of_ble_eq_true rfl) dX1_gather_52 ⟨Nat.le_of_ble_eq_true rfl, Nat.le_of_ble_eq_true rfl⟩ (fun r11 M10 H locs hw h => ?_)
      refine lv_if_eq (tgt := 72) hx hb dX1_gather_55 (by decide) (fun hc => ?_) (fun hc => ?_)
      · have h := h.1 hc
        exact hk72 v1 v2 _ h _ _ _ hw (lv_sub hl [1, 2] rfl)
      · have h := h.2 hc
        refine lv_aload_n hx hb dX1_gather_58 rfl (lv_at hl 0 rfl) ?_
        obtain ⟨ho, h⟩ := h
        refine zr_Vv (As := []) (rest := []) S hK hw (kX1_cut l lo g M10 v0  _ h) (cwV 0 hts (zg_V zu_193 zu_194 zu_195 zu_191 zu_196) rfl rfl rfl (by decide +kernel) ⟨Nat.le_of_ble_eq_true rfl, Nat.le_of_ble_eq_true rfl⟩) (ci := 4) rfl ho rfl hl.1 rfl (Nat.le_of_ble_eq_true rfl) dX1_gather_59 ⟨Nat.le_of_ble_eq_true rfl, Nat.le_of_ble_eq_true rfl⟩ (fun M12 H locs hw h => ?_)
        refine lv_aload_n hx hb dX1_gather_62 rfl (lv_at hl 0 rfl) ?_
        obtain ⟨ho, h⟩ := h
        refine zr_Vv (As := []) (rest := []) S hK hw (kX1_join l lo g M12 v0  _ h) (cwV 0 hts (zg_V zu_204 zu_205 zu_206 zu_191 zu_207) rfl rfl rfl (by decide +kernel) ⟨Nat.le_of_ble_eq_true rfl, Nat.le_of_ble_eq_true rfl⟩) (ci := 4) rfl ho rfl hl.1 rfl (Nat.le_of_ble_eq_true rfl) dX1_gather_63 ⟨Nat.le_of_ble_eq_true rfl, Nat.le_of_ble_eq_true rfl⟩ (fun M13 H locs hw h => ?_)
        obtain ⟨x14, ex14⟩ : ∃ z : Int32, z = v2 + (1 : Int32) := ⟨_, rfl⟩
        have h := h x14 ex14
        refine lv_iinc (v := x14) (lv' := [(2, .int x14), (0, .ref v0), (1, .int v1)]) hx hb dX1_gather_66 hl (k := 2) rfl (by rw [ex14]; rfl) (by decide) rfl (fun ls hl => ?_)
        refine lv_goto (tgt := 46) hx hb dX1_gather_69 (by decide) ?_
        exact ih v0 v1 x14 _ h _ _ _ hw (lv_sub hl [1, 2, 0] rfl)
set_option maxHeartbeats 4000000 in
set_option maxRecDepth 100000 in
theorem sX1_gather_72 {p : Program} {l : Launch} {e : Env} {s : State} {m : MethodId} {args : Array Value} {below : List Frame} {meth : Method} {c : Code} {lo : Nat} {g : zg} {post : Int32 → zm_M → Prop}  (S : CallFix p m c cX1_gather 3 s args zU RX1) (hr : meth.sig.returnType = (some .boolean)) (hlocks : meth.locks = false) (hK : zk_K zNF zNM g s)  : ∀ (v1 : Int32) (v2 : Int32) (M : zm_M), pX1_gather_72 g.2 post  v1 v2 M → ∀ (H : Heap) (locs : List Loc) (ls : Array Slot), zW lo g s H locs M → lv_has ls 3 [(1, .int v1), (2, .int v2)] → W p l e ({ frames := 5, cells := 0, slots := 0, locals := 150 } : Room) s m args below meth c H locs 0 0 (MQ below (va_Qi post (zc_B lo g) (zA lo)) args s 0 0 (zA lo)) (F0 m 72 ls []) := by
  obtain ⟨hx, hb, hml, hown, hts⟩ := id S
  intro v1 v2 M h H locs ls hw hl
  unfold pX1_gather_72 at h
  refine lv_iload_n hx hb dX1_gather_72 rfl (lv_at hl 1 rfl) ?_
  refine lv_iload_n hx hb dX1_gather_73 rfl (lv_at hl 0 rfl) ?_
  refine lv_icmp_ne (tgt := 81) hx hb dX1_gather_74 (by decide) (fun hc => ?_) (fun hc => ?_)
  · have h := h.1 hc
    refine lv_iconst (v := (0 : Int32)) hx hb dX1_gather_81 (by decide) ?_
    exact zr_rz S hr hlocks hw h dX1_gather_82
  · have h := h.2 hc
    refine lv_iconst (v := (1 : Int32)) hx hb dX1_gather_77 (by decide) ?_
    refine lv_goto (tgt := 82) hx hb dX1_gather_78 (by decide) ?_
    exact zr_rz S hr hlocks hw h dX1_gather_82
set_option maxHeartbeats 4000000 in
set_option maxRecDepth 100000 in
theorem kX1_gather (l : Launch) (lo : Nat) (g : zg) (M : zm_M) (a0 : Nat) (a1 : Int32) (post : Int32 → zm_M → Prop) (h : pX1_gather g.2 a0 a1 post M) : Met l yX1_gather (Cond.code yX1_gather cX1_gather 3 (some .boolean) :: zU) (({ frames := 5, cells := 0, slots := 0, locals := 150 } : Room)) (zc_P zNF zNM lo g M [.ref a0, .int a1]) (va_Qi post (zc_B lo g) (zA lo)) 0 0 (zA lo) := by
  refine Met.ofW (cc := cX1_gather) (maxL := 3) (ret := (some .boolean)) (by decide) rfl ?_
  intro p e s m args below meth c s₁ B hml hv
  obtain ⟨rfl, hR, hK⟩ := hv
  have hts := atoms_spec (ws := Cond.code yX1_gather cX1_gather 3 (some .boolean) :: zU) B.pre
  have hts : ∀ w ∈ zU, w.before _ s = true := fun w hw => hts w (List.mem_cons_of_mem _ hw)
  have hown : s.vm.findClass RX1 = some m.cls := findClass_of_methodNamed B.named
  have hx := B.exec
  have hb := B.bytes
  have hr := B.returns
  have hlocks := B.notSynchronized
  have S : CallFix p m c cX1_gather 3 s ([.ref a0, .int a1] : List Value).toArray zU RX1 := ⟨hx, hb, hml, hown, hts⟩
  have hw : zW lo g s s.heap [] M := ⟨hR, va_S.rf⟩
  have hl := lv_entry ([.ref a0, .int a1]) (n := 3) (Nat.le_of_ble_eq_true rfl)
  rw [lg_entry_eq]
  generalize (lg_sl ([.ref a0, .int a1]) ++ List.replicate (3 - (lg_sl ([.ref a0, .int a1])).length) Slot.unset).toArray = ls at hl ⊢
  have hl : lv_has ls 3 [(0, .ref a0), (1, .int a1)] := hl
  unfold pX1_gather at h
  refine lv_iload_n hx hb dX1_gather_0 rfl (lv_at hl 1 rfl) ?_
  refine lv_iconst (v := (1 : Int32)) hx hb dX1_gather_1 (by decide) ?_
  refine lv_icmp_lt (tgt := 12) hx hb dX1_gather_2 (by decide) (fun hc => ?_) (fun hc => ?_)
  · have h := h.1 hc
    refine lv_iconst (v := (0 : Int32)) hx hb dX1_gather_12 (by decide) ?_
    exact zr_rz S hr hlocks hw h dX1_gather_13
  · have h := h.2 hc
    refine lv_iload_n hx hb dX1_gather_5 rfl (lv_at hl 1 rfl) ?_
    refine lv_sipush (v := (4000 : Int32)) hx hb dX1_gather_6 (by decide) ?_
    refine lv_icmp_le (tgt := 14) hx hb dX1_gather_9 (by decide) (fun hc => ?_) (fun hc => ?_)
    · have h := h.1 hc
      refine lv_aload_n hx hb dX1_gather_14 rfl (lv_at hl 0 rfl) ?_
      refine zr_ga (C := RX1) (T := TX1) (N := 11) (ci := 4) (k := 6) S hK hw zi_X1 rfl (by decide) zu_198 dX1_gather_15 h (fun top_1 h => ?_)
      obtain ⟨ho, h⟩ := h
      refine zr_Vv (As := []) (rest := []) S hK hw (kX5_clear l lo g M top_1  _ h) (cwV 0 hts (zg_V zu_202 zu_40 zu_41 zu_12 zu_42) rfl rfl rfl (by decide +kernel) ⟨Nat.le_of_ble_eq_true rfl, Nat.le_of_ble_eq_true rfl⟩) (ci := 8) rfl ho rfl hl.1 rfl (Nat.le_of_ble_eq_true rfl) dX1_gather_18 ⟨Nat.le_of_ble_eq_true rfl, Nat.le_of_ble_eq_true rfl⟩ (fun M2 H locs hw h => ?_)
      refine lv_aload_n hx hb dX1_gather_21 rfl (lv_at hl 0 rfl) ?_
      refine zr_ga (C := RX1) (T := TX1) (N := 11) (ci := 4) (k := 7) S hK hw zi_X1 rfl (by decide) zu_201 dX1_gather_22 h (fun bottom_3 h => ?_)
      refine lv_lconst (v := (1 : Int64)) hx hb dX1_gather_25 (by decide) ?_
      obtain ⟨ho, h⟩ := h
      refine zr_Vv (As := [.long (1 : Int64)]) (rest := []) S hK hw (kX5_become l lo g M2 bottom_3 (1 : Int64) _ h) (cwV 1 hts (zg_V zu_203 zu_21 zu_22 zu_12 zu_23) rfl rfl rfl (by decide +kernel) ⟨Nat.le_of_ble_eq_true rfl, Nat.le_of_ble_eq_true rfl⟩) (ci := 8) rfl ho rfl hl.1 rfl (Nat.le_of_ble_eq_true rfl) dX1_gather_26 ⟨Nat.le_of_ble_eq_true rfl, Nat.le_of_ble_eq_true rfl⟩ (fun M4 H locs hw h => ?_)
      refine lv_aload_n hx hb dX1_gather_29 rfl (lv_at hl 0 rfl) ?_
      refine zr_ga (C := RX1) (T := TX1) (N := 11) (ci := 4) (k := 8) S hK hw zi_X1 rfl (by decide) zu_197 dX1_gather_30 h (fun topBefore_5 h => ?_)
      refine lv_lconst (v := (1 : Int64)) hx hb dX1_gather_33 (by decide) ?_
      obtain ⟨ho, h⟩ := h
      refine zr_Vv (As := [.long (1 : Int64)]) (rest := []) S hK hw (kX5_become l lo g M4 topBefore_5 (1 : Int64) _ h) (cwV 1 hts (zg_V zu_203 zu_21 zu_22 zu_12 zu_23) rfl rfl rfl (by decide +kernel) ⟨Nat.le_of_ble_eq_true rfl, Nat.le_of_ble_eq_true rfl⟩) (ci := 8) rfl ho rfl hl.1 rfl (Nat.le_of_ble_eq_true rfl) dX1_gather_34 ⟨Nat.le_of_ble_eq_true rfl, Nat.le_of_ble_eq_true rfl⟩ (fun M6 H locs hw h => ?_)
      refine lv_aload_n hx hb dX1_gather_37 rfl (lv_at hl 0 rfl) ?_
      refine zr_ga (C := RX1) (T := TX1) (N := 11) (ci := 4) (k := 9) S hK hw zi_X1 rfl (by decide) zu_200 dX1_gather_38 h (fun bottomBefore_7 h => ?_)
      obtain ⟨ho, h⟩ := h
      refine zr_Vv (As := []) (rest := []) S hK hw (kX5_clear l lo g M6 bottomBefore_7  _ h) (cwV 0 hts (zg_V zu_202 zu_40 zu_41 zu_12 zu_42) rfl rfl rfl (by decide +kernel) ⟨Nat.le_of_ble_eq_true rfl, Nat.le_of_ble_eq_true rfl⟩) (ci := 8) rfl ho rfl hl.1 rfl (Nat.le_of_ble_eq_true rfl) dX1_gather_41 ⟨Nat.le_of_ble_eq_true rfl, Nat.le_of_ble_eq_true rfl⟩ (fun M8 H locs hw h => ?_)
      refine lv_iconst (v := (1 : Int32)) hx hb dX1_gather_44 (by decide) ?_
      refine lv_topi (fun x9 ex9 => ?_)
      have h := h x9 ex9
      refine lv_istore_n (lv' := [(2, .int x9), (0, .ref a0), (1, .int a1)]) hx hb dX1_gather_45 rfl hl (by decide) rfl (fun ls hl => ?_)
      obtain ⟨n46, h⟩ := h
      refine sX1_gather_46 S hr hlocks hK (fun w15 w16 M17 h H locs ls hw hl => ?_) n46 a0 a1 x9 _ h _ _ _ hw (lv_sub hl [1, 2, 0] rfl)
      exact sX1_gather_72 S hr hlocks hK  w15 w16 _ h _ _ _ hw (lv_sub hl [0, 1] rfl)
    · have h := h.2 hc
      refine lv_iconst (v := (0 : Int32)) hx hb dX1_gather_12 (by decide) ?_
      exact zr_rz S hr hlocks hw h dX1_gather_13
set_option maxHeartbeats 4000000 in
set_option maxRecDepth 100000 in
theorem kX1_tell (l : Launch) (lo : Nat) (g : zg) (M : zm_M) (a0 : Nat) (a1 : Nat) (post : zm_M → Prop) (h : pX1_tell g.2 a0 a1 post M) : Met l yX1_tell (Cond.code yX1_tell cX1_tell 2 none :: zU) (({ frames := 4, cells := 0, slots := 0, locals := 116 } : Room)) (zc_P zNF zNM lo g M [.ref a0, .ref a1]) (va_Qv post (zc_B lo g) (zA lo)) 0 0 (zA lo) := by
  refine Met.ofW (cc := cX1_tell) (maxL := 2) (ret := none) (by decide) rfl ?_
  intro p e s m args below meth c s₁ B hml hv
  obtain ⟨rfl, hR, hK⟩ := hv
  have hts := atoms_spec (ws := Cond.code yX1_tell cX1_tell 2 none :: zU) B.pre
  have hts : ∀ w ∈ zU, w.before _ s = true := fun w hw => hts w (List.mem_cons_of_mem _ hw)
  have hown : s.vm.findClass RX1 = some m.cls := findClass_of_methodNamed B.named
  have hx := B.exec
  have hb := B.bytes
  have hr := B.returns
  have hlocks := B.notSynchronized
  have S : CallFix p m c cX1_tell 2 s ([.ref a0, .ref a1] : List Value).toArray zU RX1 := ⟨hx, hb, hml, hown, hts⟩
  have hw : zW lo g s s.heap [] M := ⟨hR, va_S.rf⟩
  have hl := lv_entry ([.ref a0, .ref a1]) (n := 2) (Nat.le_of_ble_eq_true rfl)
  rw [lg_entry_eq]
  generalize (lg_sl ([.ref a0, .ref a1]) ++ List.replicate (2 - (lg_sl ([.ref a0, .ref a1])).length) Slot.unset).toArray = ls at hl ⊢
  have hl : lv_has ls 2 [(0, .ref a0), (1, .ref a1)] := hl
  unfold pX1_tell at h
  refine lv_aload_n hx hb dX1_tell_0 rfl (lv_at hl 1 rfl) ?_
  refine lv_aload_n hx hb dX1_tell_1 rfl (lv_at hl 0 rfl) ?_
  refine zr_gi (C := RX1) (T := TX1) (N := 11) (ci := 4) (k := 0) S hK hw zi_X1 rfl (by decide) zu_177 dX1_tell_2 h (fun headSign_1 h => ?_)
  refine zr_pN (C := RX2) (T := TX2) (N := 3) (ci := 5) (k := 0) (host := "LeastTerms") S hK hw zi_X2 tyX2 tyX2_ok nmX2 rfl (by decide) (by decide +kernel) rfl rfl rfl dX1_tell_5 h (fun M2 H locs hw h => ?_)
  refine lv_aload_n hx hb dX1_tell_8 rfl (lv_at hl 1 rfl) ?_
  refine zr_gaN (C := RX2) (T := TX2) (N := 3) (ci := 5) (k := 1) (host := "LeastTerms") S hK hw zi_X2 rfl (by decide) (by decide +kernel) dX1_tell_9 h (fun top_3 h => ?_)
  refine lv_aload_n hx hb dX1_tell_12 rfl (lv_at hl 0 rfl) ?_
  refine zr_ga (C := RX1) (T := TX1) (N := 11) (ci := 4) (k := 1) S hK hw zi_X1 rfl (by decide) zu_180 dX1_tell_13 h (fun head_4 h => ?_)
  refine lv_aload_n hx hb dX1_tell_16 rfl (lv_at hl 0 rfl) ?_
  refine zr_ga (C := RX1) (T := TX1) (N := 11) (ci := 4) (k := 7) S hK hw zi_X1 rfl (by decide) zu_201 dX1_tell_17 h (fun bottom_5 h => ?_)
  obtain ⟨ho, h⟩ := h
  refine zr_Vv (As := [.ref head_4, .ref bottom_5]) (rest := []) S hK hw (kX5_multiply l lo g M2 top_3 head_4 bottom_5 _ h) (cwV 2 hts (zg_V zu_208 zu_121 zu_122 zu_12 zu_123) rfl rfl rfl (by decide +kernel) ⟨Nat.le_of_ble_eq_true rfl, Nat.le_of_ble_eq_true rfl⟩) (ci := 8) rfl ho rfl hl.1 rfl (Nat.le_of_ble_eq_true rfl) dX1_tell_20 ⟨Nat.le_of_ble_eq_true rfl, Nat.le_of_ble_eq_true rfl⟩ (fun M6 H locs hw h => ?_)
  refine lv_aload_n hx hb dX1_tell_23 rfl (lv_at hl 1 rfl) ?_
  refine lv_iconst (v := (1 : Int32)) hx hb dX1_tell_24 (by decide) ?_
  refine lv_aload_n hx hb dX1_tell_25 rfl (lv_at hl 0 rfl) ?_
  refine zr_ga (C := RX1) (T := TX1) (N := 11) (ci := 4) (k := 6) S hK hw zi_X1 rfl (by decide) zu_198 dX1_tell_26 h (fun top_7 h => ?_)
  obtain ⟨ho, h⟩ := h
  refine zr_Vv (As := [.int (1 : Int32), .ref top_7]) (rest := []) S hK hw (kX2_addToTop l lo g M6 a1 (1 : Int32) top_7 _ h) (cwV 2 hts (zg_V zu_209 zu_125 zu_126 zu_99 zu_127) rfl rfl rfl (by decide +kernel) ⟨Nat.le_of_ble_eq_true rfl, Nat.le_of_ble_eq_true rfl⟩) (ci := 5) rfl ho rfl hl.1 rfl (Nat.le_of_ble_eq_true rfl) dX1_tell_29 ⟨Nat.le_of_ble_eq_true rfl, Nat.le_of_ble_eq_true rfl⟩ (fun M8 H locs hw h => ?_)
  refine lv_aload_n hx hb dX1_tell_32 rfl (lv_at hl 1 rfl) ?_
  refine zr_gaN (C := RX2) (T := TX2) (N := 3) (ci := 5) (k := 2) (host := "LeastTerms") S hK hw zi_X2 rfl (by decide) (by decide +kernel) dX1_tell_33 h (fun bottom_9 h => ?_)
  refine lv_aload_n hx hb dX1_tell_36 rfl (lv_at hl 0 rfl) ?_
  refine zr_ga (C := RX1) (T := TX1) (N := 11) (ci := 4) (k := 7) S hK hw zi_X1 rfl (by decide) zu_201 dX1_tell_37 h (fun bottom_10 h => ?_)
  obtain ⟨ho, h⟩ := h
  refine zr_Vv (As := [.ref bottom_10]) (rest := []) S hK hw (kX5_copy l lo g M8 bottom_9 bottom_10 _ h) (cwV 1 hts (zg_V zu_179 zu_69 zu_70 zu_12 zu_71) rfl rfl rfl (by decide +kernel) ⟨Nat.le_of_ble_eq_true rfl, Nat.le_of_ble_eq_true rfl⟩) (ci := 8) rfl ho rfl hl.1 rfl (Nat.le_of_ble_eq_true rfl) dX1_tell_40 ⟨Nat.le_of_ble_eq_true rfl, Nat.le_of_ble_eq_true rfl⟩ (fun M11 H locs hw h => ?_)
  exact zr_rv S hr hlocks hw h dX1_tell_43
set_option maxHeartbeats 4000000 in
set_option maxRecDepth 100000 in
theorem kX5_isAbove (l : Launch) (lo : Nat) (g : zg) (M : zm_M) (a0 : Nat) (a1 : Int64) (post : Int32 → zm_M → Prop) (h : pX5_isAbove g.2 a0 a1 post M) : Met l yX5_isAbove (Cond.code yX5_isAbove cX5_isAbove 3 (some .boolean) :: zU) (({ frames := 3, cells := 0, slots := 0, locals := 81 } : Room)) (zc_P zNF zNM lo g M [.ref a0, .long a1]) (va_Qi post (zc_B lo g) (zA lo)) 0 0 (zA lo) := by
  refine Met.ofW (cc := cX5_isAbove) (maxL := 3) (ret := (some .boolean)) (by decide) rfl ?_
  intro p e s m args below meth c s₁ B hml hv
  obtain ⟨rfl, hR, hK⟩ := hv
  have hts := atoms_spec (ws := Cond.code yX5_isAbove cX5_isAbove 3 (some .boolean) :: zU) B.pre
  have hts : ∀ w ∈ zU, w.before _ s = true := fun w hw => hts w (List.mem_cons_of_mem _ hw)
  have hown : s.vm.findClass RX5 = some m.cls := findClass_of_methodNamed B.named
  have hx := B.exec
  have hb := B.bytes
  have hr := B.returns
  have hlocks := B.notSynchronized
  have S : CallFix p m c cX5_isAbove 3 s ([.ref a0, .long a1] : List Value).toArray zU RX5 := ⟨hx, hb, hml, hown, hts⟩
  have hw : zW lo g s s.heap [] M := ⟨hR, va_S.rf⟩
  have hl := lv_entry ([.ref a0, .long a1]) (n := 3) (Nat.le_of_ble_eq_true rfl)
  rw [lg_entry_eq]
  generalize (lg_sl ([.ref a0, .long a1]) ++ List.replicate (3 - (lg_sl ([.ref a0, .long a1])).length) Slot.unset).toArray = ls at hl ⊢
  have hl : lv_has ls 3 [(0, .ref a0), (1, .long a1)] := hl
  unfold pX5_isAbove at h
  refine lv_aload_n hx hb dX5_isAbove_0 rfl (lv_at hl 0 rfl) ?_
  obtain ⟨ho, h⟩ := h
  refine zr_Vi (As := []) (rest := []) S hK hw (kX5_bits l lo g M a0  _ h) (cwV 0 hts (zg_V zu_210 zu_130 zu_131 zu_12 zu_132) rfl rfl rfl (by decide +kernel) ⟨Nat.le_of_ble_eq_true rfl, Nat.le_of_ble_eq_true rfl⟩) (ci := 8) rfl ho rfl hl.1 rfl (Nat.le_of_ble_eq_true rfl) dX5_isAbove_1 ⟨Nat.le_of_ble_eq_true rfl, Nat.le_of_ble_eq_true rfl⟩ (fun r2 M1 H locs hw h => ?_)
  refine lv_bipush (v := (63 : Int32)) hx hb dX5_isAbove_4 (by decide) ?_
  refine lv_icmp_gt (tgt := 18) hx hb dX5_isAbove_6 (by decide) (fun hc => ?_) (fun hc => ?_)
  · have h := h.1 hc
    refine lv_iconst (v := (1 : Int32)) hx hb dX5_isAbove_18 (by decide) ?_
    refine lv_goto (tgt := 23) hx hb dX5_isAbove_19 (by decide) ?_
    exact zr_rz S hr hlocks hw h dX5_isAbove_23
  · have h := h.2 hc
    refine lv_aload_n hx hb dX5_isAbove_9 rfl (lv_at hl 0 rfl) ?_
    obtain ⟨ho, h⟩ := h
    refine zr_Vl (As := []) (rest := []) S hK hw (kX5_low l lo g M1 a0  _ h) (cwV 0 hts (zg_V zu_211 zu_167 zu_168 zu_12 zu_169) rfl rfl rfl (by decide +kernel) ⟨Nat.le_of_ble_eq_true rfl, Nat.le_of_ble_eq_true rfl⟩) (ci := 8) rfl ho rfl hl.1 rfl (Nat.le_of_ble_eq_true rfl) dX5_isAbove_10 ⟨Nat.le_of_ble_eq_true rfl, Nat.le_of_ble_eq_true rfl⟩ (fun r4 M3 H locs hw h => ?_)
    refine lv_lload_n hx hb dX5_isAbove_13 rfl (lv_at hl 1 rfl) ?_
    refine W.lcmp hx hb dX5_isAbove_14 ?_
    refine lv_if_le (tgt := 22) hx hb dX5_isAbove_15 (by decide) (fun hc => ?_) (fun hc => ?_)
    · have h := h.1 (zc_le.mp hc)
      refine lv_iconst (v := (0 : Int32)) hx hb dX5_isAbove_22 (by decide) ?_
      exact zr_rz S hr hlocks hw h dX5_isAbove_23
    · have h := h.2 (fun q => hc (zc_le.mpr q))
      refine lv_iconst (v := (1 : Int32)) hx hb dX5_isAbove_18 (by decide) ?_
      refine lv_goto (tgt := 23) hx hb dX5_isAbove_19 (by decide) ?_
      exact zr_rz S hr hlocks hw h dX5_isAbove_23
set_option maxHeartbeats 4000000 in
set_option maxRecDepth 100000 in
theorem sX1_gap_91 {p : Program} {l : Launch} {e : Env} {s : State} {m : MethodId} {args : Array Value} {below : List Frame} {meth : Method} {c : Code} {lo : Nat} {g : zg} {post : zm_M → Prop}  (S : CallFix p m c cX1_gap 9 s args zU RX1) (hr : meth.sig.returnType = none) (hlocks : meth.locks = false) (hK : zk_K zNF zNM g s)  : ∀ (v0 : Nat) (v1 : Nat) (v7 : Int64) (M : zm_M), pX1_gap_91 g.2 post  v0 v1 v7 M → ∀ (H : Heap) (locs : List Loc) (ls : Array Slot), zW lo g s H locs M → lv_has ls 9 [(0, .ref v0), (1, .ref v1), (7, .long v7)] → W p l e ({ frames := 4, cells := 0, slots := 0, locals := 116 } : Room) s m args below meth c H locs 0 0 (MQ below (va_Qv post (zc_B lo g) (zA lo)) args s 0 0 (zA lo)) (F0 m 91 ls []) := by
  obtain ⟨hx, hb, hml, hown, hts⟩ := id S
  intro v0 v1 v7 M h H locs ls hw hl
  unfold pX1_gap_91 at h
  refine lv_aload_n hx hb dX1_gap_91 rfl (lv_at hl 0 rfl) ?_
  refine zr_ga (C := RX1) (T := TX1) (N := 11) (ci := 4) (k := 10) S hK hw zi_X1 rfl (by decide) zu_212 dX1_gap_92 h (fun spare_20 h => ?_)
  refine lv_lload hx hb dX1_gap_95 (lv_at hl 2 rfl) ?_
  obtain ⟨ho, h⟩ := h
  refine zr_Vv (As := [.long v7]) (rest := []) S hK hw (kX5_become l lo g M spare_20 v7 _ h) (cwV 1 hts (zg_V zu_203 zu_21 zu_22 zu_12 zu_23) rfl rfl rfl (by decide +kernel) ⟨Nat.le_of_ble_eq_true rfl, Nat.le_of_ble_eq_true rfl⟩) (ci := 8) rfl ho rfl hl.1 rfl (Nat.le_of_ble_eq_true rfl) dX1_gap_97 ⟨Nat.le_of_ble_eq_true rfl, Nat.le_of_ble_eq_true rfl⟩ (fun M21 H locs hw h => ?_)
  refine lv_aload_n hx hb dX1_gap_100 rfl (lv_at hl 1 rfl) ?_
  refine lv_aload_n hx hb dX1_gap_101 rfl (lv_at hl 0 rfl) ?_
  refine zr_ga (C := RX1) (T := TX1) (N := 11) (ci := 4) (k := 8) S hK hw zi_X1 rfl (by decide) zu_197 dX1_gap_102 h (fun topBefore_22 h => ?_)
  refine lv_aload_n hx hb dX1_gap_105 rfl (lv_at hl 0 rfl) ?_
  refine zr_ga (C := RX1) (T := TX1) (N := 11) (ci := 4) (k := 10) S hK hw zi_X1 rfl (by decide) zu_212 dX1_gap_106 h (fun spare_23 h => ?_)
  obtain ⟨ho, h⟩ := h
  refine zr_Vv (As := [.ref topBefore_22, .ref spare_23]) (rest := []) S hK hw (kX5_multiply l lo g M21 v1 topBefore_22 spare_23 _ h) (cwV 2 hts (zg_V zu_208 zu_121 zu_122 zu_12 zu_123) rfl rfl rfl (by decide +kernel) ⟨Nat.le_of_ble_eq_true rfl, Nat.le_of_ble_eq_true rfl⟩) (ci := 8) rfl ho rfl hl.1 rfl (Nat.le_of_ble_eq_true rfl) dX1_gap_109 ⟨Nat.le_of_ble_eq_true rfl, Nat.le_of_ble_eq_true rfl⟩ (fun M24 H locs hw h => ?_)
  exact zr_rv S hr hlocks hw h dX1_gap_112
set_option maxHeartbeats 4000000 in
set_option maxRecDepth 100000 in
theorem kX1_gap (l : Launch) (lo : Nat) (g : zg) (M : zm_M) (a0 : Nat) (a1 : Nat) (a2 : Nat) (a3 : Int64) (a5 : Int64) (a7 : Int64) (post : zm_M → Prop) (h : pX1_gap g.2 a0 a1 a2 a3 a5 a7 post M) : Met l yX1_gap (Cond.code yX1_gap cX1_gap 9 none :: zU) (({ frames := 4, cells := 0, slots := 0, locals := 116 } : Room)) (zc_P zNF zNM lo g M [.ref a0, .ref a1, .ref a2, .long a3, .long a5, .long a7]) (va_Qv post (zc_B lo g) (zA lo)) 0 0 (zA lo) := by
  refine Met.ofW (cc := cX1_gap) (maxL := 9) (ret := none) (by decide) rfl ?_
  intro p e s m args below meth c s₁ B hml hv
  obtain ⟨rfl, hR, hK⟩ := hv
  have hts := atoms_spec (ws := Cond.code yX1_gap cX1_gap 9 none :: zU) B.pre
  have hts : ∀ w ∈ zU, w.before _ s = true := fun w hw => hts w (List.mem_cons_of_mem _ hw)
  have hown : s.vm.findClass RX1 = some m.cls := findClass_of_methodNamed B.named
  have hx := B.exec
  have hb := B.bytes
  have hr := B.returns
  have hlocks := B.notSynchronized
  have S : CallFix p m c cX1_gap 9 s ([.ref a0, .ref a1, .ref a2, .long a3, .long a5, .long a7] : List Value).toArray zU RX1 := ⟨hx, hb, hml, hown, hts⟩
  have hw : zW lo g s s.heap [] M := ⟨hR, va_S.rf⟩
  have hl := lv_entry ([.ref a0, .ref a1, .ref a2, .long a3, .long a5, .long a7]) (n := 9) (Nat.le_of_ble_eq_true rfl)
  rw [lg_entry_eq]
  generalize (lg_sl ([.ref a0, .ref a1, .ref a2, .long a3, .long a5, .long a7]) ++ List.replicate (9 - (lg_sl ([.ref a0, .ref a1, .ref a2, .long a3, .long a5, .long a7])).length) Slot.unset).toArray = ls at hl ⊢
  have hl : lv_has ls 9 [(0, .ref a0), (1, .ref a1), (2, .ref a2), (3, .long a3), (5, .long a5), (7, .long a7)] := hl
  unfold pX1_gap at h
  refine lv_aload_n hx hb dX1_gap_0 rfl (lv_at hl 0 rfl) ?_
  refine zr_ga (C := RX1) (T := TX1) (N := 11) (ci := 4) (k := 10) S hK hw zi_X1 rfl (by decide) zu_212 dX1_gap_1 h (fun spare_1 h => ?_)
  refine lv_lload hx hb dX1_gap_4 (lv_at hl 4 rfl) ?_
  obtain ⟨ho, h⟩ := h
  refine zr_Vv (As := [.long a5]) (rest := []) S hK hw (kX5_become l lo g M spare_1 a5 _ h) (cwV 1 hts (zg_V zu_203 zu_21 zu_22 zu_12 zu_23) rfl rfl rfl (by decide +kernel) ⟨Nat.le_of_ble_eq_true rfl, Nat.le_of_ble_eq_true rfl⟩) (ci := 8) rfl ho rfl hl.1 rfl (Nat.le_of_ble_eq_true rfl) dX1_gap_6 ⟨Nat.le_of_ble_eq_true rfl, Nat.le_of_ble_eq_true rfl⟩ (fun M2 H locs hw h => ?_)
  refine lv_aload_n hx hb dX1_gap_9 rfl (lv_at hl 0 rfl) ?_
  refine zr_ga (C := RX1) (T := TX1) (N := 11) (ci := 4) (k := 8) S hK hw zi_X1 rfl (by decide) zu_197 dX1_gap_10 h (fun topBefore_3 h => ?_)
  refine lv_aload_n hx hb dX1_gap_13 rfl (lv_at hl 0 rfl) ?_
  refine zr_ga (C := RX1) (T := TX1) (N := 11) (ci := 4) (k := 2) S hK hw zi_X1 rfl (by decide) zu_178 dX1_gap_14 h (fun rest_4 h => ?_)
  refine lv_aload_n hx hb dX1_gap_17 rfl (lv_at hl 0 rfl) ?_
  refine zr_ga (C := RX1) (T := TX1) (N := 11) (ci := 4) (k := 10) S hK hw zi_X1 rfl (by decide) zu_212 dX1_gap_18 h (fun spare_5 h => ?_)
  obtain ⟨ho, h⟩ := h
  refine zr_Vv (As := [.ref rest_4, .ref spare_5]) (rest := []) S hK hw (kX5_multiply l lo g M2 topBefore_3 rest_4 spare_5 _ h) (cwV 2 hts (zg_V zu_208 zu_121 zu_122 zu_12 zu_123) rfl rfl rfl (by decide +kernel) ⟨Nat.le_of_ble_eq_true rfl, Nat.le_of_ble_eq_true rfl⟩) (ci := 8) rfl ho rfl hl.1 rfl (Nat.le_of_ble_eq_true rfl) dX1_gap_21 ⟨Nat.le_of_ble_eq_true rfl, Nat.le_of_ble_eq_true rfl⟩ (fun M6 H locs hw h => ?_)
  refine lv_aload_n hx hb dX1_gap_24 rfl (lv_at hl 0 rfl) ?_
  refine zr_ga (C := RX1) (T := TX1) (N := 11) (ci := 4) (k := 10) S hK hw zi_X1 rfl (by decide) zu_212 dX1_gap_25 h (fun spare_7 h => ?_)
  refine lv_lload_n hx hb dX1_gap_28 rfl (lv_at hl 3 rfl) ?_
  obtain ⟨ho, h⟩ := h
  refine zr_Vv (As := [.long a3]) (rest := []) S hK hw (kX5_become l lo g M6 spare_7 a3 _ h) (cwV 1 hts (zg_V zu_203 zu_21 zu_22 zu_12 zu_23) rfl rfl rfl (by decide +kernel) ⟨Nat.le_of_ble_eq_true rfl, Nat.le_of_ble_eq_true rfl⟩) (ci := 8) rfl ho rfl hl.1 rfl (Nat.le_of_ble_eq_true rfl) dX1_gap_29 ⟨Nat.le_of_ble_eq_true rfl, Nat.le_of_ble_eq_true rfl⟩ (fun M8 H locs hw h => ?_)
  refine lv_aload_n hx hb dX1_gap_32 rfl (lv_at hl 0 rfl) ?_
  refine zr_ga (C := RX1) (T := TX1) (N := 11) (ci := 4) (k := 9) S hK hw zi_X1 rfl (by decide) zu_200 dX1_gap_33 h (fun bottomBefore_9 h => ?_)
  refine lv_aload_n hx hb dX1_gap_36 rfl (lv_at hl 2 rfl) ?_
  refine lv_aload_n hx hb dX1_gap_37 rfl (lv_at hl 0 rfl) ?_
  refine zr_ga (C := RX1) (T := TX1) (N := 11) (ci := 4) (k := 10) S hK hw zi_X1 rfl (by decide) zu_212 dX1_gap_38 h (fun spare_10 h => ?_)
  obtain ⟨ho, h⟩ := h
  refine zr_Vv (As := [.ref a2, .ref spare_10]) (rest := []) S hK hw (kX5_multiply l lo g M8 bottomBefore_9 a2 spare_10 _ h) (cwV 2 hts (zg_V zu_208 zu_121 zu_122 zu_12 zu_123) rfl rfl rfl (by decide +kernel) ⟨Nat.le_of_ble_eq_true rfl, Nat.le_of_ble_eq_true rfl⟩) (ci := 8) rfl ho rfl hl.1 rfl (Nat.le_of_ble_eq_true rfl) dX1_gap_41 ⟨Nat.le_of_ble_eq_true rfl, Nat.le_of_ble_eq_true rfl⟩ (fun M11 H locs hw h => ?_)
  refine lv_aload_n hx hb dX1_gap_44 rfl (lv_at hl 0 rfl) ?_
  refine zr_ga (C := RX1) (T := TX1) (N := 11) (ci := 4) (k := 8) S hK hw zi_X1 rfl (by decide) zu_197 dX1_gap_45 h (fun topBefore_12 h => ?_)
  refine lv_aload_n hx hb dX1_gap_48 rfl (lv_at hl 0 rfl) ?_
  refine zr_ga (C := RX1) (T := TX1) (N := 11) (ci := 4) (k := 9) S hK hw zi_X1 rfl (by decide) zu_200 dX1_gap_49 h (fun bottomBefore_13 h => ?_)
  obtain ⟨ho, h⟩ := h
  refine zr_Vi (As := [.ref bottomBefore_13]) (rest := []) S hK hw (kX5_order l lo g M11 topBefore_12 bottomBefore_13 _ h) (cwV 1 hts (zg_V zu_213 zu_44 zu_45 zu_12 zu_46) rfl rfl rfl (by decide +kernel) ⟨Nat.le_of_ble_eq_true rfl, Nat.le_of_ble_eq_true rfl⟩) (ci := 8) rfl ho rfl hl.1 rfl (Nat.le_of_ble_eq_true rfl) dX1_gap_52 ⟨Nat.le_of_ble_eq_true rfl, Nat.le_of_ble_eq_true rfl⟩ (fun r15 M14 H locs hw h => ?_)
  refine lv_if_lt (tgt := 76) hx hb dX1_gap_55 (by decide) (fun hc => ?_) (fun hc => ?_)
  · have h := h.1 hc
    refine lv_aload_n hx hb dX1_gap_76 rfl (lv_at hl 0 rfl) ?_
    refine zr_ga (C := RX1) (T := TX1) (N := 11) (ci := 4) (k := 8) S hK hw zi_X1 rfl (by decide) zu_197 dX1_gap_77 h (fun topBefore_16 h => ?_)
    refine lv_aload_n hx hb dX1_gap_80 rfl (lv_at hl 0 rfl) ?_
    refine zr_ga (C := RX1) (T := TX1) (N := 11) (ci := 4) (k := 9) S hK hw zi_X1 rfl (by decide) zu_200 dX1_gap_81 h (fun bottomBefore_17 h => ?_)
    refine lv_aload_n hx hb dX1_gap_84 rfl (lv_at hl 0 rfl) ?_
    refine zr_ga (C := RX1) (T := TX1) (N := 11) (ci := 4) (k := 8) S hK hw zi_X1 rfl (by decide) zu_197 dX1_gap_85 h (fun topBefore_18 h => ?_)
    obtain ⟨ho, h⟩ := h
    refine zr_Vv (As := [.ref bottomBefore_17, .ref topBefore_18]) (rest := []) S hK hw (kX5_subtract l lo g M14 topBefore_16 bottomBefore_17 topBefore_18 _ h) (cwV 2 hts (zg_V zu_186 zu_112 zu_113 zu_12 zu_114) rfl rfl rfl (by decide +kernel) ⟨Nat.le_of_ble_eq_true rfl, Nat.le_of_ble_eq_true rfl⟩) (ci := 8) rfl ho rfl hl.1 rfl (Nat.le_of_ble_eq_true rfl) dX1_gap_88 ⟨Nat.le_of_ble_eq_true rfl, Nat.le_of_ble_eq_true rfl⟩ (fun M19 H locs hw h => ?_)
    exact sX1_gap_91 S hr hlocks hK  a0 a1 a7 _ h _ _ _ hw (lv_sub hl [0, 1, 5] rfl)
  · have h := h.2 hc
    refine lv_aload_n hx hb dX1_gap_58 rfl (lv_at hl 0 rfl) ?_
    refine zr_ga (C := RX1) (T := TX1) (N := 11) (ci := 4) (k := 8) S hK hw zi_X1 rfl (by decide) zu_197 dX1_gap_59 h (fun topBefore_25 h => ?_)
    refine lv_aload_n hx hb dX1_gap_62 rfl (lv_at hl 0 rfl) ?_
    refine zr_ga (C := RX1) (T := TX1) (N := 11) (ci := 4) (k := 8) S hK hw zi_X1 rfl (by decide) zu_197 dX1_gap_63 h (fun topBefore_26 h => ?_)
    refine lv_aload_n hx hb dX1_gap_66 rfl (lv_at hl 0 rfl) ?_
    refine zr_ga (C := RX1) (T := TX1) (N := 11) (ci := 4) (k := 9) S hK hw zi_X1 rfl (by decide) zu_200 dX1_gap_67 h (fun bottomBefore_27 h => ?_)
    obtain ⟨ho, h⟩ := h
    refine zr_Vv (As := [.ref topBefore_26, .ref bottomBefore_27]) (rest := []) S hK hw (kX5_subtract l lo g M14 topBefore_25 topBefore_26 bottomBefore_27 _ h) (cwV 2 hts (zg_V zu_186 zu_112 zu_113 zu_12 zu_114) rfl rfl rfl (by decide +kernel) ⟨Nat.le_of_ble_eq_true rfl, Nat.le_of_ble_eq_true rfl⟩) (ci := 8) rfl ho rfl hl.1 rfl (Nat.le_of_ble_eq_true rfl) dX1_gap_70 ⟨Nat.le_of_ble_eq_true rfl, Nat.le_of_ble_eq_true rfl⟩ (fun M28 H locs hw h => ?_)
    refine lv_goto (tgt := 91) hx hb dX1_gap_73 (by decide) ?_
    exact sX1_gap_91 S hr hlocks hK  a0 a1 a7 _ h _ _ _ hw (lv_sub hl [0, 1, 5] rfl)
set_option maxHeartbeats 4000000 in
set_option maxRecDepth 100000 in
theorem kJ13_compare_74951 (l : Launch) (lo : Nat) (g : zg) (M : zm_M) (a0 : Int64) (a2 : Int64) (post : Int32 → zm_M → Prop) (h : pJ13_compare_74951 g.2 a0 a2 post M) : Met l yJ13_compare_74951 (Cond.code yJ13_compare_74951 cJ13_compare_74951 4 (some .int) :: zU) (({ frames := 1, cells := 0, slots := 0, locals := 40 } : Room)) (zc_P zNF zNM lo g M [.long a0, .long a2]) (va_Qi post (zc_B lo g) (zA lo)) 0 0 (zA lo) := by
  refine Met.ofW (cc := cJ13_compare_74951) (maxL := 4) (ret := (some .int)) (by decide) rfl ?_
  intro p e s m args below meth c s₁ B hml hv
  obtain ⟨rfl, hR, hK⟩ := hv
  have hts := atoms_spec (ws := Cond.code yJ13_compare_74951 cJ13_compare_74951 4 (some .int) :: zU) B.pre
  have hts : ∀ w ∈ zU, w.before _ s = true := fun w hw => hts w (List.mem_cons_of_mem _ hw)
  have hown : s.vm.findClass RJ13 = some m.cls := findClass_of_methodNamed B.named
  have hx := B.exec
  have hb := B.bytes
  have hr := B.returns
  have hlocks := B.notSynchronized
  have S : CallFix p m c cJ13_compare_74951 4 s ([.long a0, .long a2] : List Value).toArray zU RJ13 := ⟨hx, hb, hml, hown, hts⟩
  have hw : zW lo g s s.heap [] M := ⟨hR, va_S.rf⟩
  have hl := lv_entry ([.long a0, .long a2]) (n := 4) (Nat.le_of_ble_eq_true rfl)
  rw [lg_entry_eq]
  generalize (lg_sl ([.long a0, .long a2]) ++ List.replicate (4 - (lg_sl ([.long a0, .long a2])).length) Slot.unset).toArray = ls at hl ⊢
  have hl : lv_has ls 4 [(0, .long a0), (2, .long a2)] := hl
  unfold pJ13_compare_74951 at h
  refine lv_lload_n hx hb dJ13_compare_74951_0 rfl (lv_at hl 0 rfl) ?_
  refine lv_lload_n hx hb dJ13_compare_74951_1 rfl (lv_at hl 1 rfl) ?_
  refine W.lcmp hx hb dJ13_compare_74951_2 ?_
  refine lv_if_ge (tgt := 10) hx hb dJ13_compare_74951_3 (by decide) (fun hc => ?_) (fun hc => ?_)
  · have h := h.1 (zc_ge.mp hc)
    refine lv_lload_n hx hb dJ13_compare_74951_10 rfl (lv_at hl 0 rfl) ?_
    refine lv_lload_n hx hb dJ13_compare_74951_11 rfl (lv_at hl 1 rfl) ?_
    refine W.lcmp hx hb dJ13_compare_74951_12 ?_
    refine lv_if_ne (tgt := 20) hx hb dJ13_compare_74951_13 (by decide) (fun hc => ?_) (fun hc => ?_)
    · have h := h.1 (fun q => hc (zc_eq.mpr q))
      refine lv_iconst (v := (1 : Int32)) hx hb dJ13_compare_74951_20 (by decide) ?_
      exact zr_ri S hr hlocks hw h dJ13_compare_74951_21
    · have h := h.2 (zc_eq.mp hc)
      refine lv_iconst (v := (0 : Int32)) hx hb dJ13_compare_74951_16 (by decide) ?_
      refine lv_goto (tgt := 21) hx hb dJ13_compare_74951_17 (by decide) ?_
      exact zr_ri S hr hlocks hw h dJ13_compare_74951_21
  · have h := h.2 (fun q => hc (zc_ge.mpr q))
    refine lv_iconst (v := (-1 : Int32)) hx hb dJ13_compare_74951_6 (by decide) ?_
    refine lv_goto (tgt := 21) hx hb dJ13_compare_74951_7 (by decide) ?_
    exact zr_ri S hr hlocks hw h dJ13_compare_74951_21
set_option maxHeartbeats 4000000 in
set_option maxRecDepth 100000 in
theorem sX1_choose_107 {p : Program} {l : Launch} {e : Env} {s : State} {m : MethodId} {args : Array Value} {below : List Frame} {meth : Method} {c : Code} {lo : Nat} {g : zg} {post : zm_M → Prop}  (S : CallFix p m c cX1_choose 11 s args zU RX1) (hr : meth.sig.returnType = none) (hlocks : meth.locks = false) (hK : zk_K zNF zNM g s)  : ∀ (s0 : Nat) (s1 : Int64) (M : zm_M), pX1_choose_107 g.2 post  s0 s1 M → ∀ (H : Heap) (locs : List Loc) (ls : Array Slot), zW lo g s H locs M → lv_has ls 11 [] → W p l e ({ frames := 5, cells := 0, slots := 0, locals := 144 } : Room) s m args below meth c H locs 0 0 (MQ below (va_Qv post (zc_B lo g) (zA lo)) args s 0 0 (zA lo)) (F0 m 107 ls [.long s1, .ref s0]) := by
  obtain ⟨hx, hb, hml, hown, hts⟩ := id S
  intro s0 s1 M h H locs ls hw hl
  unfold pX1_choose_107 at h
  obtain ⟨ho, h⟩ := h
  refine zr_Vv (As := [.long s1]) (rest := []) S hK hw (kX5_become l lo g M s0 s1 _ h) (cwV 1 hts (zg_V zu_203 zu_21 zu_22 zu_12 zu_23) rfl rfl rfl (by decide +kernel) ⟨Nat.le_of_ble_eq_true rfl, Nat.le_of_ble_eq_true rfl⟩) (ci := 8) rfl ho rfl hl.1 rfl (Nat.le_of_ble_eq_true rfl) dX1_choose_107 ⟨Nat.le_of_ble_eq_true rfl, Nat.le_of_ble_eq_true rfl⟩ (fun M12 H locs hw h => ?_)
  exact zr_rv S hr hlocks hw h dX1_choose_110
set_option maxHeartbeats 4000000 in
set_option maxRecDepth 100000 in
theorem sX1_choose_88 {p : Program} {l : Launch} {e : Env} {s : State} {m : MethodId} {args : Array Value} {below : List Frame} {meth : Method} {c : Code} {lo : Nat} {g : zg} {post : zm_M → Prop}  (S : CallFix p m c cX1_choose 11 s args zU RX1) (hr : meth.sig.returnType = none) (hlocks : meth.locks = false) (hK : zk_K zNF zNM g s)  : ∀ (v0 : Nat) (v4 : Int64) (v8 : Int64) (v10 : Int32) (s0 : Nat) (s1 : Int64) (M : zm_M), pX1_choose_88 g.2 post  v0 v4 v8 v10 s0 s1 M → ∀ (H : Heap) (locs : List Loc) (ls : Array Slot), zW lo g s H locs M → lv_has ls 11 [(0, .ref v0), (4, .long v4), (8, .long v8), (10, .int v10)] → W p l e ({ frames := 5, cells := 0, slots := 0, locals := 144 } : Room) s m args below meth c H locs 0 0 (MQ below (va_Qv post (zc_B lo g) (zA lo)) args s 0 0 (zA lo)) (F0 m 88 ls [.long s1, .ref s0]) := by
  obtain ⟨hx, hb, hml, hown, hts⟩ := id S
  intro v0 v4 v8 v10 s0 s1 M h H locs ls hw hl
  unfold pX1_choose_88 at h
  obtain ⟨ho, h⟩ := h
  refine zr_Vv (As := [.long s1]) (rest := []) S hK hw (kX5_become l lo g M s0 s1 _ h) (cwV 1 hts (zg_V zu_203 zu_21 zu_22 zu_12 zu_23) rfl rfl rfl (by decide +kernel) ⟨Nat.le_of_ble_eq_true rfl, Nat.le_of_ble_eq_true rfl⟩) (ci := 8) rfl ho rfl hl.1 rfl (Nat.le_of_ble_eq_true rfl) dX1_choose_88 ⟨Nat.le_of_ble_eq_true rfl, Nat.le_of_ble_eq_true rfl⟩ (fun M10 H locs hw h => ?_)
  refine lv_aload_n hx hb dX1_choose_91 rfl (lv_at hl 0 rfl) ?_
  refine zr_ga (C := RX1) (T := TX1) (N := 11) (ci := 4) (k := 7) S hK hw zi_X1 rfl (by decide) zu_201 dX1_choose_92 h (fun bottom_11 h => ?_)
  refine lv_iload hx hb dX1_choose_95 (lv_at hl 3 rfl) ?_
  refine lv_if_gt (tgt := 105) hx hb dX1_choose_97 (by decide) (fun hc => ?_) (fun hc => ?_)
  · have h := h.1 hc
    refine lv_lload hx hb dX1_choose_105 (lv_at hl 2 rfl) ?_
    exact sX1_choose_107 S hr hlocks hK  bottom_11 v8 _ h _ _ _ hw (lv_sub hl [] rfl)
  · have h := h.2 hc
    refine lv_lload hx hb dX1_choose_100 (lv_at hl 1 rfl) ?_
    refine lv_goto (tgt := 107) hx hb dX1_choose_102 (by decide) ?_
    exact sX1_choose_107 S hr hlocks hK  bottom_11 v4 _ h _ _ _ hw (lv_sub hl [] rfl)
set_option maxHeartbeats 4000000 in
set_option maxRecDepth 100000 in
theorem sX1_choose_73 {p : Program} {l : Launch} {e : Env} {s : State} {m : MethodId} {args : Array Value} {below : List Frame} {meth : Method} {c : Code} {lo : Nat} {g : zg} {post : zm_M → Prop}  (S : CallFix p m c cX1_choose 11 s args zU RX1) (hr : meth.sig.returnType = none) (hlocks : meth.locks = false) (hK : zk_K zNF zNM g s)  : ∀ (v0 : Nat) (v2 : Int64) (v4 : Int64) (v6 : Int64) (v8 : Int64) (v10 : Int32) (M : zm_M), pX1_choose_73 g.2 post  v0 v2 v4 v6 v8 v10 M → ∀ (H : Heap) (locs : List Loc) (ls : Array Slot), zW lo g s H locs M → lv_has ls 11 [(0, .ref v0), (2, .long v2), (4, .long v4), (6, .long v6), (8, .long v8), (10, .int v10)] → W p l e ({ frames := 5, cells := 0, slots := 0, locals := 144 } : Room) s m args below meth c H locs 0 0 (MQ below (va_Qv post (zc_B lo g) (zA lo)) args s 0 0 (zA lo)) (F0 m 73 ls []) := by
  obtain ⟨hx, hb, hml, hown, hts⟩ := id S
  intro v0 v2 v4 v6 v8 v10 M h H locs ls hw hl
  unfold pX1_choose_73 at h
  refine lv_aload_n hx hb dX1_choose_73 rfl (lv_at hl 0 rfl) ?_
  refine zr_ga (C := RX1) (T := TX1) (N := 11) (ci := 4) (k := 6) S hK hw zi_X1 rfl (by decide) zu_198 dX1_choose_74 h (fun top_9 h => ?_)
  refine lv_iload hx hb dX1_choose_77 (lv_at hl 5 rfl) ?_
  refine lv_if_gt (tgt := 86) hx hb dX1_choose_79 (by decide) (fun hc => ?_) (fun hc => ?_)
  · have h := h.1 hc
    refine lv_lload hx hb dX1_choose_86 (lv_at hl 3 rfl) ?_
    exact sX1_choose_88 S hr hlocks hK  v0 v4 v8 v10 top_9 v6 _ h _ _ _ hw (lv_sub hl [0, 2, 4, 5] rfl)
  · have h := h.2 hc
    refine lv_lload_n hx hb dX1_choose_82 rfl (lv_at hl 1 rfl) ?_
    refine lv_goto (tgt := 88) hx hb dX1_choose_83 (by decide) ?_
    exact sX1_choose_88 S hr hlocks hK  v0 v4 v8 v10 top_9 v2 _ h _ _ _ hw (lv_sub hl [0, 2, 4, 5] rfl)
set_option maxHeartbeats 4000000 in
set_option maxRecDepth 100000 in
theorem sX1_choose_71 {p : Program} {l : Launch} {e : Env} {s : State} {m : MethodId} {args : Array Value} {below : List Frame} {meth : Method} {c : Code} {lo : Nat} {g : zg} {post : zm_M → Prop}  (S : CallFix p m c cX1_choose 11 s args zU RX1) (hr : meth.sig.returnType = none) (hlocks : meth.locks = false) (hK : zk_K zNF zNM g s)  : ∀ (v0 : Nat) (v2 : Int64) (v4 : Int64) (v6 : Int64) (v8 : Int64) (s0 : Int32) (M : zm_M), pX1_choose_71 g.2 post  v0 v2 v4 v6 v8 s0 M → ∀ (H : Heap) (locs : List Loc) (ls : Array Slot), zW lo g s H locs M → lv_has ls 11 [(0, .ref v0), (2, .long v2), (4, .long v4), (6, .long v6), (8, .long v8)] → W p l e ({ frames := 5, cells := 0, slots := 0, locals := 144 } : Room) s m args below meth c H locs 0 0 (MQ below (va_Qv post (zc_B lo g) (zA lo)) args s 0 0 (zA lo)) (F0 m 71 ls [.int s0]) := by
  obtain ⟨hx, hb, hml, hown, hts⟩ := id S
  intro v0 v2 v4 v6 v8 s0 M h H locs ls hw hl
  unfold pX1_choose_71 at h
  refine lv_istore (lv' := [(10, .int s0), (0, .ref v0), (2, .long v2), (4, .long v4), (6, .long v6), (8, .long v8)]) hx hb dX1_choose_71 hl (by decide) rfl (fun ls hl => ?_)
  exact sX1_choose_73 S hr hlocks hK  v0 v2 v4 v6 v8 s0 _ h _ _ _ hw (lv_sub hl [1, 2, 3, 4, 5, 0] rfl)
set_option maxHeartbeats 4000000 in
set_option maxRecDepth 100000 in
theorem kX1_choose (l : Launch) (lo : Nat) (g : zg) (M : zm_M) (a0 : Nat) (a1 : Nat) (a2 : Int64) (a4 : Int64) (a6 : Int64) (a8 : Int64) (post : zm_M → Prop) (h : pX1_choose g.2 a0 a1 a2 a4 a6 a8 post M) : Met l yX1_choose (Cond.code yX1_choose cX1_choose 11 none :: zU) (({ frames := 5, cells := 0, slots := 0, locals := 144 } : Room)) (zc_P zNF zNM lo g M [.ref a0, .ref a1, .long a2, .long a4, .long a6, .long a8]) (va_Qv post (zc_B lo g) (zA lo)) 0 0 (zA lo) := by
  refine Met.ofW (cc := cX1_choose) (maxL := 11) (ret := none) (by decide) rfl ?_
  intro p e s m args below meth c s₁ B hml hv
  obtain ⟨rfl, hR, hK⟩ := hv
  have hts := atoms_spec (ws := Cond.code yX1_choose cX1_choose 11 none :: zU) B.pre
  have hts : ∀ w ∈ zU, w.before _ s = true := fun w hw => hts w (List.mem_cons_of_mem _ hw)
  have hown : s.vm.findClass RX1 = some m.cls := findClass_of_methodNamed B.named
  have hx := B.exec
  have hb := B.bytes
  have hr := B.returns
  have hlocks := B.notSynchronized
  have S : CallFix p m c cX1_choose 11 s ([.ref a0, .ref a1, .long a2, .long a4, .long a6, .long a8] : List Value).toArray zU RX1 := ⟨hx, hb, hml, hown, hts⟩
  have hw : zW lo g s s.heap [] M := ⟨hR, va_S.rf⟩
  have hl := lv_entry ([.ref a0, .ref a1, .long a2, .long a4, .long a6, .long a8]) (n := 11) (Nat.le_of_ble_eq_true rfl)
  rw [lg_entry_eq]
  generalize (lg_sl ([.ref a0, .ref a1, .long a2, .long a4, .long a6, .long a8]) ++ List.replicate (11 - (lg_sl ([.ref a0, .ref a1, .long a2, .long a4, .long a6, .long a8])).length) Slot.unset).toArray = ls at hl ⊢
  have hl : lv_has ls 11 [(0, .ref a0), (1, .ref a1), (2, .long a2), (4, .long a4), (6, .long a6), (8, .long a8)] := hl
  unfold pX1_choose at h
  refine lv_aload_n hx hb dX1_choose_0 rfl (lv_at hl 0 rfl) ?_
  refine lv_aload_n hx hb dX1_choose_1 rfl (lv_at hl 0 rfl) ?_
  refine zr_ga (C := RX1) (T := TX1) (N := 11) (ci := 4) (k := 4) S hK hw zi_X1 rfl (by decide) zu_182 dX1_choose_2 h (fun greater_1 h => ?_)
  refine lv_aload_n hx hb dX1_choose_5 rfl (lv_at hl 1 rfl) ?_
  refine lv_lload_n hx hb dX1_choose_6 rfl (lv_at hl 2 rfl) ?_
  refine lv_lload hx hb dX1_choose_7 (lv_at hl 3 rfl) ?_
  refine lv_lload hx hb dX1_choose_9 (lv_at hl 5 rfl) ?_
  obtain ⟨ho, h⟩ := h
  refine zr_Vv (As := [.ref greater_1, .ref a1, .long a2, .long a4, .long a8]) (rest := []) S hK hw (kX1_gap l lo g M a0 greater_1 a1 a2 a4 a8 _ h) (cwV 5 hts (zg_V zu_214 zu_215 zu_216 zu_191 zu_217) rfl rfl rfl (by decide +kernel) ⟨Nat.le_of_ble_eq_true rfl, Nat.le_of_ble_eq_true rfl⟩) (ci := 4) rfl ho rfl hl.1 rfl (Nat.le_of_ble_eq_true rfl) dX1_choose_11 ⟨Nat.le_of_ble_eq_true rfl, Nat.le_of_ble_eq_true rfl⟩ (fun M2 H locs hw h => ?_)
  refine lv_aload_n hx hb dX1_choose_14 rfl (lv_at hl 0 rfl) ?_
  refine lv_aload_n hx hb dX1_choose_15 rfl (lv_at hl 0 rfl) ?_
  refine zr_ga (C := RX1) (T := TX1) (N := 11) (ci := 4) (k := 5) S hK hw zi_X1 rfl (by decide) zu_183 dX1_choose_16 h (fun lesser_3 h => ?_)
  refine lv_aload_n hx hb dX1_choose_19 rfl (lv_at hl 1 rfl) ?_
  refine lv_lload hx hb dX1_choose_20 (lv_at hl 4 rfl) ?_
  refine lv_lload hx hb dX1_choose_22 (lv_at hl 5 rfl) ?_
  refine lv_lload hx hb dX1_choose_24 (lv_at hl 3 rfl) ?_
  obtain ⟨ho, h⟩ := h
  refine zr_Vv (As := [.ref lesser_3, .ref a1, .long a6, .long a8, .long a4]) (rest := []) S hK hw (kX1_gap l lo g M2 a0 lesser_3 a1 a6 a8 a4 _ h) (cwV 5 hts (zg_V zu_214 zu_215 zu_216 zu_191 zu_217) rfl rfl rfl (by decide +kernel) ⟨Nat.le_of_ble_eq_true rfl, Nat.le_of_ble_eq_true rfl⟩) (ci := 4) rfl ho rfl hl.1 rfl (Nat.le_of_ble_eq_true rfl) dX1_choose_26 ⟨Nat.le_of_ble_eq_true rfl, Nat.le_of_ble_eq_true rfl⟩ (fun M4 H locs hw h => ?_)
  refine lv_aload_n hx hb dX1_choose_29 rfl (lv_at hl 0 rfl) ?_
  refine zr_ga (C := RX1) (T := TX1) (N := 11) (ci := 4) (k := 4) S hK hw zi_X1 rfl (by decide) zu_182 dX1_choose_30 h (fun greater_5 h => ?_)
  refine lv_aload_n hx hb dX1_choose_33 rfl (lv_at hl 0 rfl) ?_
  refine zr_ga (C := RX1) (T := TX1) (N := 11) (ci := 4) (k := 5) S hK hw zi_X1 rfl (by decide) zu_183 dX1_choose_34 h (fun lesser_6 h => ?_)
  obtain ⟨ho, h⟩ := h
  refine zr_Vi (As := [.ref lesser_6]) (rest := []) S hK hw (kX5_order l lo g M4 greater_5 lesser_6 _ h) (cwV 1 hts (zg_V zu_213 zu_44 zu_45 zu_12 zu_46) rfl rfl rfl (by decide +kernel) ⟨Nat.le_of_ble_eq_true rfl, Nat.le_of_ble_eq_true rfl⟩) (ci := 8) rfl ho rfl hl.1 rfl (Nat.le_of_ble_eq_true rfl) dX1_choose_37 ⟨Nat.le_of_ble_eq_true rfl, Nat.le_of_ble_eq_true rfl⟩ (fun r8 M7 H locs hw h => ?_)
  refine lv_istore (lv' := [(10, .int r8), (0, .ref a0), (1, .ref a1), (2, .long a2), (4, .long a4), (6, .long a6), (8, .long a8)]) hx hb dX1_choose_40 hl (by decide) rfl (fun ls hl => ?_)
  refine lv_iload hx hb dX1_choose_42 (lv_at hl 0 rfl) ?_
  refine lv_if_ne (tgt := 73) hx hb dX1_choose_44 (by decide) (fun hc => ?_) (fun hc => ?_)
  · have h := h.1 hc
    exact sX1_choose_73 S hr hlocks hK  a0 a2 a4 a6 a8 r8 _ h _ _ _ hw (lv_sub hl [1, 3, 4, 5, 6, 0] rfl)
  · have h := h.2 hc
    refine lv_lload hx hb dX1_choose_47 (lv_at hl 4 rfl) ?_
    refine lv_lload hx hb dX1_choose_49 (lv_at hl 6 rfl) ?_
    refine W.lcmp hx hb dX1_choose_51 ?_
    refine lv_if_ne (tgt := 64) hx hb dX1_choose_52 (by decide) (fun hc => ?_) (fun hc => ?_)
    · have h := h.1 (fun q => hc (zc_eq.mpr q))
      refine lv_lload hx hb dX1_choose_64 (lv_at hl 4 rfl) ?_
      refine lv_lload hx hb dX1_choose_66 (lv_at hl 6 rfl) ?_
      refine zr_Si (As := [.long a4, .long a8]) (rest := []) S hK hw (kJ13_compare_74951 l lo g M7 a4 a8 _ h) (va_cwS 2 hts (zg_S zu_218 zu_219 zu_220 zu_221) rfl rfl rfl (by decide +kernel) ⟨Nat.le_of_ble_eq_true rfl, Nat.le_of_ble_eq_true rfl⟩) rfl hl.1 rfl (Nat.le_of_ble_eq_true rfl) dX1_choose_68 ⟨Nat.le_of_ble_eq_true rfl, Nat.le_of_ble_eq_true rfl⟩ (fun r14 M13 H locs hw h => ?_)
      exact sX1_choose_71 S hr hlocks hK  a0 a2 a4 a6 a8 r14 _ h _ _ _ hw (lv_sub hl [1, 3, 4, 5, 6] rfl)
    · have h := h.2 (zc_eq.mp hc)
      refine lv_lload_n hx hb dX1_choose_55 rfl (lv_at hl 3 rfl) ?_
      refine lv_lload hx hb dX1_choose_56 (lv_at hl 5 rfl) ?_
      refine zr_Si (As := [.long a2, .long a6]) (rest := []) S hK hw (kJ13_compare_74951 l lo g M7 a2 a6 _ h) (va_cwS 2 hts (zg_S zu_218 zu_219 zu_220 zu_221) rfl rfl rfl (by decide +kernel) ⟨Nat.le_of_ble_eq_true rfl, Nat.le_of_ble_eq_true rfl⟩) rfl hl.1 rfl (Nat.le_of_ble_eq_true rfl) dX1_choose_58 ⟨Nat.le_of_ble_eq_true rfl, Nat.le_of_ble_eq_true rfl⟩ (fun r16 M15 H locs hw h => ?_)
      refine lv_goto (tgt := 71) hx hb dX1_choose_61 (by decide) ?_
      exact sX1_choose_71 S hr hlocks hK  a0 a2 a4 a6 a8 r16 _ h _ _ _ hw (lv_sub hl [1, 3, 4, 5, 6] rfl)
set_option maxHeartbeats 4000000 in
set_option maxRecDepth 100000 in
theorem sX1_seekNearest_18 {p : Program} {l : Launch} {e : Env} {s : State} {m : MethodId} {args : Array Value} {below : List Frame} {meth : Method} {c : Code} {lo : Nat} {g : zg} {post : zm_M → Prop} {k65 : Nat → Nat → Int64 → Int64 → Int64 → Int64 → Int64 → zm_M → Prop} {k120 : Nat → Nat → Int64 → Int64 → Int64 → Int64 → Int64 → zm_M → Prop} (S : CallFix p m c cX1_seekNearest 19 s args zU RX1) (hr : meth.sig.returnType = none) (hlocks : meth.locks = false) (hK : zk_K zNF zNM g s) (hk65 : ∀ (v0 : Nat) (v1 : Nat) (v4 : Int64) (v6 : Int64) (v8 : Int64) (v10 : Int64) (v12 : Int64) (M : zm_M), k65 v0 v1 v4 v6 v8 v10 v12 M → ∀ (H : Heap) (locs : List Loc) (ls : Array Slot), zW lo g s H locs M → lv_has ls 19 [(0, .ref v0), (1, .ref v1), (4, .long v4), (6, .long v6), (8, .long v8), (10, .long v10), (12, .long v12)] → W p l e ({ frames := 6, cells := 0, slots := 0, locals := 174 } : Room) s m args below meth c H locs 0 0 (MQ below (va_Qv post (zc_B lo g) (zA lo)) args s 0 0 (zA lo)) (F0 m 65 ls [])) (hk120 : ∀ (v0 : Nat) (v1 : Nat) (v4 : Int64) (v6 : Int64) (v8 : Int64) (v10 : Int64) (v12 : Int64) (M : zm_M), k120 v0 v1 v4 v6 v8 v10 v12 M → ∀ (H : Heap) (locs : List Loc) (ls : Array Slot), zW lo g s H locs M → lv_has ls 19 [(0, .ref v0), (1, .ref v1), (4, .long v4), (6, .long v6), (8, .long v8), (10, .long v10), (12, .long v12)] → W p l e ({ frames := 6, cells := 0, slots := 0, locals := 174 } : Room) s m args below meth c H locs 0 0 (MQ below (va_Qv post (zc_B lo g) (zA lo)) args s 0 0 (zA lo)) (F0 m 120 ls [])) : ∀ (n : Nat) (v0 : Nat) (v1 : Nat) (v2 : Int64) (v4 : Int64) (v6 : Int64) (v8 : Int64) (v10 : Int64) (v12 : Int64) (v14 : Int32) (M : zm_M), pX1_seekNearest_18 g.2 post k65 k120 n v0 v1 v2 v4 v6 v8 v10 v12 v14 M → ∀ (H : Heap) (locs : List Loc) (ls : Array Slot), zW lo g s H locs M → lv_has ls 19 [(0, .ref v0), (1, .ref v1), (2, .long v2), (4, .long v4), (6, .long v6), (8, .long v8), (10, .long v10), (12, .long v12), (14, .int v14)] → W p l e ({ frames := 6, cells := 0, slots := 0, locals := 174 } : Room) s m args below meth c H locs 0 0 (MQ below (va_Qv post (zc_B lo g) (zA lo)) args s 0 0 (zA lo)) (F0 m 18 ls []) := by
  obtain ⟨hx, hb, hml, hown, hts⟩ := id S
  intro n
  induction n with
  | zero =>
    intro v0 v1 v2 v4 v6 v8 v10 v12 v14 M h
    exact False.elim h
  | succ n18 ih =>
    intro v0 v1 v2 v4 v6 v8 v10 v12 v14 M h H locs ls hw hl
    rw [pX1_seekNearest_18] at h
    refine lv_iload hx hb dX1_seekNearest_18 (lv_at hl 8 rfl) ?_
    refine lv_sipush (v := (4000 : Int32)) hx hb dX1_seekNearest_20 (by decide) ?_
    refine lv_icmp_ge (tgt := 120) hx hb dX1_seekNearest_23 (by decide) (fun hc => ?_) (fun hc => ?_)
    · have h := h.1 hc
      exact hk120 v0 v1 v4 v6 v8 v10 v12 _ h _ _ _ hw (lv_sub hl [0, 1, 3, 4, 5, 6, 7] rfl)
    · have h := h.2 hc
      refine lv_aload_n hx hb dX1_seekNearest_26 rfl (lv_at hl 0 rfl) ?_
      obtain ⟨ho, h⟩ := h
      refine zr_Vi (As := []) (rest := []) S hK hw (kX1_hasMore l lo g M v0  _ h) (cwV 0 hts (zg_V zu_188 zu_189 zu_190 zu_191 zu_192) rfl rfl rfl (by decide +kernel) ⟨Nat.le_of_ble_eq_true rfl, Nat.le_of_ble_eq_true rfl⟩) (ci := 4) rfl ho rfl hl.1 rfl (Nat.le_of_ble_eq_true rfl) dX1_seekNearest_27 ⟨Nat.le_of_ble_eq_true rfl, Nat.le_of_ble_eq_true rfl⟩ (fun r8 M7 H locs hw h => ?_)
      refine lv_if_eq (tgt := 120) hx hb dX1_seekNearest_30 (by decide) (fun hc => ?_) (fun hc => ?_)
      · have h := h.1 hc
        exact hk120 v0 v1 v4 v6 v8 v10 v12 _ h _ _ _ hw (lv_sub hl [0, 1, 3, 4, 5, 6, 7] rfl)
      · have h := h.2 hc
        refine lv_lload hx hb dX1_seekNearest_33 (lv_at hl 4 rfl) ?_
        refine lv_lconst (v := (0 : Int64)) hx hb dX1_seekNearest_35 (by decide) ?_
        refine W.lcmp hx hb dX1_seekNearest_36 ?_
        refine lv_if_le (tgt := 120) hx hb dX1_seekNearest_37 (by decide) (fun hc => ?_) (fun hc => ?_)
        · have h := h.1 (zc_le.mp hc)
          exact hk120 v0 v1 v4 v6 v8 v10 v12 _ h _ _ _ hw (lv_sub hl [0, 1, 3, 4, 5, 6, 7] rfl)
        · have h := h.2 (fun q => hc (zc_le.mpr q))
          refine lv_aload_n hx hb dX1_seekNearest_40 rfl (lv_at hl 0 rfl) ?_
          obtain ⟨ho, h⟩ := h
          refine zr_Vv (As := []) (rest := []) S hK hw (kX1_cut l lo g M7 v0  _ h) (cwV 0 hts (zg_V zu_193 zu_194 zu_195 zu_191 zu_196) rfl rfl rfl (by decide +kernel) ⟨Nat.le_of_ble_eq_true rfl, Nat.le_of_ble_eq_true rfl⟩) (ci := 4) rfl ho rfl hl.1 rfl (Nat.le_of_ble_eq_true rfl) dX1_seekNearest_41 ⟨Nat.le_of_ble_eq_true rfl, Nat.le_of_ble_eq_true rfl⟩ (fun M9 H locs hw h => ?_)
          refine lv_lload_n hx hb dX1_seekNearest_44 rfl (lv_at hl 2 rfl) ?_
          refine lv_lload hx hb dX1_seekNearest_45 (lv_at hl 6 rfl) ?_
          refine lv_lsub hx hb dX1_seekNearest_47 ?_
          refine lv_lload hx hb dX1_seekNearest_48 (lv_at hl 4 rfl) ?_
          refine lv_ldiv hx hb dX1_seekNearest_50 h.1 ?_
          have h := h.2
          refine lv_topl (fun x10 ex10 => ?_)
          have h := h x10 ex10
          refine lv_lstore (lv' := [(12, .long x10), (0, .ref v0), (1, .ref v1), (2, .long v2), (4, .long v4), (6, .long v6), (8, .long v8), (10, .long v10), (14, .int v14)]) hx hb dX1_seekNearest_51 hl (by decide) rfl (fun ls hl => ?_)
          refine lv_aload_n hx hb dX1_seekNearest_53 rfl (lv_at hl 1 rfl) ?_
          refine zr_ga (C := RX1) (T := TX1) (N := 11) (ci := 4) (k := 3) S hK hw zi_X1 rfl (by decide) zu_187 dX1_seekNearest_54 h (fun link_11 h => ?_)
          refine lv_lload hx hb dX1_seekNearest_57 (lv_at hl 0 rfl) ?_
          obtain ⟨ho, h⟩ := h
          refine zr_Vi (As := [.long x10]) (rest := []) S hK hw (kX5_isAbove l lo g M9 link_11 x10 _ h) (cwV 1 hts (zg_V zu_222 zu_223 zu_224 zu_12 zu_225) rfl rfl rfl (by decide +kernel) ⟨Nat.le_of_ble_eq_true rfl, Nat.le_of_ble_eq_true rfl⟩) (ci := 8) rfl ho rfl hl.1 rfl (Nat.le_of_ble_eq_true rfl) dX1_seekNearest_59 ⟨Nat.le_of_ble_eq_true rfl, Nat.le_of_ble_eq_true rfl⟩ (fun r13 M12 H locs hw h => ?_)
          refine lv_if_eq (tgt := 68) hx hb dX1_seekNearest_62 (by decide) (fun hc => ?_) (fun hc => ?_)
          · have h := h.1 hc
            refine lv_aload_n hx hb dX1_seekNearest_68 rfl (lv_at hl 1 rfl) ?_
            refine zr_ga (C := RX1) (T := TX1) (N := 11) (ci := 4) (k := 3) S hK hw zi_X1 rfl (by decide) zu_187 dX1_seekNearest_69 h (fun link_14 h => ?_)
            obtain ⟨ho, h⟩ := h
            refine zr_Vl (As := []) (rest := []) S hK hw (kX5_low l lo g M12 link_14  _ h) (cwV 0 hts (zg_V zu_226 zu_167 zu_168 zu_12 zu_169) rfl rfl rfl (by decide +kernel) ⟨Nat.le_of_ble_eq_true rfl, Nat.le_of_ble_eq_true rfl⟩) (ci := 8) rfl ho rfl hl.1 rfl (Nat.le_of_ble_eq_true rfl) dX1_seekNearest_72 ⟨Nat.le_of_ble_eq_true rfl, Nat.le_of_ble_eq_true rfl⟩ (fun r16 M15 H locs hw h => ?_)
            refine lv_lload hx hb dX1_seekNearest_75 (lv_at hl 4 rfl) ?_
            refine lv_lmul hx hb dX1_seekNearest_77 ?_
            refine lv_lload hx hb dX1_seekNearest_78 (lv_at hl 6 rfl) ?_
            refine lv_ladd hx hb dX1_seekNearest_80 ?_
            refine lv_topl (fun x17 ex17 => ?_)
            have h := h x17 ex17
            refine lv_lstore (lv' := [(15, .long x17), (12, .long x10), (0, .ref v0), (1, .ref v1), (2, .long v2), (4, .long v4), (6, .long v6), (8, .long v8), (10, .long v10), (14, .int v14)]) hx hb dX1_seekNearest_81 hl (by decide) rfl (fun ls hl => ?_)
            refine lv_aload_n hx hb dX1_seekNearest_83 rfl (lv_at hl 2 rfl) ?_
            refine zr_ga (C := RX1) (T := TX1) (N := 11) (ci := 4) (k := 3) S hK hw zi_X1 rfl (by decide) zu_187 dX1_seekNearest_84 h (fun link_18 h => ?_)
            obtain ⟨ho, h⟩ := h
            refine zr_Vl (As := []) (rest := []) S hK hw (kX5_low l lo g M15 link_18  _ h) (cwV 0 hts (zg_V zu_226 zu_167 zu_168 zu_12 zu_169) rfl rfl rfl (by decide +kernel) ⟨Nat.le_of_ble_eq_true rfl, Nat.le_of_ble_eq_true rfl⟩) (ci := 8) rfl ho rfl hl.1 rfl (Nat.le_of_ble_eq_true rfl) dX1_seekNearest_87 ⟨Nat.le_of_ble_eq_true rfl, Nat.le_of_ble_eq_true rfl⟩ (fun r20 M19 H locs hw h => ?_)
            refine lv_lload hx hb dX1_seekNearest_90 (lv_at hl 6 rfl) ?_
            refine lv_lmul hx hb dX1_seekNearest_92 ?_
            refine lv_lload hx hb dX1_seekNearest_93 (lv_at hl 8 rfl) ?_
            refine lv_ladd hx hb dX1_seekNearest_95 ?_
            refine lv_topl (fun x21 ex21 => ?_)
            have h := h x21 ex21
            refine lv_lstore (lv' := [(17, .long x21), (15, .long x17), (12, .long x10), (0, .ref v0), (1, .ref v1), (2, .long v2), (4, .long v4), (6, .long v6), (8, .long v8), (10, .long v10), (14, .int v14)]) hx hb dX1_seekNearest_96 hl (by decide) rfl (fun ls hl => ?_)
            refine lv_lload hx hb dX1_seekNearest_98 (lv_at hl 6 rfl) ?_
            refine lv_lstore (lv' := [(8, .long v4), (17, .long x21), (15, .long x17), (12, .long x10), (0, .ref v0), (1, .ref v1), (2, .long v2), (4, .long v4), (6, .long v6), (10, .long v10), (14, .int v14)]) hx hb dX1_seekNearest_100 hl (by decide) rfl (fun ls hl => ?_)
            refine lv_lload hx hb dX1_seekNearest_102 (lv_at hl 8 rfl) ?_
            refine lv_lstore (lv' := [(10, .long v6), (8, .long v4), (17, .long x21), (15, .long x17), (12, .long x10), (0, .ref v0), (1, .ref v1), (2, .long v2), (4, .long v4), (6, .long v6), (14, .int v14)]) hx hb dX1_seekNearest_104 hl (by decide) rfl (fun ls hl => ?_)
            refine lv_lload hx hb dX1_seekNearest_106 (lv_at hl 3 rfl) ?_
            refine lv_lstore (lv' := [(4, .long x17), (10, .long v6), (8, .long v4), (17, .long x21), (15, .long x17), (12, .long x10), (0, .ref v0), (1, .ref v1), (2, .long v2), (6, .long v6), (14, .int v14)]) hx hb dX1_seekNearest_108 hl (by decide) rfl (fun ls hl => ?_)
            refine lv_lload hx hb dX1_seekNearest_110 (lv_at hl 3 rfl) ?_
            refine lv_lstore (lv' := [(6, .long x21), (4, .long x17), (10, .long v6), (8, .long v4), (17, .long x21), (15, .long x17), (12, .long x10), (0, .ref v0), (1, .ref v1), (2, .long v2), (14, .int v14)]) hx hb dX1_seekNearest_112 hl (by decide) rfl (fun ls hl => ?_)
            obtain ⟨x22, ex22⟩ : ∃ z : Int32, z = v14 + (1 : Int32) := ⟨_, rfl⟩
            have h := h x22 ex22
            refine lv_iinc (v := x22) (lv' := [(14, .int x22), (6, .long x21), (4, .long x17), (10, .long v6), (8, .long v4), (17, .long x21), (15, .long x17), (12, .long x10), (0, .ref v0), (1, .ref v1), (2, .long v2)]) hx hb dX1_seekNearest_114 hl (k := 10) rfl (by rw [ex22]; rfl) (by decide) rfl (fun ls hl => ?_)
            refine lv_goto (tgt := 18) hx hb dX1_seekNearest_117 (by decide) ?_
            exact ih v0 v1 v2 x17 x21 v4 v6 x10 x22 _ h _ _ _ hw (lv_sub hl [8, 9, 10, 2, 1, 4, 3, 7, 0] rfl)
          · have h := h.2 hc
            exact hk65 v0 v1 v4 v6 v8 v10 x10 _ h _ _ _ hw (lv_sub hl [1, 2, 4, 5, 6, 7, 0] rfl)
set_option maxHeartbeats 4000000 in
set_option maxRecDepth 100000 in
theorem sX1_seekNearest_120 {p : Program} {l : Launch} {e : Env} {s : State} {m : MethodId} {args : Array Value} {below : List Frame} {meth : Method} {c : Code} {lo : Nat} {g : zg} {post : zm_M → Prop}  (S : CallFix p m c cX1_seekNearest 19 s args zU RX1) (hr : meth.sig.returnType = none) (hlocks : meth.locks = false) (hK : zk_K zNF zNM g s)  : ∀ (v0 : Nat) (v1 : Nat) (v4 : Int64) (v6 : Int64) (v8 : Int64) (v10 : Int64) (v12 : Int64) (M : zm_M), pX1_seekNearest_120 g.2 post  v0 v1 v4 v6 v8 v10 v12 M → ∀ (H : Heap) (locs : List Loc) (ls : Array Slot), zW lo g s H locs M → lv_has ls 19 [(0, .ref v0), (1, .ref v1), (4, .long v4), (6, .long v6), (8, .long v8), (10, .long v10), (12, .long v12)] → W p l e ({ frames := 6, cells := 0, slots := 0, locals := 174 } : Room) s m args below meth c H locs 0 0 (MQ below (va_Qv post (zc_B lo g) (zA lo)) args s 0 0 (zA lo)) (F0 m 120 ls []) := by
  obtain ⟨hx, hb, hml, hown, hts⟩ := id S
  intro v0 v1 v4 v6 v8 v10 v12 M h H locs ls hw hl
  unfold pX1_seekNearest_120 at h
  refine lv_aload_n hx hb dX1_seekNearest_120 rfl (lv_at hl 0 rfl) ?_
  refine lv_aload_n hx hb dX1_seekNearest_121 rfl (lv_at hl 1 rfl) ?_
  refine lv_lload hx hb dX1_seekNearest_122 (lv_at hl 2 rfl) ?_
  refine lv_lload hx hb dX1_seekNearest_124 (lv_at hl 3 rfl) ?_
  refine lv_lload hx hb dX1_seekNearest_126 (lv_at hl 4 rfl) ?_
  refine lv_lload hx hb dX1_seekNearest_128 (lv_at hl 6 rfl) ?_
  refine lv_lload hx hb dX1_seekNearest_130 (lv_at hl 2 rfl) ?_
  refine lv_lmul hx hb dX1_seekNearest_132 ?_
  refine lv_ladd hx hb dX1_seekNearest_133 ?_
  refine lv_lload hx hb dX1_seekNearest_134 (lv_at hl 5 rfl) ?_
  refine lv_lload hx hb dX1_seekNearest_136 (lv_at hl 6 rfl) ?_
  refine lv_lload hx hb dX1_seekNearest_138 (lv_at hl 3 rfl) ?_
  refine lv_lmul hx hb dX1_seekNearest_140 ?_
  refine lv_ladd hx hb dX1_seekNearest_141 ?_
  obtain ⟨ho, h⟩ := h
  refine zr_Vv (As := [.ref v1, .long v4, .long v6, .long (v8 + (v12 * v4)), .long (v10 + (v12 * v6))]) (rest := []) S hK hw (kX1_choose l lo g M v0 v1 v4 v6 (v8 + (v12 * v4)) (v10 + (v12 * v6)) _ h) (cwV 5 hts (zg_V zu_227 zu_228 zu_229 zu_191 zu_230) rfl rfl rfl (by decide +kernel) ⟨Nat.le_of_ble_eq_true rfl, Nat.le_of_ble_eq_true rfl⟩) (ci := 4) rfl ho rfl hl.1 rfl (Nat.le_of_ble_eq_true rfl) dX1_seekNearest_142 ⟨Nat.le_of_ble_eq_true rfl, Nat.le_of_ble_eq_true rfl⟩ (fun M31 H locs hw h => ?_)
  exact zr_rv S hr hlocks hw h dX1_seekNearest_145
set_option maxHeartbeats 4000000 in
set_option maxRecDepth 100000 in
theorem kX1_seekNearest (l : Launch) (lo : Nat) (g : zg) (M : zm_M) (a0 : Nat) (a1 : Nat) (a2 : Int64) (post : zm_M → Prop) (h : pX1_seekNearest g.2 a0 a1 a2 post M) : Met l yX1_seekNearest (Cond.code yX1_seekNearest cX1_seekNearest 19 none :: zU) (({ frames := 6, cells := 0, slots := 0, locals := 174 } : Room)) (zc_P zNF zNM lo g M [.ref a0, .ref a1, .long a2]) (va_Qv post (zc_B lo g) (zA lo)) 0 0 (zA lo) := by
  refine Met.ofW (cc := cX1_seekNearest) (maxL := 19) (ret := none) (by decide) rfl ?_
  intro p e s m args below meth c s₁ B hml hv
  obtain ⟨rfl, hR, hK⟩ := hv
  have hts := atoms_spec (ws := Cond.code yX1_seekNearest cX1_seekNearest 19 none :: zU) B.pre
  have hts : ∀ w ∈ zU, w.before _ s = true := fun w hw => hts w (List.mem_cons_of_mem _ hw)
  have hown : s.vm.findClass RX1 = some m.cls := findClass_of_methodNamed B.named
  have hx := B.exec
  have hb := B.bytes
  have hr := B.returns
  have hlocks := B.notSynchronized
  have S : CallFix p m c cX1_seekNearest 19 s ([.ref a0, .ref a1, .long a2] : List Value).toArray zU RX1 := ⟨hx, hb, hml, hown, hts⟩
  have hw : zW lo g s s.heap [] M := ⟨hR, va_S.rf⟩
  have hl := lv_entry ([.ref a0, .ref a1, .long a2]) (n := 19) (Nat.le_of_ble_eq_true rfl)
  rw [lg_entry_eq]
  generalize (lg_sl ([.ref a0, .ref a1, .long a2]) ++ List.replicate (19 - (lg_sl ([.ref a0, .ref a1, .long a2])).length) Slot.unset).toArray = ls at hl ⊢
  have hl : lv_has ls 19 [(0, .ref a0), (1, .ref a1), (2, .long a2)] := hl
  unfold pX1_seekNearest at h
  refine lv_lconst (v := (0 : Int64)) hx hb dX1_seekNearest_0 (by decide) ?_
  refine lv_topl (fun x1 ex1 => ?_)
  have h := h x1 ex1
  refine lv_lstore (lv' := [(4, .long x1), (0, .ref a0), (1, .ref a1), (2, .long a2)]) hx hb dX1_seekNearest_1 hl (by decide) rfl (fun ls hl => ?_)
  refine lv_lconst (v := (1 : Int64)) hx hb dX1_seekNearest_3 (by decide) ?_
  refine lv_topl (fun x2 ex2 => ?_)
  have h := h x2 ex2
  refine lv_lstore (lv' := [(6, .long x2), (4, .long x1), (0, .ref a0), (1, .ref a1), (2, .long a2)]) hx hb dX1_seekNearest_4 hl (by decide) rfl (fun ls hl => ?_)
  refine lv_lconst (v := (1 : Int64)) hx hb dX1_seekNearest_6 (by decide) ?_
  refine lv_topl (fun x3 ex3 => ?_)
  have h := h x3 ex3
  refine lv_lstore (lv' := [(8, .long x3), (6, .long x2), (4, .long x1), (0, .ref a0), (1, .ref a1), (2, .long a2)]) hx hb dX1_seekNearest_7 hl (by decide) rfl (fun ls hl => ?_)
  refine lv_lconst (v := (0 : Int64)) hx hb dX1_seekNearest_9 (by decide) ?_
  refine lv_topl (fun x4 ex4 => ?_)
  have h := h x4 ex4
  refine lv_lstore (lv' := [(10, .long x4), (8, .long x3), (6, .long x2), (4, .long x1), (0, .ref a0), (1, .ref a1), (2, .long a2)]) hx hb dX1_seekNearest_10 hl (by decide) rfl (fun ls hl => ?_)
  refine lv_lconst (v := (0 : Int64)) hx hb dX1_seekNearest_12 (by decide) ?_
  refine lv_topl (fun x5 ex5 => ?_)
  have h := h x5 ex5
  refine lv_lstore (lv' := [(12, .long x5), (10, .long x4), (8, .long x3), (6, .long x2), (4, .long x1), (0, .ref a0), (1, .ref a1), (2, .long a2)]) hx hb dX1_seekNearest_13 hl (by decide) rfl (fun ls hl => ?_)
  refine lv_iconst (v := (0 : Int32)) hx hb dX1_seekNearest_15 (by decide) ?_
  refine lv_topi (fun x6 ex6 => ?_)
  have h := h x6 ex6
  refine lv_istore (lv' := [(14, .int x6), (12, .long x5), (10, .long x4), (8, .long x3), (6, .long x2), (4, .long x1), (0, .ref a0), (1, .ref a1), (2, .long a2)]) hx hb dX1_seekNearest_16 hl (by decide) rfl (fun ls hl => ?_)
  obtain ⟨n18, h⟩ := h
  refine sX1_seekNearest_18 S hr hlocks hK (fun w23 w24 w25 w26 w27 w28 w29 M30 h H locs ls hw hl => ?_) (fun w32 w33 w34 w35 w36 w37 w38 M39 h H locs ls hw hl => ?_) n18 a0 a1 a2 x1 x2 x3 x4 x5 x6 _ h _ _ _ hw (lv_sub hl [6, 7, 8, 5, 4, 3, 2, 1, 0] rfl)
  · refine lv_goto (tgt := 120) hx hb dX1_seekNearest_65 (by decide) ?_
    exact sX1_seekNearest_120 S hr hlocks hK  w23 w24 w25 w26 w27 w28 w29 _ h _ _ _ hw (lv_sub hl [0, 1, 2, 3, 4, 5, 6] rfl)
  · exact sX1_seekNearest_120 S hr hlocks hK  w32 w33 w34 w35 w36 w37 w38 _ h _ _ _ hw (lv_sub hl [0, 1, 2, 3, 4, 5, 6] rfl)
set_option maxHeartbeats 4000000 in
set_option maxRecDepth 100000 in
theorem kX2_copy (l : Launch) (lo : Nat) (g : zg) (M : zm_M) (a0 : Nat) (a1 : Nat) (post : zm_M → Prop) (h : pX2_copy g.2 a0 a1 post M) : Met l yX2_copy (Cond.code yX2_copy cX2_copy 2 none :: zU) (({ frames := 3, cells := 0, slots := 0, locals := 84 } : Room)) (zc_P zNF zNM lo g M [.ref a0, .ref a1]) (va_Qv post (zc_B lo g) (zA lo)) 0 0 (zA lo) := by
  refine Met.ofW (cc := cX2_copy) (maxL := 2) (ret := none) (by decide) rfl ?_
  intro p e s m args below meth c s₁ B hml hv
  obtain ⟨rfl, hR, hK⟩ := hv
  have hts := atoms_spec (ws := Cond.code yX2_copy cX2_copy 2 none :: zU) B.pre
  have hts : ∀ w ∈ zU, w.before _ s = true := fun w hw => hts w (List.mem_cons_of_mem _ hw)
  have hown : s.vm.findClass RX2 = some m.cls := findClass_of_methodNamed B.named
  have hx := B.exec
  have hb := B.bytes
  have hr := B.returns
  have hlocks := B.notSynchronized
  have S : CallFix p m c cX2_copy 2 s ([.ref a0, .ref a1] : List Value).toArray zU RX2 := ⟨hx, hb, hml, hown, hts⟩
  have hw : zW lo g s s.heap [] M := ⟨hR, va_S.rf⟩
  have hl := lv_entry ([.ref a0, .ref a1]) (n := 2) (Nat.le_of_ble_eq_true rfl)
  rw [lg_entry_eq]
  generalize (lg_sl ([.ref a0, .ref a1]) ++ List.replicate (2 - (lg_sl ([.ref a0, .ref a1])).length) Slot.unset).toArray = ls at hl ⊢
  have hl : lv_has ls 2 [(0, .ref a0), (1, .ref a1)] := hl
  unfold pX2_copy at h
  refine lv_aload_n hx hb dX2_copy_0 rfl (lv_at hl 0 rfl) ?_
  refine lv_aload_n hx hb dX2_copy_1 rfl (lv_at hl 1 rfl) ?_
  refine zr_gi (C := RX2) (T := TX2) (N := 3) (ci := 5) (k := 0) S hK hw zi_X2 rfl (by decide) zu_18 dX2_copy_2 h (fun sign_1 h => ?_)
  refine zr_p (C := RX2) (T := TX2) (N := 3) (ci := 5) (k := 0) S hK hw zi_X2 tyX2 tyX2_ok nmX2 rfl (by decide) zu_18 rfl rfl rfl dX2_copy_5 h (fun M2 H locs hw h => ?_)
  refine lv_aload_n hx hb dX2_copy_8 rfl (lv_at hl 0 rfl) ?_
  refine zr_ga (C := RX2) (T := TX2) (N := 3) (ci := 5) (k := 1) S hK hw zi_X2 rfl (by decide) zu_19 dX2_copy_9 h (fun top_3 h => ?_)
  refine lv_aload_n hx hb dX2_copy_12 rfl (lv_at hl 1 rfl) ?_
  refine zr_ga (C := RX2) (T := TX2) (N := 3) (ci := 5) (k := 1) S hK hw zi_X2 rfl (by decide) zu_19 dX2_copy_13 h (fun top_4 h => ?_)
  obtain ⟨ho, h⟩ := h
  refine zr_Vv (As := [.ref top_4]) (rest := []) S hK hw (kX5_copy l lo g M2 top_3 top_4 _ h) (cwV 1 hts (zg_V zu_119 zu_69 zu_70 zu_12 zu_71) rfl rfl rfl (by decide +kernel) ⟨Nat.le_of_ble_eq_true rfl, Nat.le_of_ble_eq_true rfl⟩) (ci := 8) rfl ho rfl hl.1 rfl (Nat.le_of_ble_eq_true rfl) dX2_copy_16 ⟨Nat.le_of_ble_eq_true rfl, Nat.le_of_ble_eq_true rfl⟩ (fun M5 H locs hw h => ?_)
  refine lv_aload_n hx hb dX2_copy_19 rfl (lv_at hl 0 rfl) ?_
  refine zr_ga (C := RX2) (T := TX2) (N := 3) (ci := 5) (k := 2) S hK hw zi_X2 rfl (by decide) zu_24 dX2_copy_20 h (fun bottom_6 h => ?_)
  refine lv_aload_n hx hb dX2_copy_23 rfl (lv_at hl 1 rfl) ?_
  refine zr_ga (C := RX2) (T := TX2) (N := 3) (ci := 5) (k := 2) S hK hw zi_X2 rfl (by decide) zu_24 dX2_copy_24 h (fun bottom_7 h => ?_)
  obtain ⟨ho, h⟩ := h
  refine zr_Vv (As := [.ref bottom_7]) (rest := []) S hK hw (kX5_copy l lo g M5 bottom_6 bottom_7 _ h) (cwV 1 hts (zg_V zu_119 zu_69 zu_70 zu_12 zu_71) rfl rfl rfl (by decide +kernel) ⟨Nat.le_of_ble_eq_true rfl, Nat.le_of_ble_eq_true rfl⟩) (ci := 8) rfl ho rfl hl.1 rfl (Nat.le_of_ble_eq_true rfl) dX2_copy_27 ⟨Nat.le_of_ble_eq_true rfl, Nat.le_of_ble_eq_true rfl⟩ (fun M8 H locs hw h => ?_)
  exact zr_rv S hr hlocks hw h dX2_copy_30
set_option maxHeartbeats 4000000 in
set_option maxRecDepth 100000 in
theorem kX2_becomeWhole (l : Launch) (lo : Nat) (g : zg) (M : zm_M) (a0 : Nat) (a1 : Int32) (a2 : Nat) (post : zm_M → Prop) (h : pX2_becomeWhole g.2 a0 a1 a2 post M) : Met l yX2_becomeWhole (Cond.code yX2_becomeWhole cX2_becomeWhole 3 none :: zU) (({ frames := 3, cells := 0, slots := 0, locals := 85 } : Room)) (zc_P zNF zNM lo g M [.ref a0, .int a1, .ref a2]) (va_Qv post (zc_B lo g) (zA lo)) 0 0 (zA lo) := by
  refine Met.ofW (cc := cX2_becomeWhole) (maxL := 3) (ret := none) (by decide) rfl ?_
  intro p e s m args below meth c s₁ B hml hv
  obtain ⟨rfl, hR, hK⟩ := hv
  have hts := atoms_spec (ws := Cond.code yX2_becomeWhole cX2_becomeWhole 3 none :: zU) B.pre
  have hts : ∀ w ∈ zU, w.before _ s = true := fun w hw => hts w (List.mem_cons_of_mem _ hw)
  have hown : s.vm.findClass RX2 = some m.cls := findClass_of_methodNamed B.named
  have hx := B.exec
  have hb := B.bytes
  have hr := B.returns
  have hlocks := B.notSynchronized
  have S : CallFix p m c cX2_becomeWhole 3 s ([.ref a0, .int a1, .ref a2] : List Value).toArray zU RX2 := ⟨hx, hb, hml, hown, hts⟩
  have hw : zW lo g s s.heap [] M := ⟨hR, va_S.rf⟩
  have hl := lv_entry ([.ref a0, .int a1, .ref a2]) (n := 3) (Nat.le_of_ble_eq_true rfl)
  rw [lg_entry_eq]
  generalize (lg_sl ([.ref a0, .int a1, .ref a2]) ++ List.replicate (3 - (lg_sl ([.ref a0, .int a1, .ref a2])).length) Slot.unset).toArray = ls at hl ⊢
  have hl : lv_has ls 3 [(0, .ref a0), (1, .int a1), (2, .ref a2)] := hl
  unfold pX2_becomeWhole at h
  refine lv_aload_n hx hb dX2_becomeWhole_0 rfl (lv_at hl 0 rfl) ?_
  refine lv_iload_n hx hb dX2_becomeWhole_1 rfl (lv_at hl 1 rfl) ?_
  refine zr_p (C := RX2) (T := TX2) (N := 3) (ci := 5) (k := 0) S hK hw zi_X2 tyX2 tyX2_ok nmX2 rfl (by decide) zu_18 rfl rfl rfl dX2_becomeWhole_2 h (fun M1 H locs hw h => ?_)
  refine lv_aload_n hx hb dX2_becomeWhole_5 rfl (lv_at hl 0 rfl) ?_
  refine zr_ga (C := RX2) (T := TX2) (N := 3) (ci := 5) (k := 1) S hK hw zi_X2 rfl (by decide) zu_19 dX2_becomeWhole_6 h (fun top_2 h => ?_)
  refine lv_aload_n hx hb dX2_becomeWhole_9 rfl (lv_at hl 2 rfl) ?_
  obtain ⟨ho, h⟩ := h
  refine zr_Vv (As := [.ref a2]) (rest := []) S hK hw (kX5_copy l lo g M1 top_2 a2 _ h) (cwV 1 hts (zg_V zu_119 zu_69 zu_70 zu_12 zu_71) rfl rfl rfl (by decide +kernel) ⟨Nat.le_of_ble_eq_true rfl, Nat.le_of_ble_eq_true rfl⟩) (ci := 8) rfl ho rfl hl.1 rfl (Nat.le_of_ble_eq_true rfl) dX2_becomeWhole_10 ⟨Nat.le_of_ble_eq_true rfl, Nat.le_of_ble_eq_true rfl⟩ (fun M3 H locs hw h => ?_)
  refine lv_aload_n hx hb dX2_becomeWhole_13 rfl (lv_at hl 0 rfl) ?_
  refine zr_ga (C := RX2) (T := TX2) (N := 3) (ci := 5) (k := 2) S hK hw zi_X2 rfl (by decide) zu_24 dX2_becomeWhole_14 h (fun bottom_4 h => ?_)
  refine lv_lconst (v := (1 : Int64)) hx hb dX2_becomeWhole_17 (by decide) ?_
  obtain ⟨ho, h⟩ := h
  refine zr_Vv (As := [.long (1 : Int64)]) (rest := []) S hK hw (kX5_become l lo g M3 bottom_4 (1 : Int64) _ h) (cwV 1 hts (zg_V zu_20 zu_21 zu_22 zu_12 zu_23) rfl rfl rfl (by decide +kernel) ⟨Nat.le_of_ble_eq_true rfl, Nat.le_of_ble_eq_true rfl⟩) (ci := 8) rfl ho rfl hl.1 rfl (Nat.le_of_ble_eq_true rfl) dX2_becomeWhole_18 ⟨Nat.le_of_ble_eq_true rfl, Nat.le_of_ble_eq_true rfl⟩ (fun M5 H locs hw h => ?_)
  exact zr_rv S hr hlocks hw h dX2_becomeWhole_21
set_option maxHeartbeats 4000000 in
set_option maxRecDepth 100000 in
theorem kX2_isWhole (l : Launch) (lo : Nat) (g : zg) (M : zm_M) (a0 : Nat) (post : Int32 → zm_M → Prop) (h : pX2_isWhole g.2 a0 post M) : Met l yX2_isWhole (Cond.code yX2_isWhole cX2_isWhole 1 (some .boolean) :: zU) (({ frames := 3, cells := 0, slots := 0, locals := 81 } : Room)) (zc_P zNF zNM lo g M [.ref a0]) (va_Qi post (zc_B lo g) (zA lo)) 0 0 (zA lo) := by
  refine Met.ofW (cc := cX2_isWhole) (maxL := 1) (ret := (some .boolean)) (by decide) rfl ?_
  intro p e s m args below meth c s₁ B hml hv
  obtain ⟨rfl, hR, hK⟩ := hv
  have hts := atoms_spec (ws := Cond.code yX2_isWhole cX2_isWhole 1 (some .boolean) :: zU) B.pre
  have hts : ∀ w ∈ zU, w.before _ s = true := fun w hw => hts w (List.mem_cons_of_mem _ hw)
  have hown : s.vm.findClass RX2 = some m.cls := findClass_of_methodNamed B.named
  have hx := B.exec
  have hb := B.bytes
  have hr := B.returns
  have hlocks := B.notSynchronized
  have S : CallFix p m c cX2_isWhole 1 s ([.ref a0] : List Value).toArray zU RX2 := ⟨hx, hb, hml, hown, hts⟩
  have hw : zW lo g s s.heap [] M := ⟨hR, va_S.rf⟩
  have hl := lv_entry ([.ref a0]) (n := 1) (Nat.le_of_ble_eq_true rfl)
  rw [lg_entry_eq]
  generalize (lg_sl ([.ref a0]) ++ List.replicate (1 - (lg_sl ([.ref a0])).length) Slot.unset).toArray = ls at hl ⊢
  have hl : lv_has ls 1 [(0, .ref a0)] := hl
  unfold pX2_isWhole at h
  refine lv_aload_n hx hb dX2_isWhole_0 rfl (lv_at hl 0 rfl) ?_
  refine zr_ga (C := RX2) (T := TX2) (N := 3) (ci := 5) (k := 2) S hK hw zi_X2 rfl (by decide) zu_24 dX2_isWhole_1 h (fun bottom_1 h => ?_)
  obtain ⟨ho, h⟩ := h
  refine zr_Vi (As := []) (rest := []) S hK hw (kX5_isOne l lo g M bottom_1  _ h) (cwV 0 hts (zg_V zu_231 zu_84 zu_85 zu_12 zu_86) rfl rfl rfl (by decide +kernel) ⟨Nat.le_of_ble_eq_true rfl, Nat.le_of_ble_eq_true rfl⟩) (ci := 8) rfl ho rfl hl.1 rfl (Nat.le_of_ble_eq_true rfl) dX2_isWhole_4 ⟨Nat.le_of_ble_eq_true rfl, Nat.le_of_ble_eq_true rfl⟩ (fun r3 M2 H locs hw h => ?_)
  exact zr_rz S hr hlocks hw h dX2_isWhole_7
set_option maxHeartbeats 4000000 in
set_option maxRecDepth 100000 in
theorem kX2_isWide (l : Launch) (lo : Nat) (g : zg) (M : zm_M) (a0 : Nat) (post : Int32 → zm_M → Prop) (h : pX2_isWide g.2 a0 post M) : Met l yX2_isWide (Cond.code yX2_isWide cX2_isWide 1 (some .boolean) :: zU) (({ frames := 3, cells := 0, slots := 0, locals := 81 } : Room)) (zc_P zNF zNM lo g M [.ref a0]) (va_Qi post (zc_B lo g) (zA lo)) 0 0 (zA lo) := by
  refine Met.ofW (cc := cX2_isWide) (maxL := 1) (ret := (some .boolean)) (by decide) rfl ?_
  intro p e s m args below meth c s₁ B hml hv
  obtain ⟨rfl, hR, hK⟩ := hv
  have hts := atoms_spec (ws := Cond.code yX2_isWide cX2_isWide 1 (some .boolean) :: zU) B.pre
  have hts : ∀ w ∈ zU, w.before _ s = true := fun w hw => hts w (List.mem_cons_of_mem _ hw)
  have hown : s.vm.findClass RX2 = some m.cls := findClass_of_methodNamed B.named
  have hx := B.exec
  have hb := B.bytes
  have hr := B.returns
  have hlocks := B.notSynchronized
  have S : CallFix p m c cX2_isWide 1 s ([.ref a0] : List Value).toArray zU RX2 := ⟨hx, hb, hml, hown, hts⟩
  have hw : zW lo g s s.heap [] M := ⟨hR, va_S.rf⟩
  have hl := lv_entry ([.ref a0]) (n := 1) (Nat.le_of_ble_eq_true rfl)
  rw [lg_entry_eq]
  generalize (lg_sl ([.ref a0]) ++ List.replicate (1 - (lg_sl ([.ref a0])).length) Slot.unset).toArray = ls at hl ⊢
  have hl : lv_has ls 1 [(0, .ref a0)] := hl
  unfold pX2_isWide at h
  refine lv_aload_n hx hb dX2_isWide_0 rfl (lv_at hl 0 rfl) ?_
  refine zr_ga (C := RX2) (T := TX2) (N := 3) (ci := 5) (k := 1) S hK hw zi_X2 rfl (by decide) zu_19 dX2_isWide_1 h (fun top_1 h => ?_)
  obtain ⟨ho, h⟩ := h
  refine zr_Vi (As := []) (rest := []) S hK hw (kX5_bits l lo g M top_1  _ h) (cwV 0 hts (zg_V zu_232 zu_130 zu_131 zu_12 zu_132) rfl rfl rfl (by decide +kernel) ⟨Nat.le_of_ble_eq_true rfl, Nat.le_of_ble_eq_true rfl⟩) (ci := 8) rfl ho rfl hl.1 rfl (Nat.le_of_ble_eq_true rfl) dX2_isWide_4 ⟨Nat.le_of_ble_eq_true rfl, Nat.le_of_ble_eq_true rfl⟩ (fun r3 M2 H locs hw h => ?_)
  refine lv_sipush (v := (512 : Int32)) hx hb dX2_isWide_7 (by decide) ?_
  refine lv_icmp_gt (tgt := 26) hx hb dX2_isWide_10 (by decide) (fun hc => ?_) (fun hc => ?_)
  · have h := h.1 hc
    refine lv_iconst (v := (1 : Int32)) hx hb dX2_isWide_26 (by decide) ?_
    refine lv_goto (tgt := 31) hx hb dX2_isWide_27 (by decide) ?_
    exact zr_rz S hr hlocks hw h dX2_isWide_31
  · have h := h.2 hc
    refine lv_aload_n hx hb dX2_isWide_13 rfl (lv_at hl 0 rfl) ?_
    refine zr_ga (C := RX2) (T := TX2) (N := 3) (ci := 5) (k := 2) S hK hw zi_X2 rfl (by decide) zu_24 dX2_isWide_14 h (fun bottom_4 h => ?_)
    obtain ⟨ho, h⟩ := h
    refine zr_Vi (As := []) (rest := []) S hK hw (kX5_bits l lo g M2 bottom_4  _ h) (cwV 0 hts (zg_V zu_232 zu_130 zu_131 zu_12 zu_132) rfl rfl rfl (by decide +kernel) ⟨Nat.le_of_ble_eq_true rfl, Nat.le_of_ble_eq_true rfl⟩) (ci := 8) rfl ho rfl hl.1 rfl (Nat.le_of_ble_eq_true rfl) dX2_isWide_17 ⟨Nat.le_of_ble_eq_true rfl, Nat.le_of_ble_eq_true rfl⟩ (fun r6 M5 H locs hw h => ?_)
    refine lv_sipush (v := (512 : Int32)) hx hb dX2_isWide_20 (by decide) ?_
    refine lv_icmp_le (tgt := 30) hx hb dX2_isWide_23 (by decide) (fun hc => ?_) (fun hc => ?_)
    · have h := h.1 hc
      refine lv_iconst (v := (0 : Int32)) hx hb dX2_isWide_30 (by decide) ?_
      exact zr_rz S hr hlocks hw h dX2_isWide_31
    · have h := h.2 hc
      refine lv_iconst (v := (1 : Int32)) hx hb dX2_isWide_26 (by decide) ?_
      refine lv_goto (tgt := 31) hx hb dX2_isWide_27 (by decide) ?_
      exact zr_rz S hr hlocks hw h dX2_isWide_31
set_option maxHeartbeats 4000000 in
set_option maxRecDepth 100000 in
theorem kX2_fitsLong (l : Launch) (lo : Nat) (g : zg) (M : zm_M) (a0 : Nat) (post : Int32 → zm_M → Prop) (h : pX2_fitsLong g.2 a0 post M) : Met l yX2_fitsLong (Cond.code yX2_fitsLong cX2_fitsLong 1 (some .boolean) :: zU) (({ frames := 3, cells := 0, slots := 0, locals := 81 } : Room)) (zc_P zNF zNM lo g M [.ref a0]) (va_Qi post (zc_B lo g) (zA lo)) 0 0 (zA lo) := by
  refine Met.ofW (cc := cX2_fitsLong) (maxL := 1) (ret := (some .boolean)) (by decide) rfl ?_
  intro p e s m args below meth c s₁ B hml hv
  obtain ⟨rfl, hR, hK⟩ := hv
  have hts := atoms_spec (ws := Cond.code yX2_fitsLong cX2_fitsLong 1 (some .boolean) :: zU) B.pre
  have hts : ∀ w ∈ zU, w.before _ s = true := fun w hw => hts w (List.mem_cons_of_mem _ hw)
  have hown : s.vm.findClass RX2 = some m.cls := findClass_of_methodNamed B.named
  have hx := B.exec
  have hb := B.bytes
  have hr := B.returns
  have hlocks := B.notSynchronized
  have S : CallFix p m c cX2_fitsLong 1 s ([.ref a0] : List Value).toArray zU RX2 := ⟨hx, hb, hml, hown, hts⟩
  have hw : zW lo g s s.heap [] M := ⟨hR, va_S.rf⟩
  have hl := lv_entry ([.ref a0]) (n := 1) (Nat.le_of_ble_eq_true rfl)
  rw [lg_entry_eq]
  generalize (lg_sl ([.ref a0]) ++ List.replicate (1 - (lg_sl ([.ref a0])).length) Slot.unset).toArray = ls at hl ⊢
  have hl : lv_has ls 1 [(0, .ref a0)] := hl
  unfold pX2_fitsLong at h
  refine lv_aload_n hx hb dX2_fitsLong_0 rfl (lv_at hl 0 rfl) ?_
  refine zr_ga (C := RX2) (T := TX2) (N := 3) (ci := 5) (k := 1) S hK hw zi_X2 rfl (by decide) zu_19 dX2_fitsLong_1 h (fun top_1 h => ?_)
  obtain ⟨ho, h⟩ := h
  refine zr_Vi (As := []) (rest := []) S hK hw (kX5_bits l lo g M top_1  _ h) (cwV 0 hts (zg_V zu_232 zu_130 zu_131 zu_12 zu_132) rfl rfl rfl (by decide +kernel) ⟨Nat.le_of_ble_eq_true rfl, Nat.le_of_ble_eq_true rfl⟩) (ci := 8) rfl ho rfl hl.1 rfl (Nat.le_of_ble_eq_true rfl) dX2_fitsLong_4 ⟨Nat.le_of_ble_eq_true rfl, Nat.le_of_ble_eq_true rfl⟩ (fun r3 M2 H locs hw h => ?_)
  refine lv_bipush (v := (64 : Int32)) hx hb dX2_fitsLong_7 (by decide) ?_
  refine lv_icmp_lt (tgt := 45) hx hb dX2_fitsLong_9 (by decide) (fun hc => ?_) (fun hc => ?_)
  · have h := h.1 hc
    refine lv_iconst (v := (1 : Int32)) hx hb dX2_fitsLong_45 (by decide) ?_
    refine lv_goto (tgt := 50) hx hb dX2_fitsLong_46 (by decide) ?_
    exact zr_rz S hr hlocks hw h dX2_fitsLong_50
  · have h := h.2 hc
    refine lv_aload_n hx hb dX2_fitsLong_12 rfl (lv_at hl 0 rfl) ?_
    refine zr_gi (C := RX2) (T := TX2) (N := 3) (ci := 5) (k := 0) S hK hw zi_X2 rfl (by decide) zu_18 dX2_fitsLong_13 h (fun sign_4 h => ?_)
    refine lv_if_ge (tgt := 49) hx hb dX2_fitsLong_16 (by decide) (fun hc => ?_) (fun hc => ?_)
    · have h := h.1 hc
      refine lv_iconst (v := (0 : Int32)) hx hb dX2_fitsLong_49 (by decide) ?_
      exact zr_rz S hr hlocks hw h dX2_fitsLong_50
    · have h := h.2 hc
      refine lv_aload_n hx hb dX2_fitsLong_19 rfl (lv_at hl 0 rfl) ?_
      refine zr_ga (C := RX2) (T := TX2) (N := 3) (ci := 5) (k := 1) S hK hw zi_X2 rfl (by decide) zu_19 dX2_fitsLong_20 h (fun top_5 h => ?_)
      obtain ⟨ho, h⟩ := h
      refine zr_Vi (As := []) (rest := []) S hK hw (kX5_bits l lo g M2 top_5  _ h) (cwV 0 hts (zg_V zu_232 zu_130 zu_131 zu_12 zu_132) rfl rfl rfl (by decide +kernel) ⟨Nat.le_of_ble_eq_true rfl, Nat.le_of_ble_eq_true rfl⟩) (ci := 8) rfl ho rfl hl.1 rfl (Nat.le_of_ble_eq_true rfl) dX2_fitsLong_23 ⟨Nat.le_of_ble_eq_true rfl, Nat.le_of_ble_eq_true rfl⟩ (fun r7 M6 H locs hw h => ?_)
      refine lv_bipush (v := (64 : Int32)) hx hb dX2_fitsLong_26 (by decide) ?_
      refine lv_icmp_ne (tgt := 49) hx hb dX2_fitsLong_28 (by decide) (fun hc => ?_) (fun hc => ?_)
      · have h := h.1 hc
        refine lv_iconst (v := (0 : Int32)) hx hb dX2_fitsLong_49 (by decide) ?_
        exact zr_rz S hr hlocks hw h dX2_fitsLong_50
      · have h := h.2 hc
        refine lv_aload_n hx hb dX2_fitsLong_31 rfl (lv_at hl 0 rfl) ?_
        refine zr_ga (C := RX2) (T := TX2) (N := 3) (ci := 5) (k := 1) S hK hw zi_X2 rfl (by decide) zu_19 dX2_fitsLong_32 h (fun top_8 h => ?_)
        obtain ⟨ho, h⟩ := h
        refine zr_Vl (As := []) (rest := []) S hK hw (kX5_low l lo g M6 top_8  _ h) (cwV 0 hts (zg_V zu_233 zu_167 zu_168 zu_12 zu_169) rfl rfl rfl (by decide +kernel) ⟨Nat.le_of_ble_eq_true rfl, Nat.le_of_ble_eq_true rfl⟩) (ci := 8) rfl ho rfl hl.1 rfl (Nat.le_of_ble_eq_true rfl) dX2_fitsLong_35 ⟨Nat.le_of_ble_eq_true rfl, Nat.le_of_ble_eq_true rfl⟩ (fun r10 M9 H locs hw h => ?_)
        refine lv_ldc2 (v := (-9223372036854775808 : Int64)) hx hb hown (hts _ zu_234) dX2_fitsLong_38 ?_
        refine W.lcmp hx hb dX2_fitsLong_41 ?_
        refine lv_if_ne (tgt := 49) hx hb dX2_fitsLong_42 (by decide) (fun hc => ?_) (fun hc => ?_)
        · have h := h.1 (fun q => hc (zc_eq.mpr q))
          refine lv_iconst (v := (0 : Int32)) hx hb dX2_fitsLong_49 (by decide) ?_
          exact zr_rz S hr hlocks hw h dX2_fitsLong_50
        · have h := h.2 (zc_eq.mp hc)
          refine lv_iconst (v := (1 : Int32)) hx hb dX2_fitsLong_45 (by decide) ?_
          refine lv_goto (tgt := 50) hx hb dX2_fitsLong_46 (by decide) ?_
          exact zr_rz S hr hlocks hw h dX2_fitsLong_50
set_option maxHeartbeats 4000000 in
set_option maxRecDepth 100000 in
theorem kX3_add (l : Launch) (lo : Nat) (g : zg) (M : zm_M) (a0 : Nat) (a1 : Int32) (post : zm_M → Prop) (h : pX3_add g.2 a0 a1 post M) : Met l yX3_add (Cond.code yX3_add cX3_add 2 none :: zU) (({ frames := 1, cells := 0, slots := 0, locals := 40 } : Room)) (zc_P zNF zNM lo g M [.ref a0, .int a1]) (va_Qv post (zc_B lo g) (zA lo)) 0 0 (zA lo) := by
  refine Met.ofW (cc := cX3_add) (maxL := 2) (ret := none) (by decide) rfl ?_
  intro p e s m args below meth c s₁ B hml hv
  obtain ⟨rfl, hR, hK⟩ := hv
  have hts := atoms_spec (ws := Cond.code yX3_add cX3_add 2 none :: zU) B.pre
  have hts : ∀ w ∈ zU, w.before _ s = true := fun w hw => hts w (List.mem_cons_of_mem _ hw)
  have hown : s.vm.findClass RX3 = some m.cls := findClass_of_methodNamed B.named
  have hx := B.exec
  have hb := B.bytes
  have hr := B.returns
  have hlocks := B.notSynchronized
  have S : CallFix p m c cX3_add 2 s ([.ref a0, .int a1] : List Value).toArray zU RX3 := ⟨hx, hb, hml, hown, hts⟩
  have hw : zW lo g s s.heap [] M := ⟨hR, va_S.rf⟩
  have hl := lv_entry ([.ref a0, .int a1]) (n := 2) (Nat.le_of_ble_eq_true rfl)
  rw [lg_entry_eq]
  generalize (lg_sl ([.ref a0, .int a1]) ++ List.replicate (2 - (lg_sl ([.ref a0, .int a1])).length) Slot.unset).toArray = ls at hl ⊢
  have hl : lv_has ls 2 [(0, .ref a0), (1, .int a1)] := hl
  unfold pX3_add at h
  refine lv_aload_n hx hb dX3_add_0 rfl (lv_at hl 0 rfl) ?_
  refine zr_gi (C := RX3) (T := TX3) (N := 5) (ci := 6) (k := 1) S hK hw zi_X3 rfl (by decide) zu_235 dX3_add_1 h (fun length_1 h => ?_)
  refine lv_sipush (v := (320 : Int32)) hx hb dX3_add_4 (by decide) ?_
  refine lv_icmp_ge (tgt := 31) hx hb dX3_add_7 (by decide) (fun hc => ?_) (fun hc => ?_)
  · have h := h.1 hc
    exact zr_rv S hr hlocks hw h dX3_add_31
  · have h := h.2 hc
    refine lv_aload_n hx hb dX3_add_10 rfl (lv_at hl 0 rfl) ?_
    refine zr_ga (C := RX3) (T := TX3) (N := 5) (ci := 6) (k := 0) S hK hw zi_X3 rfl (by decide) zu_236 dX3_add_11 h (fun bytes_2 h => ?_)
    refine lv_aload_n hx hb dX3_add_14 rfl (lv_at hl 0 rfl) ?_
    refine zr_gi (C := RX3) (T := TX3) (N := 5) (ci := 6) (k := 1) S hK hw zi_X3 rfl (by decide) zu_235 dX3_add_15 h (fun length_3 h => ?_)
    refine lv_iload_n hx hb dX3_add_18 rfl (lv_at hl 1 rfl) ?_
    refine lv_i2b hx hb dX3_add_19 rfl ?_
    refine zr_bast S hK hw dX3_add_20 h (fun M4 H locs hw h => ?_)
    refine lv_aload_n hx hb dX3_add_21 rfl (lv_at hl 0 rfl) ?_
    refine lv_dup hx hb dX3_add_22 rfl ?_
    refine zr_gi (C := RX3) (T := TX3) (N := 5) (ci := 6) (k := 1) S hK hw zi_X3 rfl (by decide) zu_235 dX3_add_23 h (fun length_5 h => ?_)
    refine lv_iconst (v := (1 : Int32)) hx hb dX3_add_26 (by decide) ?_
    refine lv_iadd hx hb dX3_add_27 ?_
    refine zr_p (C := RX3) (T := TX3) (N := 5) (ci := 6) (k := 1) S hK hw zi_X3 tyX3 tyX3_ok nmX3 rfl (by decide) zu_235 rfl rfl rfl dX3_add_28 h (fun M6 H locs hw h => ?_)
    exact zr_rv S hr hlocks hw h dX3_add_31
set_option maxHeartbeats 4000000 in
set_option maxRecDepth 100000 in
theorem kX3_begin (l : Launch) (lo : Nat) (g : zg) (M : zm_M) (a0 : Nat) (a1 : Int32) (post : zm_M → Prop) (h : pX3_begin g.2 a0 a1 post M) : Met l yX3_begin (Cond.code yX3_begin cX3_begin 2 none :: zU) (({ frames := 2, cells := 0, slots := 0, locals := 61 } : Room)) (zc_P zNF zNM lo g M [.ref a0, .int a1]) (va_Qv post (zc_B lo g) (zA lo)) 0 0 (zA lo) := by
  refine Met.ofW (cc := cX3_begin) (maxL := 2) (ret := none) (by decide) rfl ?_
  intro p e s m args below meth c s₁ B hml hv
  obtain ⟨rfl, hR, hK⟩ := hv
  have hts := atoms_spec (ws := Cond.code yX3_begin cX3_begin 2 none :: zU) B.pre
  have hts : ∀ w ∈ zU, w.before _ s = true := fun w hw => hts w (List.mem_cons_of_mem _ hw)
  have hown : s.vm.findClass RX3 = some m.cls := findClass_of_methodNamed B.named
  have hx := B.exec
  have hb := B.bytes
  have hr := B.returns
  have hlocks := B.notSynchronized
  have S : CallFix p m c cX3_begin 2 s ([.ref a0, .int a1] : List Value).toArray zU RX3 := ⟨hx, hb, hml, hown, hts⟩
  have hw : zW lo g s s.heap [] M := ⟨hR, va_S.rf⟩
  have hl := lv_entry ([.ref a0, .int a1]) (n := 2) (Nat.le_of_ble_eq_true rfl)
  rw [lg_entry_eq]
  generalize (lg_sl ([.ref a0, .int a1]) ++ List.replicate (2 - (lg_sl ([.ref a0, .int a1])).length) Slot.unset).toArray = ls at hl ⊢
  have hl : lv_has ls 2 [(0, .ref a0), (1, .int a1)] := hl
  unfold pX3_begin at h
  refine lv_aload_n hx hb dX3_begin_0 rfl (lv_at hl 0 rfl) ?_
  refine lv_iconst (v := (0 : Int32)) hx hb dX3_begin_1 (by decide) ?_
  refine zr_p (C := RX3) (T := TX3) (N := 5) (ci := 6) (k := 1) S hK hw zi_X3 tyX3 tyX3_ok nmX3 rfl (by decide) zu_235 rfl rfl rfl dX3_begin_2 h (fun M1 H locs hw h => ?_)
  refine lv_iload_n hx hb dX3_begin_5 rfl (lv_at hl 1 rfl) ?_
  refine lv_if_eq (tgt := 15) hx hb dX3_begin_6 (by decide) (fun hc => ?_) (fun hc => ?_)
  · have h := h.1 hc
    exact zr_rv S hr hlocks hw h dX3_begin_15
  · have h := h.2 hc
    refine lv_aload_n hx hb dX3_begin_9 rfl (lv_at hl 0 rfl) ?_
    refine lv_bipush (v := (45 : Int32)) hx hb dX3_begin_10 (by decide) ?_
    obtain ⟨ho, h⟩ := h
    refine zr_Vv (As := [.int (45 : Int32)]) (rest := []) S hK hw (kX3_add l lo g M1 a0 (45 : Int32) _ h) (cwV 1 hts (zg_V zu_237 zu_238 zu_239 zu_240 zu_241) rfl rfl rfl (by decide +kernel) ⟨Nat.le_of_ble_eq_true rfl, Nat.le_of_ble_eq_true rfl⟩) (ci := 6) rfl ho rfl hl.1 rfl (Nat.le_of_ble_eq_true rfl) dX3_begin_12 ⟨Nat.le_of_ble_eq_true rfl, Nat.le_of_ble_eq_true rfl⟩ (fun M2 H locs hw h => ?_)
    exact zr_rv S hr hlocks hw h dX3_begin_15
set_option maxHeartbeats 4000000 in
set_option maxRecDepth 100000 in
theorem kX3_at (l : Launch) (lo : Nat) (g : zg) (M : zm_M) (a0 : Nat) (a1 : Int32) (post : Int32 → zm_M → Prop) (h : pX3_at g.2 a0 a1 post M) : Met l yX3_at (Cond.code yX3_at cX3_at 2 (some .int) :: zU) (({ frames := 1, cells := 0, slots := 0, locals := 40 } : Room)) (zc_P zNF zNM lo g M [.ref a0, .int a1]) (va_Qi post (zc_B lo g) (zA lo)) 0 0 (zA lo) := by
  refine Met.ofW (cc := cX3_at) (maxL := 2) (ret := (some .int)) (by decide) rfl ?_
  intro p e s m args below meth c s₁ B hml hv
  obtain ⟨rfl, hR, hK⟩ := hv
  have hts := atoms_spec (ws := Cond.code yX3_at cX3_at 2 (some .int) :: zU) B.pre
  have hts : ∀ w ∈ zU, w.before _ s = true := fun w hw => hts w (List.mem_cons_of_mem _ hw)
  have hown : s.vm.findClass RX3 = some m.cls := findClass_of_methodNamed B.named
  have hx := B.exec
  have hb := B.bytes
  have hr := B.returns
  have hlocks := B.notSynchronized
  have S : CallFix p m c cX3_at 2 s ([.ref a0, .int a1] : List Value).toArray zU RX3 := ⟨hx, hb, hml, hown, hts⟩
  have hw : zW lo g s s.heap [] M := ⟨hR, va_S.rf⟩
  have hl := lv_entry ([.ref a0, .int a1]) (n := 2) (Nat.le_of_ble_eq_true rfl)
  rw [lg_entry_eq]
  generalize (lg_sl ([.ref a0, .int a1]) ++ List.replicate (2 - (lg_sl ([.ref a0, .int a1])).length) Slot.unset).toArray = ls at hl ⊢
  have hl : lv_has ls 2 [(0, .ref a0), (1, .int a1)] := hl
  unfold pX3_at at h
  refine lv_iload_n hx hb dX3_at_0 rfl (lv_at hl 1 rfl) ?_
  refine lv_if_lt (tgt := 25) hx hb dX3_at_1 (by decide) (fun hc => ?_) (fun hc => ?_)
  · have h := h.1 hc
    refine lv_bipush (v := (-5 : Int32)) hx hb dX3_at_25 (by decide) ?_
    exact zr_ri S hr hlocks hw h dX3_at_27
  · have h := h.2 hc
    refine lv_iload_n hx hb dX3_at_4 rfl (lv_at hl 1 rfl) ?_
    refine lv_aload_n hx hb dX3_at_5 rfl (lv_at hl 0 rfl) ?_
    refine zr_gi (C := RX3) (T := TX3) (N := 5) (ci := 6) (k := 1) S hK hw zi_X3 rfl (by decide) zu_235 dX3_at_6 h (fun length_1 h => ?_)
    refine lv_icmp_ge (tgt := 25) hx hb dX3_at_9 (by decide) (fun hc => ?_) (fun hc => ?_)
    · have h := h.1 hc
      refine lv_bipush (v := (-5 : Int32)) hx hb dX3_at_25 (by decide) ?_
      exact zr_ri S hr hlocks hw h dX3_at_27
    · have h := h.2 hc
      refine lv_aload_n hx hb dX3_at_12 rfl (lv_at hl 0 rfl) ?_
      refine zr_ga (C := RX3) (T := TX3) (N := 5) (ci := 6) (k := 0) S hK hw zi_X3 rfl (by decide) zu_236 dX3_at_13 h (fun bytes_2 h => ?_)
      refine lv_iload_n hx hb dX3_at_16 rfl (lv_at hl 1 rfl) ?_
      refine zr_bald S hK hw dX3_at_17 h (fun e3 h => ?_)
      refine lv_sipush (v := (255 : Int32)) hx hb dX3_at_18 (by decide) ?_
      refine lv_iand hx hb dX3_at_21 ?_
      refine lv_goto (tgt := 27) hx hb dX3_at_22 (by decide) ?_
      exact zr_ri S hr hlocks hw h dX3_at_27
set_option maxHeartbeats 4000000 in
set_option maxRecDepth 100000 in
theorem sX3_turnRound_9 {p : Program} {l : Launch} {e : Env} {s : State} {m : MethodId} {args : Array Value} {below : List Frame} {meth : Method} {c : Code} {lo : Nat} {g : zg} {post : zm_M → Prop}  (S : CallFix p m c cX3_turnRound 5 s args zU RX3) (hr : meth.sig.returnType = none) (hlocks : meth.locks = false) (hK : zk_K zNF zNM g s)  : ∀ (n : Nat) (v0 : Nat) (v2 : Int32) (v3 : Int32) (M : zm_M), pX3_turnRound_9 g.2 post  n v0 v2 v3 M → ∀ (H : Heap) (locs : List Loc) (ls : Array Slot), zW lo g s H locs M → lv_has ls 5 [(0, .ref v0), (2, .int v2), (3, .int v3)] → W p l e ({ frames := 1, cells := 0, slots := 0, locals := 40 } : Room) s m args below meth c H locs 0 0 (MQ below (va_Qv post (zc_B lo g) (zA lo)) args s 0 0 (zA lo)) (F0 m 9 ls []) := by
  obtain ⟨hx, hb, hml, hown, hts⟩ := id S
  intro n
  induction n with
  | zero =>
    intro v0 v2 v3 M h
    exact False.elim h
  | succ n9 ih =>
    intro v0 v2 v3 M h H locs ls hw hl
    rw [pX3_turnRound_9] at h
    refine lv_iload_n hx hb dX3_turnRound_9 rfl (lv_at hl 1 rfl) ?_
    refine lv_if_lt (tgt := 62) hx hb dX3_turnRound_10 (by decide) (fun hc => ?_) (fun hc => ?_)
    · have h := h.1 hc
      exact zr_rv S hr hlocks hw h dX3_turnRound_62
    · have h := h.2 hc
      refine lv_iload_n hx hb dX3_turnRound_13 rfl (lv_at hl 1 rfl) ?_
      refine lv_iload_n hx hb dX3_turnRound_14 rfl (lv_at hl 2 rfl) ?_
      refine lv_icmp_ge (tgt := 62) hx hb dX3_turnRound_15 (by decide) (fun hc => ?_) (fun hc => ?_)
      · have h := h.1 hc
        exact zr_rv S hr hlocks hw h dX3_turnRound_62
      · have h := h.2 hc
        refine lv_iload_n hx hb dX3_turnRound_18 rfl (lv_at hl 2 rfl) ?_
        refine lv_sipush (v := (320 : Int32)) hx hb dX3_turnRound_19 (by decide) ?_
        refine lv_icmp_ge (tgt := 62) hx hb dX3_turnRound_22 (by decide) (fun hc => ?_) (fun hc => ?_)
        · have h := h.1 hc
          exact zr_rv S hr hlocks hw h dX3_turnRound_62
        · have h := h.2 hc
          refine lv_aload_n hx hb dX3_turnRound_25 rfl (lv_at hl 0 rfl) ?_
          refine zr_ga (C := RX3) (T := TX3) (N := 5) (ci := 6) (k := 0) S hK hw zi_X3 rfl (by decide) zu_236 dX3_turnRound_26 h (fun bytes_3 h => ?_)
          refine lv_iload_n hx hb dX3_turnRound_29 rfl (lv_at hl 1 rfl) ?_
          refine zr_bald S hK hw dX3_turnRound_30 h (fun e4 h => ?_)
          refine lv_istore (lv' := [(4, .int e4), (0, .ref v0), (2, .int v2), (3, .int v3)]) hx hb dX3_turnRound_31 hl (by decide) rfl (fun ls hl => ?_)
          refine lv_aload_n hx hb dX3_turnRound_33 rfl (lv_at hl 1 rfl) ?_
          refine zr_ga (C := RX3) (T := TX3) (N := 5) (ci := 6) (k := 0) S hK hw zi_X3 rfl (by decide) zu_236 dX3_turnRound_34 h (fun bytes_5 h => ?_)
          refine lv_iload_n hx hb dX3_turnRound_37 rfl (lv_at hl 2 rfl) ?_
          refine lv_aload_n hx hb dX3_turnRound_38 rfl (lv_at hl 1 rfl) ?_
          refine zr_ga (C := RX3) (T := TX3) (N := 5) (ci := 6) (k := 0) S hK hw zi_X3 rfl (by decide) zu_236 dX3_turnRound_39 h (fun bytes_6 h => ?_)
          refine lv_iload_n hx hb dX3_turnRound_42 rfl (lv_at hl 3 rfl) ?_
          refine zr_bald S hK hw dX3_turnRound_43 h (fun e7 h => ?_)
          refine zr_bast S hK hw dX3_turnRound_44 h (fun M8 H locs hw h => ?_)
          refine lv_aload_n hx hb dX3_turnRound_45 rfl (lv_at hl 1 rfl) ?_
          refine zr_ga (C := RX3) (T := TX3) (N := 5) (ci := 6) (k := 0) S hK hw zi_X3 rfl (by decide) zu_236 dX3_turnRound_46 h (fun bytes_9 h => ?_)
          refine lv_iload_n hx hb dX3_turnRound_49 rfl (lv_at hl 3 rfl) ?_
          refine lv_iload hx hb dX3_turnRound_50 (lv_at hl 0 rfl) ?_
          refine zr_bast S hK hw dX3_turnRound_52 h (fun M10 H locs hw h => ?_)
          obtain ⟨x11, ex11⟩ : ∃ z : Int32, z = v2 + (1 : Int32) := ⟨_, rfl⟩
          have h := h x11 ex11
          refine lv_iinc (v := x11) (lv' := [(2, .int x11), (4, .int e4), (0, .ref v0), (3, .int v3)]) hx hb dX3_turnRound_53 hl (k := 2) rfl (by rw [ex11]; rfl) (by decide) rfl (fun ls hl => ?_)
          obtain ⟨x12, ex12⟩ : ∃ z : Int32, z = v3 + (-1 : Int32) := ⟨_, rfl⟩
          have h := h x12 ex12
          refine lv_iinc (v := x12) (lv' := [(3, .int x12), (2, .int x11), (4, .int e4), (0, .ref v0)]) hx hb dX3_turnRound_56 hl (k := 3) rfl (by rw [ex12]; rfl) (by decide) rfl (fun ls hl => ?_)
          refine lv_goto (tgt := 9) hx hb dX3_turnRound_59 (by decide) ?_
          exact ih v0 x11 x12 _ h _ _ _ hw (lv_sub hl [3, 1, 0] rfl)
set_option maxHeartbeats 4000000 in
set_option maxRecDepth 100000 in
theorem kX3_turnRound (l : Launch) (lo : Nat) (g : zg) (M : zm_M) (a0 : Nat) (a1 : Int32) (post : zm_M → Prop) (h : pX3_turnRound g.2 a0 a1 post M) : Met l yX3_turnRound (Cond.code yX3_turnRound cX3_turnRound 5 none :: zU) (({ frames := 1, cells := 0, slots := 0, locals := 40 } : Room)) (zc_P zNF zNM lo g M [.ref a0, .int a1]) (va_Qv post (zc_B lo g) (zA lo)) 0 0 (zA lo) := by
  refine Met.ofW (cc := cX3_turnRound) (maxL := 5) (ret := none) (by decide) rfl ?_
  intro p e s m args below meth c s₁ B hml hv
  obtain ⟨rfl, hR, hK⟩ := hv
  have hts := atoms_spec (ws := Cond.code yX3_turnRound cX3_turnRound 5 none :: zU) B.pre
  have hts : ∀ w ∈ zU, w.before _ s = true := fun w hw => hts w (List.mem_cons_of_mem _ hw)
  have hown : s.vm.findClass RX3 = some m.cls := findClass_of_methodNamed B.named
  have hx := B.exec
  have hb := B.bytes
  have hr := B.returns
  have hlocks := B.notSynchronized
  have S : CallFix p m c cX3_turnRound 5 s ([.ref a0, .int a1] : List Value).toArray zU RX3 := ⟨hx, hb, hml, hown, hts⟩
  have hw : zW lo g s s.heap [] M := ⟨hR, va_S.rf⟩
  have hl := lv_entry ([.ref a0, .int a1]) (n := 5) (Nat.le_of_ble_eq_true rfl)
  rw [lg_entry_eq]
  generalize (lg_sl ([.ref a0, .int a1]) ++ List.replicate (5 - (lg_sl ([.ref a0, .int a1])).length) Slot.unset).toArray = ls at hl ⊢
  have hl : lv_has ls 5 [(0, .ref a0), (1, .int a1)] := hl
  unfold pX3_turnRound at h
  refine lv_iload_n hx hb dX3_turnRound_0 rfl (lv_at hl 1 rfl) ?_
  refine lv_istore_n (lv' := [(2, .int a1), (0, .ref a0), (1, .int a1)]) hx hb dX3_turnRound_1 rfl hl (by decide) rfl (fun ls hl => ?_)
  refine lv_aload_n hx hb dX3_turnRound_2 rfl (lv_at hl 1 rfl) ?_
  refine zr_gi (C := RX3) (T := TX3) (N := 5) (ci := 6) (k := 1) S hK hw zi_X3 rfl (by decide) zu_235 dX3_turnRound_3 h (fun length_1 h => ?_)
  refine lv_iconst (v := (1 : Int32)) hx hb dX3_turnRound_6 (by decide) ?_
  refine lv_isub hx hb dX3_turnRound_7 ?_
  refine lv_topi (fun x2 ex2 => ?_)
  have h := h x2 ex2
  refine lv_istore_n (lv' := [(3, .int x2), (2, .int a1), (0, .ref a0), (1, .int a1)]) hx hb dX3_turnRound_8 rfl hl (by decide) rfl (fun ls hl => ?_)
  obtain ⟨n9, h⟩ := h
  refine sX3_turnRound_9 S hr hlocks hK  n9 a0 a1 x2 _ h _ _ _ hw (lv_sub hl [2, 1, 0] rfl)
