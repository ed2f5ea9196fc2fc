set_option maxHeartbeats 4000000 in
set_option maxRecDepth 100000 in
theorem kX7_isWhole (l : Launch) (lo : Nat) (g : zg) (M : zm_M) (a0 : Nat) (a1 : Int32) (post : Int32 → zm_M → Prop) (h : pX7_isWhole g.2 a0 a1 post M) : Met l yX7_isWhole (Cond.code yX7_isWhole cX7_isWhole 2 (some .boolean) :: zU) (({ frames := 1, cells := 0, slots := 0, locals := 40 } : Room)) (zc_P zNF zNM lo g M [.ref a0, .int a1]) (va_Qi post (zc_B lo g) (zA lo)) 0 0 (zA lo) := by
  refine Met.ofW (cc := cX7_isWhole) (maxL := 2) (ret := (some .boolean)) (by decide) rfl ?_
  intro p e s m args below meth c s₁ B hml hv
  obtain ⟨rfl, hR, hK⟩ := hv
  have hts := atoms_spec (ws := Cond.code yX7_isWhole cX7_isWhole 2 (some .boolean) :: zU) B.pre
  have hts : ∀ w ∈ zU, w.before _ s = true := fun w hw => hts w (List.mem_cons_of_mem _ hw)
  have hown : s.vm.findClass RX7 = some m.cls := findClass_of_methodNamed B.named
  have hx := B.exec
  have hb := B.bytes
  have hr := B.returns
  have hlocks := B.notSynchronized
  have S : CallFix p m c cX7_isWhole 2 s ([.ref a0, .int a1] : List Value).toArray zU RX7 := ⟨hx, hb, hml, hown, hts⟩
  have hw : zW lo g s s.heap [] M := ⟨hR, va_S.rf⟩
  have hl := lv_entry ([.ref a0, .int a1]) (n := 2) (Nat.le_of_ble_eq_true rfl)
  rw [lg_entry_eq]
  generalize (lg_sl ([.ref a0, .int a1]) ++ List.replicate (2 - (lg_sl ([.ref a0, .int a1])).length) Slot.unset).toArray = ls at hl ⊢
  have hl : lv_has ls 2 [(0, .ref a0), (1, .int a1)] := hl
  unfold pX7_isWhole at h
  refine lv_aload_n hx hb dX7_isWhole_0 rfl (lv_at hl 0 rfl) ?_
  refine zr_ga (C := RX7) (T := TX7) (N := 14) (ci := 10) (k := 4) S hK hw zi_X7 rfl (by decide) zu_486 dX7_isWhole_1 h (fun keptSize_1 h => ?_)
  refine lv_iconst (v := (2 : Int32)) hx hb dX7_isWhole_4 (by decide) ?_
  refine lv_iload_n hx hb dX7_isWhole_5 rfl (lv_at hl 1 rfl) ?_
  refine lv_imul hx hb dX7_isWhole_6 ?_
  refine lv_iconst (v := (1 : Int32)) hx hb dX7_isWhole_7 (by decide) ?_
  refine lv_iadd hx hb dX7_isWhole_8 ?_
  refine zr_iald S hK hw dX7_isWhole_9 h (fun e2 h => ?_)
  refine lv_iconst (v := (1 : Int32)) hx hb dX7_isWhole_10 (by decide) ?_
  refine lv_icmp_ne (tgt := 36) hx hb dX7_isWhole_11 (by decide) (fun hc => ?_) (fun hc => ?_)
  · have h := h.1 hc
    refine lv_iconst (v := (0 : Int32)) hx hb dX7_isWhole_36 (by decide) ?_
    exact zr_rz S hr hlocks hw h dX7_isWhole_37
  · have h := h.2 hc
    refine lv_aload_n hx hb dX7_isWhole_14 rfl (lv_at hl 0 rfl) ?_
    refine zr_ga (C := RX7) (T := TX7) (N := 14) (ci := 10) (k := 3) S hK hw zi_X7 rfl (by decide) zu_487 dX7_isWhole_15 h (fun keptLimb_3 h => ?_)
    refine lv_bipush (v := (16 : Int32)) hx hb dX7_isWhole_18 (by decide) ?_
    refine lv_iconst (v := (2 : Int32)) hx hb dX7_isWhole_20 (by decide) ?_
    refine lv_iload_n hx hb dX7_isWhole_21 rfl (lv_at hl 1 rfl) ?_
    refine lv_imul hx hb dX7_isWhole_22 ?_
    refine lv_iconst (v := (1 : Int32)) hx hb dX7_isWhole_23 (by decide) ?_
    refine lv_iadd hx hb dX7_isWhole_24 ?_
    refine lv_imul hx hb dX7_isWhole_25 ?_
    refine zr_lald S hK hw dX7_isWhole_26 h (fun e4 h => ?_)
    refine lv_lconst (v := (1 : Int64)) hx hb dX7_isWhole_27 (by decide) ?_
    refine W.lcmp hx hb dX7_isWhole_28 ?_
    refine lv_if_ne (tgt := 36) hx hb dX7_isWhole_29 (by decide) (fun hc => ?_) (fun hc => ?_)
    · have h := h.1 (fun q => hc (zc_eq.mpr q))
      refine lv_iconst (v := (0 : Int32)) hx hb dX7_isWhole_36 (by decide) ?_
      exact zr_rz S hr hlocks hw h dX7_isWhole_37
    · have h := h.2 (zc_eq.mp hc)
      refine lv_iconst (v := (1 : Int32)) hx hb dX7_isWhole_32 (by decide) ?_
      refine lv_goto (tgt := 37) hx hb dX7_isWhole_33 (by decide) ?_
      exact zr_rz S hr hlocks hw h dX7_isWhole_37
set_option maxHeartbeats 4000000 in
set_option maxRecDepth 100000 in
theorem kX7_common (l : Launch) (lo : Nat) (g : zg) (M : zm_M) (a0 : Nat) (a1 : Int32) (a2 : Int32) (post : Int32 → zm_M → Prop) (h : pX7_common g.2 a0 a1 a2 post M) : Met l yX7_common (Cond.code yX7_common cX7_common 3 (some .int) :: zU) (({ frames := 5, cells := 0, slots := 0, locals := 134 } : Room)) (zc_P zNF zNM lo g M [.ref a0, .int a1, .int a2]) (va_Qi post (zc_B lo g) (zA lo)) 0 0 (zA lo) := by
  refine Met.ofW (cc := cX7_common) (maxL := 3) (ret := (some .int)) (by decide) rfl ?_
  intro p e s m args below meth c s₁ B hml hv
  obtain ⟨rfl, hR, hK⟩ := hv
  have hts := atoms_spec (ws := Cond.code yX7_common cX7_common 3 (some .int) :: zU) B.pre
  have hts : ∀ w ∈ zU, w.before _ s = true := fun w hw => hts w (List.mem_cons_of_mem _ hw)
  have hown : s.vm.findClass RX7 = some m.cls := findClass_of_methodNamed B.named
  have hx := B.exec
  have hb := B.bytes
  have hr := B.returns
  have hlocks := B.notSynchronized
  have S : CallFix p m c cX7_common 3 s ([.ref a0, .int a1, .int a2] : List Value).toArray zU RX7 := ⟨hx, hb, hml, hown, hts⟩
  have hw : zW lo g s s.heap [] M := ⟨hR, va_S.rf⟩
  have hl := lv_entry ([.ref a0, .int a1, .int a2]) (n := 3) (Nat.le_of_ble_eq_true rfl)
  rw [lg_entry_eq]
  generalize (lg_sl ([.ref a0, .int a1, .int a2]) ++ List.replicate (3 - (lg_sl ([.ref a0, .int a1, .int a2])).length) Slot.unset).toArray = ls at hl ⊢
  have hl : lv_has ls 3 [(0, .ref a0), (1, .int a1), (2, .int a2)] := hl
  unfold pX7_common at h
  refine lv_aload_n hx hb dX7_common_0 rfl (lv_at hl 0 rfl) ?_
  refine lv_iconst (v := (0 : Int32)) hx hb dX7_common_1 (by decide) ?_
  refine zr_p (C := RX7) (T := TX7) (N := 14) (ci := 10) (k := 0) S hK hw zi_X7 tyX7 tyX7_ok nmX7 rfl (by decide) zu_443 rfl rfl rfl dX7_common_2 h (fun M1 H locs hw h => ?_)
  refine lv_aload_n hx hb dX7_common_5 rfl (lv_at hl 0 rfl) ?_
  refine lv_iload_n hx hb dX7_common_6 rfl (lv_at hl 1 rfl) ?_
  obtain ⟨ho, h⟩ := h
  refine zr_Vi (As := [.int a1]) (rest := []) S hK hw (kX7_isNumber l lo g M1 a0 a1 _ h) (cwV 1 hts (zg_V zu_517 zu_518 zu_519 zu_450 zu_520) rfl rfl rfl (by decide +kernel) ⟨Nat.le_of_ble_eq_true rfl, Nat.le_of_ble_eq_true rfl⟩) (ci := 10) rfl ho rfl hl.1 rfl (Nat.le_of_ble_eq_true rfl) dX7_common_7 ⟨Nat.le_of_ble_eq_true rfl, Nat.le_of_ble_eq_true rfl⟩ (fun r3 M2 H locs hw h => ?_)
  refine lv_if_eq (tgt := 21) hx hb dX7_common_10 (by decide) (fun hc => ?_) (fun hc => ?_)
  · have h := h.1 hc
    refine lv_iconst (v := (-1 : Int32)) hx hb dX7_common_21 (by decide) ?_
    exact zr_ri S hr hlocks hw h dX7_common_22
  · have h := h.2 hc
    refine lv_aload_n hx hb dX7_common_13 rfl (lv_at hl 0 rfl) ?_
    refine lv_iload_n hx hb dX7_common_14 rfl (lv_at hl 2 rfl) ?_
    obtain ⟨ho, h⟩ := h
    refine zr_Vi (As := [.int a2]) (rest := []) S hK hw (kX7_isNumber l lo g M2 a0 a2 _ h) (cwV 1 hts (zg_V zu_517 zu_518 zu_519 zu_450 zu_520) rfl rfl rfl (by decide +kernel) ⟨Nat.le_of_ble_eq_true rfl, Nat.le_of_ble_eq_true rfl⟩) (ci := 10) rfl ho rfl hl.1 rfl (Nat.le_of_ble_eq_true rfl) dX7_common_15 ⟨Nat.le_of_ble_eq_true rfl, Nat.le_of_ble_eq_true rfl⟩ (fun r5 M4 H locs hw h => ?_)
    refine lv_if_ne (tgt := 23) hx hb dX7_common_18 (by decide) (fun hc => ?_) (fun hc => ?_)
    · have h := h.1 hc
      refine lv_aload_n hx hb dX7_common_23 rfl (lv_at hl 0 rfl) ?_
      refine lv_iload_n hx hb dX7_common_24 rfl (lv_at hl 1 rfl) ?_
      obtain ⟨ho, h⟩ := h
      refine zr_Vi (As := [.int a1]) (rest := []) S hK hw (kX7_isWhole l lo g M4 a0 a1 _ h) (cwV 1 hts (zg_V zu_548 zu_549 zu_550 zu_450 zu_551) rfl rfl rfl (by decide +kernel) ⟨Nat.le_of_ble_eq_true rfl, Nat.le_of_ble_eq_true rfl⟩) (ci := 10) rfl ho rfl hl.1 rfl (Nat.le_of_ble_eq_true rfl) dX7_common_25 ⟨Nat.le_of_ble_eq_true rfl, Nat.le_of_ble_eq_true rfl⟩ (fun r7 M6 H locs hw h => ?_)
      refine lv_if_eq (tgt := 39) hx hb dX7_common_28 (by decide) (fun hc => ?_) (fun hc => ?_)
      · have h := h.1 hc
        refine lv_bipush (v := (-2 : Int32)) hx hb dX7_common_39 (by decide) ?_
        exact zr_ri S hr hlocks hw h dX7_common_41
      · have h := h.2 hc
        refine lv_aload_n hx hb dX7_common_31 rfl (lv_at hl 0 rfl) ?_
        refine lv_iload_n hx hb dX7_common_32 rfl (lv_at hl 2 rfl) ?_
        obtain ⟨ho, h⟩ := h
        refine zr_Vi (As := [.int a2]) (rest := []) S hK hw (kX7_isWhole l lo g M6 a0 a2 _ h) (cwV 1 hts (zg_V zu_548 zu_549 zu_550 zu_450 zu_551) rfl rfl rfl (by decide +kernel) ⟨Nat.le_of_ble_eq_true rfl, Nat.le_of_ble_eq_true rfl⟩) (ci := 10) rfl ho rfl hl.1 rfl (Nat.le_of_ble_eq_true rfl) dX7_common_33 ⟨Nat.le_of_ble_eq_true rfl, Nat.le_of_ble_eq_true rfl⟩ (fun r9 M8 H locs hw h => ?_)
        refine lv_if_ne (tgt := 42) hx hb dX7_common_36 (by decide) (fun hc => ?_) (fun hc => ?_)
        · have h := h.1 hc
          refine lv_aload_n hx hb dX7_common_42 rfl (lv_at hl 0 rfl) ?_
          obtain ⟨ho, h⟩ := h
          refine zr_Vi (As := []) (rest := []) S hK hw (kX7_free l lo g M8 a0  _ h) (cwV 0 hts (zg_V zu_492 zu_493 zu_494 zu_450 zu_495) rfl rfl rfl (by decide +kernel) ⟨Nat.le_of_ble_eq_true rfl, Nat.le_of_ble_eq_true rfl⟩) (ci := 10) rfl ho rfl hl.1 rfl (Nat.le_of_ble_eq_true rfl) dX7_common_43 ⟨Nat.le_of_ble_eq_true rfl, Nat.le_of_ble_eq_true rfl⟩ (fun r11 M10 H locs hw h => ?_)
          refine lv_bipush (v := (-3 : Int32)) hx hb dX7_common_46 (by decide) ?_
          refine lv_icmp_ne (tgt := 54) hx hb dX7_common_48 (by decide) (fun hc => ?_) (fun hc => ?_)
          · have h := h.1 hc
            refine lv_aload_n hx hb dX7_common_54 rfl (lv_at hl 0 rfl) ?_
            refine lv_iconst (v := (2 : Int32)) hx hb dX7_common_55 (by decide) ?_
            refine lv_iload_n hx hb dX7_common_56 rfl (lv_at hl 1 rfl) ?_
            refine lv_iconst (v := (0 : Int32)) hx hb dX7_common_57 (by decide) ?_
            obtain ⟨ho, h⟩ := h
            refine zr_Vv (As := [.int (2 : Int32), .int a1, .int (0 : Int32)]) (rest := []) S hK hw (kX7_take l lo g M10 a0 (2 : Int32) a1 (0 : Int32) _ h) (cwV 3 hts (zg_V zu_521 zu_522 zu_523 zu_450 zu_524) rfl rfl rfl (by decide +kernel) ⟨Nat.le_of_ble_eq_true rfl, Nat.le_of_ble_eq_true rfl⟩) (ci := 10) rfl ho rfl hl.1 rfl (Nat.le_of_ble_eq_true rfl) dX7_common_58 ⟨Nat.le_of_ble_eq_true rfl, Nat.le_of_ble_eq_true rfl⟩ (fun M12 H locs hw h => ?_)
            refine lv_aload_n hx hb dX7_common_61 rfl (lv_at hl 0 rfl) ?_
            refine lv_iconst (v := (3 : Int32)) hx hb dX7_common_62 (by decide) ?_
            refine lv_iload_n hx hb dX7_common_63 rfl (lv_at hl 2 rfl) ?_
            refine lv_iconst (v := (0 : Int32)) hx hb dX7_common_64 (by decide) ?_
            obtain ⟨ho, h⟩ := h
            refine zr_Vv (As := [.int (3 : Int32), .int a2, .int (0 : Int32)]) (rest := []) S hK hw (kX7_take l lo g M12 a0 (3 : Int32) a2 (0 : Int32) _ h) (cwV 3 hts (zg_V zu_521 zu_522 zu_523 zu_450 zu_524) rfl rfl rfl (by decide +kernel) ⟨Nat.le_of_ble_eq_true rfl, Nat.le_of_ble_eq_true rfl⟩) (ci := 10) rfl ho rfl hl.1 rfl (Nat.le_of_ble_eq_true rfl) dX7_common_65 ⟨Nat.le_of_ble_eq_true rfl, Nat.le_of_ble_eq_true rfl⟩ (fun M13 H locs hw h => ?_)
            refine lv_aload_n hx hb dX7_common_68 rfl (lv_at hl 0 rfl) ?_
            refine lv_iconst (v := (2 : Int32)) hx hb dX7_common_69 (by decide) ?_
            refine lv_iconst (v := (3 : Int32)) hx hb dX7_common_70 (by decide) ?_
            obtain ⟨ho, h⟩ := h
            refine zr_Vv (As := [.int (2 : Int32), .int (3 : Int32)]) (rest := []) S hK hw (kX7_divisor l lo g M13 a0 (2 : Int32) (3 : Int32) _ h) (cwV 2 hts (zg_V zu_497 zu_498 zu_499 zu_450 zu_500) rfl rfl rfl (by decide +kernel) ⟨Nat.le_of_ble_eq_true rfl, Nat.le_of_ble_eq_true rfl⟩) (ci := 10) rfl ho rfl hl.1 rfl (Nat.le_of_ble_eq_true rfl) dX7_common_71 ⟨Nat.le_of_ble_eq_true rfl, Nat.le_of_ble_eq_true rfl⟩ (fun M14 H locs hw h => ?_)
            refine lv_aload_n hx hb dX7_common_74 rfl (lv_at hl 0 rfl) ?_
            refine lv_iconst (v := (2 : Int32)) hx hb dX7_common_75 (by decide) ?_
            refine lv_iconst (v := (1 : Int32)) hx hb dX7_common_76 (by decide) ?_
            obtain ⟨ho, h⟩ := h
            refine zr_Vi (As := [.int (2 : Int32), .int (1 : Int32)]) (rest := []) S hK hw (kX7_keepWhole l lo g M14 a0 (2 : Int32) (1 : Int32) _ h) (cwV 2 hts (zg_V zu_513 zu_514 zu_515 zu_450 zu_516) rfl rfl rfl (by decide +kernel) ⟨Nat.le_of_ble_eq_true rfl, Nat.le_of_ble_eq_true rfl⟩) (ci := 10) rfl ho rfl hl.1 rfl (Nat.le_of_ble_eq_true rfl) dX7_common_77 ⟨Nat.le_of_ble_eq_true rfl, Nat.le_of_ble_eq_true rfl⟩ (fun r16 M15 H locs hw h => ?_)
            exact zr_ri S hr hlocks hw h dX7_common_80
          · have h := h.2 hc
            refine lv_bipush (v := (-3 : Int32)) hx hb dX7_common_51 (by decide) ?_
            exact zr_ri S hr hlocks hw h dX7_common_53
        · have h := h.2 hc
          refine lv_bipush (v := (-2 : Int32)) hx hb dX7_common_39 (by decide) ?_
          exact zr_ri S hr hlocks hw h dX7_common_41
    · have h := h.2 hc
      refine lv_iconst (v := (-1 : Int32)) hx hb dX7_common_21 (by decide) ?_
      exact zr_ri S hr hlocks hw h dX7_common_22
set_option maxHeartbeats 4000000 in
set_option maxRecDepth 100000 in
theorem sX7_many_4 {p : Program} {l : Launch} {e : Env} {s : State} {m : MethodId} {args : Array Value} {below : List Frame} {meth : Method} {c : Code} {lo : Nat} {g : zg} {post : Int32 → zm_M → Prop}  (S : CallFix p m c cX7_many 3 s args zU RX7) (hr : meth.sig.returnType = (some .int)) (hlocks : meth.locks = false) (hK : zk_K zNF zNM g s)  : ∀ (n : Nat) (v0 : Nat) (v1 : Int32) (v2 : Int32) (M : zm_M), pX7_many_4 g.2 post  n v0 v1 v2 M → ∀ (H : Heap) (locs : List Loc) (ls : Array Slot), zW lo g s H locs M → lv_has ls 3 [(0, .ref v0), (1, .int v1), (2, .int v2)] → W p l e ({ frames := 1, cells := 0, slots := 0, locals := 40 } : Room) s m args below meth c H locs 0 0 (MQ below (va_Qi post (zc_B lo g) (zA lo)) args s 0 0 (zA lo)) (F0 m 4 ls []) := by
  obtain ⟨hx, hb, hml, hown, hts⟩ := id S
  intro n
  induction n with
  | zero =>
    intro v0 v1 v2 M h
    exact False.elim h
  | succ n4 ih =>
    intro v0 v1 v2 M h H locs ls hw hl
    rw [pX7_many_4] at h
    refine lv_iload_n hx hb dX7_many_4 rfl (lv_at hl 2 rfl) ?_
    refine lv_bipush (v := (24 : Int32)) hx hb dX7_many_5 (by decide) ?_
    refine lv_icmp_ge (tgt := 33) hx hb dX7_many_7 (by decide) (fun hc => ?_) (fun hc => ?_)
    · have h := h.1 hc
      refine lv_iload_n hx hb dX7_many_33 rfl (lv_at hl 1 rfl) ?_
      exact zr_ri S hr hlocks hw h dX7_many_34
    · have h := h.2 hc
      refine lv_iload_n hx hb dX7_many_10 rfl (lv_at hl 1 rfl) ?_
      refine lv_aload_n hx hb dX7_many_11 rfl (lv_at hl 0 rfl) ?_
      refine zr_ga (C := RX7) (T := TX7) (N := 14) (ci := 10) (k := 1) S hK hw zi_X7 rfl (by decide) zu_485 dX7_many_12 h (fun isThere_3 h => ?_)
      refine lv_iload_n hx hb dX7_many_15 rfl (lv_at hl 2 rfl) ?_
      refine zr_zald S hK hw dX7_many_16 h (fun e4 h => ?_)
      refine lv_if_eq (tgt := 24) hx hb dX7_many_17 (by decide) (fun hc => ?_) (fun hc => ?_)
      · have h := h.1 hc
        refine lv_iconst (v := (0 : Int32)) hx hb dX7_many_24 (by decide) ?_
        refine lv_iadd hx hb dX7_many_25 ?_
        refine lv_topi (fun x5 ex5 => ?_)
        have h := h x5 ex5
        refine lv_istore_n (lv' := [(1, .int x5), (0, .ref v0), (2, .int v2)]) hx hb dX7_many_26 rfl hl (by decide) rfl (fun ls hl => ?_)
        obtain ⟨x6, ex6⟩ : ∃ z : Int32, z = v2 + (1 : Int32) := ⟨_, rfl⟩
        have h := h x6 ex6
        refine lv_iinc (v := x6) (lv' := [(2, .int x6), (1, .int x5), (0, .ref v0)]) hx hb dX7_many_27 hl (k := 2) rfl (by rw [ex6]; rfl) (by decide) rfl (fun ls hl => ?_)
        refine lv_goto (tgt := 4) hx hb dX7_many_30 (by decide) ?_
        exact ih v0 x5 x6 _ h _ _ _ hw (lv_sub hl [2, 1, 0] rfl)
      · have h := h.2 hc
        refine lv_iconst (v := (1 : Int32)) hx hb dX7_many_20 (by decide) ?_
        refine lv_goto (tgt := 25) hx hb dX7_many_21 (by decide) ?_
        refine lv_iadd hx hb dX7_many_25 ?_
        refine lv_topi (fun x7 ex7 => ?_)
        have h := h x7 ex7
        refine lv_istore_n (lv' := [(1, .int x7), (0, .ref v0), (2, .int v2)]) hx hb dX7_many_26 rfl hl (by decide) rfl (fun ls hl => ?_)
        obtain ⟨x8, ex8⟩ : ∃ z : Int32, z = v2 + (1 : Int32) := ⟨_, rfl⟩
        have h := h x8 ex8
        refine lv_iinc (v := x8) (lv' := [(2, .int x8), (1, .int x7), (0, .ref v0)]) hx hb dX7_many_27 hl (k := 2) rfl (by rw [ex8]; rfl) (by decide) rfl (fun ls hl => ?_)
        refine lv_goto (tgt := 4) hx hb dX7_many_30 (by decide) ?_
        exact ih v0 x7 x8 _ h _ _ _ hw (lv_sub hl [2, 1, 0] rfl)
set_option maxHeartbeats 4000000 in
set_option maxRecDepth 100000 in
theorem kX7_many (l : Launch) (lo : Nat) (g : zg) (M : zm_M) (a0 : Nat) (post : Int32 → zm_M → Prop) (h : pX7_many g.2 a0 post M) : Met l yX7_many (Cond.code yX7_many cX7_many 3 (some .int) :: zU) (({ frames := 1, cells := 0, slots := 0, locals := 40 } : Room)) (zc_P zNF zNM lo g M [.ref a0]) (va_Qi post (zc_B lo g) (zA lo)) 0 0 (zA lo) := by
  refine Met.ofW (cc := cX7_many) (maxL := 3) (ret := (some .int)) (by decide) rfl ?_
  intro p e s m args below meth c s₁ B hml hv
  obtain ⟨rfl, hR, hK⟩ := hv
  have hts := atoms_spec (ws := Cond.code yX7_many cX7_many 3 (some .int) :: zU) B.pre
  have hts : ∀ w ∈ zU, w.before _ s = true := fun w hw => hts w (List.mem_cons_of_mem _ hw)
  have hown : s.vm.findClass RX7 = some m.cls := findClass_of_methodNamed B.named
  have hx := B.exec
  have hb := B.bytes
  have hr := B.returns
  have hlocks := B.notSynchronized
  have S : CallFix p m c cX7_many 3 s ([.ref a0] : List Value).toArray zU RX7 := ⟨hx, hb, hml, hown, hts⟩
  have hw : zW lo g s s.heap [] M := ⟨hR, va_S.rf⟩
  have hl := lv_entry ([.ref a0]) (n := 3) (Nat.le_of_ble_eq_true rfl)
  rw [lg_entry_eq]
  generalize (lg_sl ([.ref a0]) ++ List.replicate (3 - (lg_sl ([.ref a0])).length) Slot.unset).toArray = ls at hl ⊢
  have hl : lv_has ls 3 [(0, .ref a0)] := hl
  unfold pX7_many at h
  refine lv_iconst (v := (0 : Int32)) hx hb dX7_many_0 (by decide) ?_
  refine lv_topi (fun x1 ex1 => ?_)
  have h := h x1 ex1
  refine lv_istore_n (lv' := [(1, .int x1), (0, .ref a0)]) hx hb dX7_many_1 rfl hl (by decide) rfl (fun ls hl => ?_)
  refine lv_iconst (v := (0 : Int32)) hx hb dX7_many_2 (by decide) ?_
  refine lv_topi (fun x2 ex2 => ?_)
  have h := h x2 ex2
  refine lv_istore_n (lv' := [(2, .int x2), (1, .int x1), (0, .ref a0)]) hx hb dX7_many_3 rfl hl (by decide) rfl (fun ls hl => ?_)
  obtain ⟨n4, h⟩ := h
  refine sX7_many_4 S hr hlocks hK  n4 a0 x1 x2 _ h _ _ _ hw (lv_sub hl [2, 1, 0] rfl)
set_option maxHeartbeats 4000000 in
set_option maxRecDepth 100000 in
theorem kX7_drop (l : Launch) (lo : Nat) (g : zg) (M : zm_M) (a0 : Nat) (a1 : Int32) (post : Int32 → zm_M → Prop) (h : pX7_drop g.2 a0 a1 post M) : Met l yX7_drop (Cond.code yX7_drop cX7_drop 2 (some .int) :: zU) (({ frames := 3, cells := 0, slots := 0, locals := 86 } : Room)) (zc_P zNF zNM lo g M [.ref a0, .int a1]) (va_Qi post (zc_B lo g) (zA lo)) 0 0 (zA lo) := by
  refine Met.ofW (cc := cX7_drop) (maxL := 2) (ret := (some .int)) (by decide) rfl ?_
  intro p e s m args below meth c s₁ B hml hv
  obtain ⟨rfl, hR, hK⟩ := hv
  have hts := atoms_spec (ws := Cond.code yX7_drop cX7_drop 2 (some .int) :: zU) B.pre
  have hts : ∀ w ∈ zU, w.before _ s = true := fun w hw => hts w (List.mem_cons_of_mem _ hw)
  have hown : s.vm.findClass RX7 = some m.cls := findClass_of_methodNamed B.named
  have hx := B.exec
  have hb := B.bytes
  have hr := B.returns
  have hlocks := B.notSynchronized
  have S : CallFix p m c cX7_drop 2 s ([.ref a0, .int a1] : List Value).toArray zU RX7 := ⟨hx, hb, hml, hown, hts⟩
  have hw : zW lo g s s.heap [] M := ⟨hR, va_S.rf⟩
  have hl := lv_entry ([.ref a0, .int a1]) (n := 2) (Nat.le_of_ble_eq_true rfl)
  rw [lg_entry_eq]
  generalize (lg_sl ([.ref a0, .int a1]) ++ List.replicate (2 - (lg_sl ([.ref a0, .int a1])).length) Slot.unset).toArray = ls at hl ⊢
  have hl : lv_has ls 2 [(0, .ref a0), (1, .int a1)] := hl
  unfold pX7_drop at h
  refine lv_aload_n hx hb dX7_drop_0 rfl (lv_at hl 0 rfl) ?_
  refine lv_iconst (v := (0 : Int32)) hx hb dX7_drop_1 (by decide) ?_
  refine zr_p (C := RX7) (T := TX7) (N := 14) (ci := 10) (k := 0) S hK hw zi_X7 tyX7 tyX7_ok nmX7 rfl (by decide) zu_443 rfl rfl rfl dX7_drop_2 h (fun M1 H locs hw h => ?_)
  refine lv_aload_n hx hb dX7_drop_5 rfl (lv_at hl 0 rfl) ?_
  refine lv_iload_n hx hb dX7_drop_6 rfl (lv_at hl 1 rfl) ?_
  obtain ⟨ho, h⟩ := h
  refine zr_Vi (As := [.int a1]) (rest := []) S hK hw (kX7_isNumber l lo g M1 a0 a1 _ h) (cwV 1 hts (zg_V zu_517 zu_518 zu_519 zu_450 zu_520) rfl rfl rfl (by decide +kernel) ⟨Nat.le_of_ble_eq_true rfl, Nat.le_of_ble_eq_true rfl⟩) (ci := 10) rfl ho rfl hl.1 rfl (Nat.le_of_ble_eq_true rfl) dX7_drop_7 ⟨Nat.le_of_ble_eq_true rfl, Nat.le_of_ble_eq_true rfl⟩ (fun r3 M2 H locs hw h => ?_)
  refine lv_if_ne (tgt := 15) hx hb dX7_drop_10 (by decide) (fun hc => ?_) (fun hc => ?_)
  · have h := h.1 hc
    refine lv_aload_n hx hb dX7_drop_15 rfl (lv_at hl 0 rfl) ?_
    refine zr_ga (C := RX7) (T := TX7) (N := 14) (ci := 10) (k := 1) S hK hw zi_X7 rfl (by decide) zu_485 dX7_drop_16 h (fun isThere_4 h => ?_)
    refine lv_iload_n hx hb dX7_drop_19 rfl (lv_at hl 1 rfl) ?_
    refine lv_iconst (v := (0 : Int32)) hx hb dX7_drop_20 (by decide) ?_
    refine zr_zast S hK hw dX7_drop_21 h (fun M5 H locs hw h => ?_)
    refine lv_aload_n hx hb dX7_drop_22 rfl (lv_at hl 0 rfl) ?_
    obtain ⟨ho, h⟩ := h
    refine zr_Vi (As := []) (rest := []) S hK hw (kX7_many l lo g M5 a0  _ h) (cwV 0 hts (zg_V zu_552 zu_553 zu_554 zu_450 zu_555) rfl rfl rfl (by decide +kernel) ⟨Nat.le_of_ble_eq_true rfl, Nat.le_of_ble_eq_true rfl⟩) (ci := 10) rfl ho rfl hl.1 rfl (Nat.le_of_ble_eq_true rfl) dX7_drop_23 ⟨Nat.le_of_ble_eq_true rfl, Nat.le_of_ble_eq_true rfl⟩ (fun r7 M6 H locs hw h => ?_)
    exact zr_ri S hr hlocks hw h dX7_drop_26
  · have h := h.2 hc
    refine lv_iconst (v := (-1 : Int32)) hx hb dX7_drop_13 (by decide) ?_
    exact zr_ri S hr hlocks hw h dX7_drop_14
set_option maxHeartbeats 4000000 in
set_option maxRecDepth 100000 in
theorem kX7_count (l : Launch) (lo : Nat) (g : zg) (M : zm_M) (a0 : Nat) (post : Int32 → zm_M → Prop) (h : pX7_count g.2 a0 post M) : Met l yX7_count (Cond.code yX7_count cX7_count 1 (some .int) :: zU) (({ frames := 2, cells := 0, slots := 0, locals := 62 } : Room)) (zc_P zNF zNM lo g M [.ref a0]) (va_Qi post (zc_B lo g) (zA lo)) 0 0 (zA lo) := by
  refine Met.ofW (cc := cX7_count) (maxL := 1) (ret := (some .int)) (by decide) rfl ?_
  intro p e s m args below meth c s₁ B hml hv
  obtain ⟨rfl, hR, hK⟩ := hv
  have hts := atoms_spec (ws := Cond.code yX7_count cX7_count 1 (some .int) :: zU) B.pre
  have hts : ∀ w ∈ zU, w.before _ s = true := fun w hw => hts w (List.mem_cons_of_mem _ hw)
  have hown : s.vm.findClass RX7 = some m.cls := findClass_of_methodNamed B.named
  have hx := B.exec
  have hb := B.bytes
  have hr := B.returns
  have hlocks := B.notSynchronized
  have S : CallFix p m c cX7_count 1 s ([.ref a0] : List Value).toArray zU RX7 := ⟨hx, hb, hml, hown, hts⟩
  have hw : zW lo g s s.heap [] M := ⟨hR, va_S.rf⟩
  have hl := lv_entry ([.ref a0]) (n := 1) (Nat.le_of_ble_eq_true rfl)
  rw [lg_entry_eq]
  generalize (lg_sl ([.ref a0]) ++ List.replicate (1 - (lg_sl ([.ref a0])).length) Slot.unset).toArray = ls at hl ⊢
  have hl : lv_has ls 1 [(0, .ref a0)] := hl
  unfold pX7_count at h
  refine lv_aload_n hx hb dX7_count_0 rfl (lv_at hl 0 rfl) ?_
  refine lv_iconst (v := (0 : Int32)) hx hb dX7_count_1 (by decide) ?_
  refine zr_p (C := RX7) (T := TX7) (N := 14) (ci := 10) (k := 0) S hK hw zi_X7 tyX7 tyX7_ok nmX7 rfl (by decide) zu_443 rfl rfl rfl dX7_count_2 h (fun M1 H locs hw h => ?_)
  refine lv_aload_n hx hb dX7_count_5 rfl (lv_at hl 0 rfl) ?_
  obtain ⟨ho, h⟩ := h
  refine zr_Vi (As := []) (rest := []) S hK hw (kX7_many l lo g M1 a0  _ h) (cwV 0 hts (zg_V zu_552 zu_553 zu_554 zu_450 zu_555) rfl rfl rfl (by decide +kernel) ⟨Nat.le_of_ble_eq_true rfl, Nat.le_of_ble_eq_true rfl⟩) (ci := 10) rfl ho rfl hl.1 rfl (Nat.le_of_ble_eq_true rfl) dX7_count_6 ⟨Nat.le_of_ble_eq_true rfl, Nat.le_of_ble_eq_true rfl⟩ (fun r3 M2 H locs hw h => ?_)
  exact zr_ri S hr hlocks hw h dX7_count_9
set_option maxHeartbeats 4000000 in
set_option maxRecDepth 100000 in
theorem kX7_compare (l : Launch) (lo : Nat) (g : zg) (M : zm_M) (a0 : Nat) (a1 : Int32) (a2 : Int32) (post : Int32 → zm_M → Prop) (h : pX7_compare g.2 a0 a1 a2 post M) : Met l yX7_compare (Cond.code yX7_compare cX7_compare 3 (some .int) :: zU) (({ frames := 3, cells := 0, slots := 0, locals := 89 } : Room)) (zc_P zNF zNM lo g M [.ref a0, .int a1, .int a2]) (va_Qi post (zc_B lo g) (zA lo)) 0 0 (zA lo) := by
  refine Met.ofW (cc := cX7_compare) (maxL := 3) (ret := (some .int)) (by decide) rfl ?_
  intro p e s m args below meth c s₁ B hml hv
  obtain ⟨rfl, hR, hK⟩ := hv
  have hts := atoms_spec (ws := Cond.code yX7_compare cX7_compare 3 (some .int) :: zU) B.pre
  have hts : ∀ w ∈ zU, w.before _ s = true := fun w hw => hts w (List.mem_cons_of_mem _ hw)
  have hown : s.vm.findClass RX7 = some m.cls := findClass_of_methodNamed B.named
  have hx := B.exec
  have hb := B.bytes
  have hr := B.returns
  have hlocks := B.notSynchronized
  have S : CallFix p m c cX7_compare 3 s ([.ref a0, .int a1, .int a2] : List Value).toArray zU RX7 := ⟨hx, hb, hml, hown, hts⟩
  have hw : zW lo g s s.heap [] M := ⟨hR, va_S.rf⟩
  have hl := lv_entry ([.ref a0, .int a1, .int a2]) (n := 3) (Nat.le_of_ble_eq_true rfl)
  rw [lg_entry_eq]
  generalize (lg_sl ([.ref a0, .int a1, .int a2]) ++ List.replicate (3 - (lg_sl ([.ref a0, .int a1, .int a2])).length) Slot.unset).toArray = ls at hl ⊢
  have hl : lv_has ls 3 [(0, .ref a0), (1, .int a1), (2, .int a2)] := hl
  unfold pX7_compare at h
  refine lv_aload_n hx hb dX7_compare_0 rfl (lv_at hl 0 rfl) ?_
  refine lv_iconst (v := (0 : Int32)) hx hb dX7_compare_1 (by decide) ?_
  refine zr_p (C := RX7) (T := TX7) (N := 14) (ci := 10) (k := 0) S hK hw zi_X7 tyX7 tyX7_ok nmX7 rfl (by decide) zu_443 rfl rfl rfl dX7_compare_2 h (fun M1 H locs hw h => ?_)
  refine lv_aload_n hx hb dX7_compare_5 rfl (lv_at hl 0 rfl) ?_
  refine lv_iload_n hx hb dX7_compare_6 rfl (lv_at hl 1 rfl) ?_
  obtain ⟨ho, h⟩ := h
  refine zr_Vi (As := [.int a1]) (rest := []) S hK hw (kX7_isNumber l lo g M1 a0 a1 _ h) (cwV 1 hts (zg_V zu_517 zu_518 zu_519 zu_450 zu_520) rfl rfl rfl (by decide +kernel) ⟨Nat.le_of_ble_eq_true rfl, Nat.le_of_ble_eq_true rfl⟩) (ci := 10) rfl ho rfl hl.1 rfl (Nat.le_of_ble_eq_true rfl) dX7_compare_7 ⟨Nat.le_of_ble_eq_true rfl, Nat.le_of_ble_eq_true rfl⟩ (fun r3 M2 H locs hw h => ?_)
  refine lv_if_eq (tgt := 21) hx hb dX7_compare_10 (by decide) (fun hc => ?_) (fun hc => ?_)
  · have h := h.1 hc
    refine lv_iconst (v := (-1 : Int32)) hx hb dX7_compare_21 (by decide) ?_
    exact zr_ri S hr hlocks hw h dX7_compare_22
  · have h := h.2 hc
    refine lv_aload_n hx hb dX7_compare_13 rfl (lv_at hl 0 rfl) ?_
    refine lv_iload_n hx hb dX7_compare_14 rfl (lv_at hl 2 rfl) ?_
    obtain ⟨ho, h⟩ := h
    refine zr_Vi (As := [.int a2]) (rest := []) S hK hw (kX7_isNumber l lo g M2 a0 a2 _ h) (cwV 1 hts (zg_V zu_517 zu_518 zu_519 zu_450 zu_520) rfl rfl rfl (by decide +kernel) ⟨Nat.le_of_ble_eq_true rfl, Nat.le_of_ble_eq_true rfl⟩) (ci := 10) rfl ho rfl hl.1 rfl (Nat.le_of_ble_eq_true rfl) dX7_compare_15 ⟨Nat.le_of_ble_eq_true rfl, Nat.le_of_ble_eq_true rfl⟩ (fun r5 M4 H locs hw h => ?_)
    refine lv_if_ne (tgt := 23) hx hb dX7_compare_18 (by decide) (fun hc => ?_) (fun hc => ?_)
    · have h := h.1 hc
      refine lv_aload_n hx hb dX7_compare_23 rfl (lv_at hl 0 rfl) ?_
      refine zr_ga (C := RX7) (T := TX7) (N := 14) (ci := 10) (k := 2) S hK hw zi_X7 rfl (by decide) zu_496 dX7_compare_24 h (fun sign_6 h => ?_)
      refine lv_iload_n hx hb dX7_compare_27 rfl (lv_at hl 1 rfl) ?_
      refine zr_iald S hK hw dX7_compare_28 h (fun e7 h => ?_)
      refine lv_aload_n hx hb dX7_compare_29 rfl (lv_at hl 0 rfl) ?_
      refine zr_ga (C := RX7) (T := TX7) (N := 14) (ci := 10) (k := 2) S hK hw zi_X7 rfl (by decide) zu_496 dX7_compare_30 h (fun sign_8 h => ?_)
      refine lv_iload_n hx hb dX7_compare_33 rfl (lv_at hl 2 rfl) ?_
      refine zr_iald S hK hw dX7_compare_34 h (fun e9 h => ?_)
      refine lv_icmp_eq (tgt := 59) hx hb dX7_compare_35 (by decide) (fun hc => ?_) (fun hc => ?_)
      · have h := h.1 hc
        refine lv_aload_n hx hb dX7_compare_59 rfl (lv_at hl 0 rfl) ?_
        refine lv_iconst (v := (2 : Int32)) hx hb dX7_compare_60 (by decide) ?_
        refine lv_iload_n hx hb dX7_compare_61 rfl (lv_at hl 1 rfl) ?_
        refine lv_iconst (v := (0 : Int32)) hx hb dX7_compare_62 (by decide) ?_
        obtain ⟨ho, h⟩ := h
        refine zr_Vv (As := [.int (2 : Int32), .int a1, .int (0 : Int32)]) (rest := []) S hK hw (kX7_take l lo g M4 a0 (2 : Int32) a1 (0 : Int32) _ h) (cwV 3 hts (zg_V zu_521 zu_522 zu_523 zu_450 zu_524) rfl rfl rfl (by decide +kernel) ⟨Nat.le_of_ble_eq_true rfl, Nat.le_of_ble_eq_true rfl⟩) (ci := 10) rfl ho rfl hl.1 rfl (Nat.le_of_ble_eq_true rfl) dX7_compare_63 ⟨Nat.le_of_ble_eq_true rfl, Nat.le_of_ble_eq_true rfl⟩ (fun M10 H locs hw h => ?_)
        refine lv_aload_n hx hb dX7_compare_66 rfl (lv_at hl 0 rfl) ?_
        refine lv_iconst (v := (3 : Int32)) hx hb dX7_compare_67 (by decide) ?_
        refine lv_iload_n hx hb dX7_compare_68 rfl (lv_at hl 2 rfl) ?_
        refine lv_iconst (v := (1 : Int32)) hx hb dX7_compare_69 (by decide) ?_
        obtain ⟨ho, h⟩ := h
        refine zr_Vv (As := [.int (3 : Int32), .int a2, .int (1 : Int32)]) (rest := []) S hK hw (kX7_take l lo g M10 a0 (3 : Int32) a2 (1 : Int32) _ h) (cwV 3 hts (zg_V zu_521 zu_522 zu_523 zu_450 zu_524) rfl rfl rfl (by decide +kernel) ⟨Nat.le_of_ble_eq_true rfl, Nat.le_of_ble_eq_true rfl⟩) (ci := 10) rfl ho rfl hl.1 rfl (Nat.le_of_ble_eq_true rfl) dX7_compare_70 ⟨Nat.le_of_ble_eq_true rfl, Nat.le_of_ble_eq_true rfl⟩ (fun M11 H locs hw h => ?_)
        refine lv_aload_n hx hb dX7_compare_73 rfl (lv_at hl 0 rfl) ?_
        refine lv_iconst (v := (4 : Int32)) hx hb dX7_compare_74 (by decide) ?_
        refine lv_iconst (v := (2 : Int32)) hx hb dX7_compare_75 (by decide) ?_
        refine lv_iconst (v := (3 : Int32)) hx hb dX7_compare_76 (by decide) ?_
        obtain ⟨ho, h⟩ := h
        refine zr_Vv (As := [.int (4 : Int32), .int (2 : Int32), .int (3 : Int32)]) (rest := []) S hK hw (kX7_times l lo g M11 a0 (4 : Int32) (2 : Int32) (3 : Int32) _ h) (cwV 3 hts (zg_V zu_525 zu_526 zu_527 zu_450 zu_528) rfl rfl rfl (by decide +kernel) ⟨Nat.le_of_ble_eq_true rfl, Nat.le_of_ble_eq_true rfl⟩) (ci := 10) rfl ho rfl hl.1 rfl (Nat.le_of_ble_eq_true rfl) dX7_compare_77 ⟨Nat.le_of_ble_eq_true rfl, Nat.le_of_ble_eq_true rfl⟩ (fun M12 H locs hw h => ?_)
        refine lv_aload_n hx hb dX7_compare_80 rfl (lv_at hl 0 rfl) ?_
        refine lv_iconst (v := (2 : Int32)) hx hb dX7_compare_81 (by decide) ?_
        refine lv_iload_n hx hb dX7_compare_82 rfl (lv_at hl 2 rfl) ?_
        refine lv_iconst (v := (0 : Int32)) hx hb dX7_compare_83 (by decide) ?_
        obtain ⟨ho, h⟩ := h
        refine zr_Vv (As := [.int (2 : Int32), .int a2, .int (0 : Int32)]) (rest := []) S hK hw (kX7_take l lo g M12 a0 (2 : Int32) a2 (0 : Int32) _ h) (cwV 3 hts (zg_V zu_521 zu_522 zu_523 zu_450 zu_524) rfl rfl rfl (by decide +kernel) ⟨Nat.le_of_ble_eq_true rfl, Nat.le_of_ble_eq_true rfl⟩) (ci := 10) rfl ho rfl hl.1 rfl (Nat.le_of_ble_eq_true rfl) dX7_compare_84 ⟨Nat.le_of_ble_eq_true rfl, Nat.le_of_ble_eq_true rfl⟩ (fun M13 H locs hw h => ?_)
        refine lv_aload_n hx hb dX7_compare_87 rfl (lv_at hl 0 rfl) ?_
        refine lv_iconst (v := (3 : Int32)) hx hb dX7_compare_88 (by decide) ?_
        refine lv_iload_n hx hb dX7_compare_89 rfl (lv_at hl 1 rfl) ?_
        refine lv_iconst (v := (1 : Int32)) hx hb dX7_compare_90 (by decide) ?_
        obtain ⟨ho, h⟩ := h
        refine zr_Vv (As := [.int (3 : Int32), .int a1, .int (1 : Int32)]) (rest := []) S hK hw (kX7_take l lo g M13 a0 (3 : Int32) a1 (1 : Int32) _ h) (cwV 3 hts (zg_V zu_521 zu_522 zu_523 zu_450 zu_524) rfl rfl rfl (by decide +kernel) ⟨Nat.le_of_ble_eq_true rfl, Nat.le_of_ble_eq_true rfl⟩) (ci := 10) rfl ho rfl hl.1 rfl (Nat.le_of_ble_eq_true rfl) dX7_compare_91 ⟨Nat.le_of_ble_eq_true rfl, Nat.le_of_ble_eq_true rfl⟩ (fun M14 H locs hw h => ?_)
        refine lv_aload_n hx hb dX7_compare_94 rfl (lv_at hl 0 rfl) ?_
        refine lv_iconst (v := (5 : Int32)) hx hb dX7_compare_95 (by decide) ?_
        refine lv_iconst (v := (2 : Int32)) hx hb dX7_compare_96 (by decide) ?_
        refine lv_iconst (v := (3 : Int32)) hx hb dX7_compare_97 (by decide) ?_
        obtain ⟨ho, h⟩ := h
        refine zr_Vv (As := [.int (5 : Int32), .int (2 : Int32), .int (3 : Int32)]) (rest := []) S hK hw (kX7_times l lo g M14 a0 (5 : Int32) (2 : Int32) (3 : Int32) _ h) (cwV 3 hts (zg_V zu_525 zu_526 zu_527 zu_450 zu_528) rfl rfl rfl (by decide +kernel) ⟨Nat.le_of_ble_eq_true rfl, Nat.le_of_ble_eq_true rfl⟩) (ci := 10) rfl ho rfl hl.1 rfl (Nat.le_of_ble_eq_true rfl) dX7_compare_98 ⟨Nat.le_of_ble_eq_true rfl, Nat.le_of_ble_eq_true rfl⟩ (fun M15 H locs hw h => ?_)
        refine lv_aload_n hx hb dX7_compare_101 rfl (lv_at hl 0 rfl) ?_
        refine lv_iconst (v := (4 : Int32)) hx hb dX7_compare_102 (by decide) ?_
        refine lv_iconst (v := (5 : Int32)) hx hb dX7_compare_103 (by decide) ?_
        obtain ⟨ho, h⟩ := h
        refine zr_Vi (As := [.int (4 : Int32), .int (5 : Int32)]) (rest := []) S hK hw (kX7_compared l lo g M15 a0 (4 : Int32) (5 : Int32) _ h) (cwV 2 hts (zg_V zu_457 zu_458 zu_459 zu_450 zu_460) rfl rfl rfl (by decide +kernel) ⟨Nat.le_of_ble_eq_true rfl, Nat.le_of_ble_eq_true rfl⟩) (ci := 10) rfl ho rfl hl.1 rfl (Nat.le_of_ble_eq_true rfl) dX7_compare_104 ⟨Nat.le_of_ble_eq_true rfl, Nat.le_of_ble_eq_true rfl⟩ (fun r17 M16 H locs hw h => ?_)
        refine lv_aload_n hx hb dX7_compare_107 rfl (lv_at hl 0 rfl) ?_
        refine zr_ga (C := RX7) (T := TX7) (N := 14) (ci := 10) (k := 2) S hK hw zi_X7 rfl (by decide) zu_496 dX7_compare_108 h (fun sign_18 h => ?_)
        refine lv_iload_n hx hb dX7_compare_111 rfl (lv_at hl 1 rfl) ?_
        refine zr_iald S hK hw dX7_compare_112 h (fun e19 h => ?_)
        refine lv_if_ge (tgt := 120) hx hb dX7_compare_113 (by decide) (fun hc => ?_) (fun hc => ?_)
        · have h := h.1 hc
          refine lv_iconst (v := (1 : Int32)) hx hb dX7_compare_120 (by decide) ?_
          refine lv_imul hx hb dX7_compare_121 ?_
          exact zr_ri S hr hlocks hw h dX7_compare_122
        · have h := h.2 hc
          refine lv_iconst (v := (-1 : Int32)) hx hb dX7_compare_116 (by decide) ?_
          refine lv_goto (tgt := 121) hx hb dX7_compare_117 (by decide) ?_
          refine lv_imul hx hb dX7_compare_121 ?_
          exact zr_ri S hr hlocks hw h dX7_compare_122
      · have h := h.2 hc
        refine lv_aload_n hx hb dX7_compare_38 rfl (lv_at hl 0 rfl) ?_
        refine zr_ga (C := RX7) (T := TX7) (N := 14) (ci := 10) (k := 2) S hK hw zi_X7 rfl (by decide) zu_496 dX7_compare_39 h (fun sign_20 h => ?_)
        refine lv_iload_n hx hb dX7_compare_42 rfl (lv_at hl 1 rfl) ?_
        refine zr_iald S hK hw dX7_compare_43 h (fun e21 h => ?_)
        refine lv_aload_n hx hb dX7_compare_44 rfl (lv_at hl 0 rfl) ?_
        refine zr_ga (C := RX7) (T := TX7) (N := 14) (ci := 10) (k := 2) S hK hw zi_X7 rfl (by decide) zu_496 dX7_compare_45 h (fun sign_22 h => ?_)
        refine lv_iload_n hx hb dX7_compare_48 rfl (lv_at hl 2 rfl) ?_
        refine zr_iald S hK hw dX7_compare_49 h (fun e23 h => ?_)
        refine lv_icmp_ge (tgt := 57) hx hb dX7_compare_50 (by decide) (fun hc => ?_) (fun hc => ?_)
        · have h := h.1 hc
          refine lv_iconst (v := (1 : Int32)) hx hb dX7_compare_57 (by decide) ?_
          exact zr_ri S hr hlocks hw h dX7_compare_58
        · have h := h.2 hc
          refine lv_iconst (v := (-1 : Int32)) hx hb dX7_compare_53 (by decide) ?_
          refine lv_goto (tgt := 58) hx hb dX7_compare_54 (by decide) ?_
          exact zr_ri S hr hlocks hw h dX7_compare_58
    · have h := h.2 hc
      refine lv_iconst (v := (-1 : Int32)) hx hb dX7_compare_21 (by decide) ?_
      exact zr_ri S hr hlocks hw h dX7_compare_22
set_option maxHeartbeats 4000000 in
set_option maxRecDepth 100000 in
theorem kX7_of (l : Launch) (lo : Nat) (g : zg) (M : zm_M) (a0 : Nat) (a1 : Int32) (a2 : Int32) (post : Int32 → zm_M → Prop) (h : pX7_of g.2 a0 a1 a2 post M) : Met l yX7_of (Cond.code yX7_of cX7_of 3 (some .int) :: zU) (({ frames := 3, cells := 0, slots := 0, locals := 86 } : Room)) (zc_P zNF zNM lo g M [.ref a0, .int a1, .int a2]) (va_Qi post (zc_B lo g) (zA lo)) 0 0 (zA lo) := by
  refine Met.ofW (cc := cX7_of) (maxL := 3) (ret := (some .int)) (by decide) rfl ?_
  intro p e s m args below meth c s₁ B hml hv
  obtain ⟨rfl, hR, hK⟩ := hv
  have hts := atoms_spec (ws := Cond.code yX7_of cX7_of 3 (some .int) :: zU) B.pre
  have hts : ∀ w ∈ zU, w.before _ s = true := fun w hw => hts w (List.mem_cons_of_mem _ hw)
  have hown : s.vm.findClass RX7 = some m.cls := findClass_of_methodNamed B.named
  have hx := B.exec
  have hb := B.bytes
  have hr := B.returns
  have hlocks := B.notSynchronized
  have S : CallFix p m c cX7_of 3 s ([.ref a0, .int a1, .int a2] : List Value).toArray zU RX7 := ⟨hx, hb, hml, hown, hts⟩
  have hw : zW lo g s s.heap [] M := ⟨hR, va_S.rf⟩
  have hl := lv_entry ([.ref a0, .int a1, .int a2]) (n := 3) (Nat.le_of_ble_eq_true rfl)
  rw [lg_entry_eq]
  generalize (lg_sl ([.ref a0, .int a1, .int a2]) ++ List.replicate (3 - (lg_sl ([.ref a0, .int a1, .int a2])).length) Slot.unset).toArray = ls at hl ⊢
  have hl : lv_has ls 3 [(0, .ref a0), (1, .int a1), (2, .int a2)] := hl
  unfold pX7_of at h
  refine lv_aload_n hx hb dX7_of_0 rfl (lv_at hl 0 rfl) ?_
  refine lv_iconst (v := (0 : Int32)) hx hb dX7_of_1 (by decide) ?_
  refine zr_p (C := RX7) (T := TX7) (N := 14) (ci := 10) (k := 0) S hK hw zi_X7 tyX7 tyX7_ok nmX7 rfl (by decide) zu_443 rfl rfl rfl dX7_of_2 h (fun M1 H locs hw h => ?_)
  refine lv_aload_n hx hb dX7_of_5 rfl (lv_at hl 0 rfl) ?_
  refine lv_iload_n hx hb dX7_of_6 rfl (lv_at hl 1 rfl) ?_
  obtain ⟨ho, h⟩ := h
  refine zr_Vi (As := [.int a1]) (rest := []) S hK hw (kX7_isNumber l lo g M1 a0 a1 _ h) (cwV 1 hts (zg_V zu_517 zu_518 zu_519 zu_450 zu_520) rfl rfl rfl (by decide +kernel) ⟨Nat.le_of_ble_eq_true rfl, Nat.le_of_ble_eq_true rfl⟩) (ci := 10) rfl ho rfl hl.1 rfl (Nat.le_of_ble_eq_true rfl) dX7_of_7 ⟨Nat.le_of_ble_eq_true rfl, Nat.le_of_ble_eq_true rfl⟩ (fun r3 M2 H locs hw h => ?_)
  refine lv_if_eq (tgt := 25) hx hb dX7_of_10 (by decide) (fun hc => ?_) (fun hc => ?_)
  · have h := h.1 hc
    refine lv_iconst (v := (-1 : Int32)) hx hb dX7_of_25 (by decide) ?_
    exact zr_ri S hr hlocks hw h dX7_of_26
  · have h := h.2 hc
    refine lv_iload_n hx hb dX7_of_13 rfl (lv_at hl 2 rfl) ?_
    refine lv_i2l hx hb dX7_of_14 rfl ?_
    refine lv_lconst (v := (0 : Int64)) hx hb dX7_of_15 (by decide) ?_
    refine lv_ldc2 (v := (3 : Int64)) hx hb hown (hts _ zu_537) dX7_of_16 ?_
    refine zr_Si (As := [.long (a2.toInt64), .long (0 : Int64), .long (3 : Int64)]) (rest := []) S hK hw (kX7_in l lo g M2 (a2.toInt64) (0 : Int64) (3 : Int64) _ h) (va_cwS 3 hts (zg_S zu_482 zu_483 zu_450 zu_484) rfl rfl rfl (by decide +kernel) ⟨Nat.le_of_ble_eq_true rfl, Nat.le_of_ble_eq_true rfl⟩) rfl hl.1 rfl (Nat.le_of_ble_eq_true rfl) dX7_of_19 ⟨Nat.le_of_ble_eq_true rfl, Nat.le_of_ble_eq_true rfl⟩ (fun r5 M4 H locs hw h => ?_)
    refine lv_if_ne (tgt := 27) hx hb dX7_of_22 (by decide) (fun hc => ?_) (fun hc => ?_)
    · have h := h.1 hc
      refine lv_iload_n hx hb dX7_of_27 rfl (lv_at hl 2 rfl) ?_
      refine lv_iconst (v := (2 : Int32)) hx hb dX7_of_28 (by decide) ?_
      refine lv_icmp_ge (tgt := 59) hx hb dX7_of_29 (by decide) (fun hc => ?_) (fun hc => ?_)
      · have h := h.1 hc
        refine lv_aload_n hx hb dX7_of_59 rfl (lv_at hl 0 rfl) ?_
        refine lv_iconst (v := (2 : Int32)) hx hb dX7_of_60 (by decide) ?_
        refine lv_iload_n hx hb dX7_of_61 rfl (lv_at hl 1 rfl) ?_
        refine lv_iload_n hx hb dX7_of_62 rfl (lv_at hl 2 rfl) ?_
        refine lv_iconst (v := (2 : Int32)) hx hb dX7_of_63 (by decide) ?_
        refine lv_isub hx hb dX7_of_64 ?_
        obtain ⟨ho, h⟩ := h
        refine zr_Vv (As := [.int (2 : Int32), .int a1, .int (a2 - (2 : Int32))]) (rest := []) S hK hw (kX7_take l lo g M4 a0 (2 : Int32) a1 (a2 - (2 : Int32)) _ h) (cwV 3 hts (zg_V zu_521 zu_522 zu_523 zu_450 zu_524) rfl rfl rfl (by decide +kernel) ⟨Nat.le_of_ble_eq_true rfl, Nat.le_of_ble_eq_true rfl⟩) (ci := 10) rfl ho rfl hl.1 rfl (Nat.le_of_ble_eq_true rfl) dX7_of_65 ⟨Nat.le_of_ble_eq_true rfl, Nat.le_of_ble_eq_true rfl⟩ (fun M6 H locs hw h => ?_)
        refine lv_aload_n hx hb dX7_of_68 rfl (lv_at hl 0 rfl) ?_
        refine lv_iconst (v := (2 : Int32)) hx hb dX7_of_69 (by decide) ?_
        obtain ⟨ho, h⟩ := h
        refine zr_Vi (As := [.int (2 : Int32)]) (rest := []) S hK hw (kX7_bits l lo g M6 a0 (2 : Int32) _ h) (cwV 1 hts (zg_V zu_488 zu_489 zu_490 zu_450 zu_491) rfl rfl rfl (by decide +kernel) ⟨Nat.le_of_ble_eq_true rfl, Nat.le_of_ble_eq_true rfl⟩) (ci := 10) rfl ho rfl hl.1 rfl (Nat.le_of_ble_eq_true rfl) dX7_of_70 ⟨Nat.le_of_ble_eq_true rfl, Nat.le_of_ble_eq_true rfl⟩ (fun r8 M7 H locs hw h => ?_)
        exact zr_ri S hr hlocks hw h dX7_of_73
      · have h := h.2 hc
        refine lv_iload_n hx hb dX7_of_32 rfl (lv_at hl 2 rfl) ?_
        refine lv_if_ne (tgt := 45) hx hb dX7_of_33 (by decide) (fun hc => ?_) (fun hc => ?_)
        · have h := h.1 hc
          refine lv_aload_n hx hb dX7_of_45 rfl (lv_at hl 0 rfl) ?_
          refine lv_iload_n hx hb dX7_of_46 rfl (lv_at hl 1 rfl) ?_
          obtain ⟨ho, h⟩ := h
          refine zr_Vi (As := [.int a1]) (rest := []) S hK hw (kX7_isWhole l lo g M4 a0 a1 _ h) (cwV 1 hts (zg_V zu_548 zu_549 zu_550 zu_450 zu_551) rfl rfl rfl (by decide +kernel) ⟨Nat.le_of_ble_eq_true rfl, Nat.le_of_ble_eq_true rfl⟩) (ci := 10) rfl ho rfl hl.1 rfl (Nat.le_of_ble_eq_true rfl) dX7_of_47 ⟨Nat.le_of_ble_eq_true rfl, Nat.le_of_ble_eq_true rfl⟩ (fun r10 M9 H locs hw h => ?_)
          refine lv_if_eq (tgt := 57) hx hb dX7_of_50 (by decide) (fun hc => ?_) (fun hc => ?_)
          · have h := h.1 hc
            refine lv_iconst (v := (0 : Int32)) hx hb dX7_of_57 (by decide) ?_
            exact zr_ri S hr hlocks hw h dX7_of_58
          · have h := h.2 hc
            refine lv_iconst (v := (1 : Int32)) hx hb dX7_of_53 (by decide) ?_
            refine lv_goto (tgt := 58) hx hb dX7_of_54 (by decide) ?_
            exact zr_ri S hr hlocks hw h dX7_of_58
        · have h := h.2 hc
          refine lv_aload_n hx hb dX7_of_36 rfl (lv_at hl 0 rfl) ?_
          refine zr_ga (C := RX7) (T := TX7) (N := 14) (ci := 10) (k := 2) S hK hw zi_X7 rfl (by decide) zu_496 dX7_of_37 h (fun sign_11 h => ?_)
          refine lv_iload_n hx hb dX7_of_40 rfl (lv_at hl 1 rfl) ?_
          refine zr_iald S hK hw dX7_of_41 h (fun e12 h => ?_)
          refine lv_goto (tgt := 58) hx hb dX7_of_42 (by decide) ?_
          exact zr_ri S hr hlocks hw h dX7_of_58
    · have h := h.2 hc
      refine lv_iconst (v := (-1 : Int32)) hx hb dX7_of_25 (by decide) ?_
      exact zr_ri S hr hlocks hw h dX7_of_26
set_option maxHeartbeats 4000000 in
set_option maxRecDepth 100000 in
theorem kX7_limb (l : Launch) (lo : Nat) (g : zg) (M : zm_M) (a0 : Nat) (a1 : Int32) (a2 : Int32) (a3 : Int32) (post : Int32 → zm_M → Prop) (h : pX7_limb g.2 a0 a1 a2 a3 post M) : Met l yX7_limb (Cond.code yX7_limb cX7_limb 4 (some .int) :: zU) (({ frames := 3, cells := 0, slots := 0, locals := 86 } : Room)) (zc_P zNF zNM lo g M [.ref a0, .int a1, .int a2, .int a3]) (va_Qi post (zc_B lo g) (zA lo)) 0 0 (zA lo) := by
  refine Met.ofW (cc := cX7_limb) (maxL := 4) (ret := (some .int)) (by decide) rfl ?_
  intro p e s m args below meth c s₁ B hml hv
  obtain ⟨rfl, hR, hK⟩ := hv
  have hts := atoms_spec (ws := Cond.code yX7_limb cX7_limb 4 (some .int) :: zU) B.pre
  have hts : ∀ w ∈ zU, w.before _ s = true := fun w hw => hts w (List.mem_cons_of_mem _ hw)
  have hown : s.vm.findClass RX7 = some m.cls := findClass_of_methodNamed B.named
  have hx := B.exec
  have hb := B.bytes
  have hr := B.returns
  have hlocks := B.notSynchronized
  have S : CallFix p m c cX7_limb 4 s ([.ref a0, .int a1, .int a2, .int a3] : List Value).toArray zU RX7 := ⟨hx, hb, hml, hown, hts⟩
  have hw : zW lo g s s.heap [] M := ⟨hR, va_S.rf⟩
  have hl := lv_entry ([.ref a0, .int a1, .int a2, .int a3]) (n := 4) (Nat.le_of_ble_eq_true rfl)
  rw [lg_entry_eq]
  generalize (lg_sl ([.ref a0, .int a1, .int a2, .int a3]) ++ List.replicate (4 - (lg_sl ([.ref a0, .int a1, .int a2, .int a3])).length) Slot.unset).toArray = ls at hl ⊢
  have hl : lv_has ls 4 [(0, .ref a0), (1, .int a1), (2, .int a2), (3, .int a3)] := hl
  unfold pX7_limb at h
  refine lv_aload_n hx hb dX7_limb_0 rfl (lv_at hl 0 rfl) ?_
  refine lv_iconst (v := (0 : Int32)) hx hb dX7_limb_1 (by decide) ?_
  refine zr_p (C := RX7) (T := TX7) (N := 14) (ci := 10) (k := 0) S hK hw zi_X7 tyX7 tyX7_ok nmX7 rfl (by decide) zu_443 rfl rfl rfl dX7_limb_2 h (fun M1 H locs hw h => ?_)
  refine lv_aload_n hx hb dX7_limb_5 rfl (lv_at hl 0 rfl) ?_
  refine lv_iload_n hx hb dX7_limb_6 rfl (lv_at hl 1 rfl) ?_
  obtain ⟨ho, h⟩ := h
  refine zr_Vi (As := [.int a1]) (rest := []) S hK hw (kX7_isNumber l lo g M1 a0 a1 _ h) (cwV 1 hts (zg_V zu_517 zu_518 zu_519 zu_450 zu_520) rfl rfl rfl (by decide +kernel) ⟨Nat.le_of_ble_eq_true rfl, Nat.le_of_ble_eq_true rfl⟩) (ci := 10) rfl ho rfl hl.1 rfl (Nat.le_of_ble_eq_true rfl) dX7_limb_7 ⟨Nat.le_of_ble_eq_true rfl, Nat.le_of_ble_eq_true rfl⟩ (fun r3 M2 H locs hw h => ?_)
  refine lv_if_eq (tgt := 23) hx hb dX7_limb_10 (by decide) (fun hc => ?_) (fun hc => ?_)
  · have h := h.1 hc
    refine lv_iconst (v := (-1 : Int32)) hx hb dX7_limb_23 (by decide) ?_
    exact zr_ri S hr hlocks hw h dX7_limb_24
  · have h := h.2 hc
    refine lv_iload_n hx hb dX7_limb_13 rfl (lv_at hl 2 rfl) ?_
    refine lv_i2l hx hb dX7_limb_14 rfl ?_
    refine lv_lconst (v := (0 : Int64)) hx hb dX7_limb_15 (by decide) ?_
    refine lv_lconst (v := (1 : Int64)) hx hb dX7_limb_16 (by decide) ?_
    refine zr_Si (As := [.long (a2.toInt64), .long (0 : Int64), .long (1 : Int64)]) (rest := []) S hK hw (kX7_in l lo g M2 (a2.toInt64) (0 : Int64) (1 : Int64) _ h) (va_cwS 3 hts (zg_S zu_482 zu_483 zu_450 zu_484) rfl rfl rfl (by decide +kernel) ⟨Nat.le_of_ble_eq_true rfl, Nat.le_of_ble_eq_true rfl⟩) rfl hl.1 rfl (Nat.le_of_ble_eq_true rfl) dX7_limb_17 ⟨Nat.le_of_ble_eq_true rfl, Nat.le_of_ble_eq_true rfl⟩ (fun r5 M4 H locs hw h => ?_)
    refine lv_if_ne (tgt := 25) hx hb dX7_limb_20 (by decide) (fun hc => ?_) (fun hc => ?_)
    · have h := h.1 hc
      refine lv_iload_n hx hb dX7_limb_25 rfl (lv_at hl 3 rfl) ?_
      refine lv_i2l hx hb dX7_limb_26 rfl ?_
      refine lv_lconst (v := (0 : Int64)) hx hb dX7_limb_27 (by decide) ?_
      refine lv_aload_n hx hb dX7_limb_28 rfl (lv_at hl 0 rfl) ?_
      refine zr_ga (C := RX7) (T := TX7) (N := 14) (ci := 10) (k := 4) S hK hw zi_X7 rfl (by decide) zu_486 dX7_limb_29 h (fun keptSize_6 h => ?_)
      refine lv_iconst (v := (2 : Int32)) hx hb dX7_limb_32 (by decide) ?_
      refine lv_iload_n hx hb dX7_limb_33 rfl (lv_at hl 1 rfl) ?_
      refine lv_imul hx hb dX7_limb_34 ?_
      refine lv_iload_n hx hb dX7_limb_35 rfl (lv_at hl 2 rfl) ?_
      refine lv_iadd hx hb dX7_limb_36 ?_
      refine zr_iald S hK hw dX7_limb_37 h (fun e7 h => ?_)
      refine lv_iconst (v := (1 : Int32)) hx hb dX7_limb_38 (by decide) ?_
      refine lv_isub hx hb dX7_limb_39 ?_
      refine lv_i2l hx hb dX7_limb_40 rfl ?_
      refine zr_Si (As := [.long (a3.toInt64), .long (0 : Int64), .long ((e7 - (1 : Int32)).toInt64)]) (rest := []) S hK hw (kX7_in l lo g M4 (a3.toInt64) (0 : Int64) ((e7 - (1 : Int32)).toInt64) _ h) (va_cwS 3 hts (zg_S zu_482 zu_483 zu_450 zu_484) rfl rfl rfl (by decide +kernel) ⟨Nat.le_of_ble_eq_true rfl, Nat.le_of_ble_eq_true rfl⟩) rfl hl.1 rfl (Nat.le_of_ble_eq_true rfl) dX7_limb_41 ⟨Nat.le_of_ble_eq_true rfl, Nat.le_of_ble_eq_true rfl⟩ (fun r9 M8 H locs hw h => ?_)
      refine lv_if_ne (tgt := 54) hx hb dX7_limb_44 (by decide) (fun hc => ?_) (fun hc => ?_)
      · have h := h.1 hc
        refine lv_aload_n hx hb dX7_limb_54 rfl (lv_at hl 0 rfl) ?_
        refine zr_ga (C := RX7) (T := TX7) (N := 14) (ci := 10) (k := 3) S hK hw zi_X7 rfl (by decide) zu_487 dX7_limb_55 h (fun keptLimb_10 h => ?_)
        refine lv_bipush (v := (16 : Int32)) hx hb dX7_limb_58 (by decide) ?_
        refine lv_iconst (v := (2 : Int32)) hx hb dX7_limb_60 (by decide) ?_
        refine lv_iload_n hx hb dX7_limb_61 rfl (lv_at hl 1 rfl) ?_
        refine lv_imul hx hb dX7_limb_62 ?_
        refine lv_iload_n hx hb dX7_limb_63 rfl (lv_at hl 2 rfl) ?_
        refine lv_iadd hx hb dX7_limb_64 ?_
        refine lv_imul hx hb dX7_limb_65 ?_
        refine lv_iload_n hx hb dX7_limb_66 rfl (lv_at hl 3 rfl) ?_
        refine lv_iadd hx hb dX7_limb_67 ?_
        refine zr_lald S hK hw dX7_limb_68 h (fun e11 h => ?_)
        refine lv_l2i hx hb dX7_limb_69 rfl ?_
        exact zr_ri S hr hlocks hw h dX7_limb_70
      · have h := h.2 hc
        refine lv_aload_n hx hb dX7_limb_47 rfl (lv_at hl 0 rfl) ?_
        refine lv_iconst (v := (1 : Int32)) hx hb dX7_limb_48 (by decide) ?_
        refine zr_p (C := RX7) (T := TX7) (N := 14) (ci := 10) (k := 0) S hK hw zi_X7 tyX7 tyX7_ok nmX7 rfl (by decide) zu_443 rfl rfl rfl dX7_limb_49 h (fun M12 H locs hw h => ?_)
        refine lv_iconst (v := (0 : Int32)) hx hb dX7_limb_52 (by decide) ?_
        exact zr_ri S hr hlocks hw h dX7_limb_53
    · have h := h.2 hc
      refine lv_iconst (v := (-1 : Int32)) hx hb dX7_limb_23 (by decide) ?_
      exact zr_ri S hr hlocks hw h dX7_limb_24
set_option maxHeartbeats 4000000 in
set_option maxRecDepth 100000 in
theorem kX7_nextTerm (l : Launch) (lo : Nat) (g : zg) (M : zm_M) (a0 : Nat) (post : zm_M → Prop) (h : pX7_nextTerm g.2 a0 post M) : Met l yX7_nextTerm (Cond.code yX7_nextTerm cX7_nextTerm 1 none :: zU) (({ frames := 4, cells := 0, slots := 0, locals := 112 } : Room)) (zc_P zNF zNM lo g M [.ref a0]) (va_Qv post (zc_B lo g) (zA lo)) 0 0 (zA lo) := by
  refine Met.ofW (cc := cX7_nextTerm) (maxL := 1) (ret := none) (by decide) rfl ?_
  intro p e s m args below meth c s₁ B hml hv
  obtain ⟨rfl, hR, hK⟩ := hv
  have hts := atoms_spec (ws := Cond.code yX7_nextTerm cX7_nextTerm 1 none :: zU) B.pre
  have hts : ∀ w ∈ zU, w.before _ s = true := fun w hw => hts w (List.mem_cons_of_mem _ hw)
  have hown : s.vm.findClass RX7 = some m.cls := findClass_of_methodNamed B.named
  have hx := B.exec
  have hb := B.bytes
  have hr := B.returns
  have hlocks := B.notSynchronized
  have S : CallFix p m c cX7_nextTerm 1 s ([.ref a0] : List Value).toArray zU RX7 := ⟨hx, hb, hml, hown, hts⟩
  have hw : zW lo g s s.heap [] M := ⟨hR, va_S.rf⟩
  have hl := lv_entry ([.ref a0]) (n := 1) (Nat.le_of_ble_eq_true rfl)
  rw [lg_entry_eq]
  generalize (lg_sl ([.ref a0]) ++ List.replicate (1 - (lg_sl ([.ref a0])).length) Slot.unset).toArray = ls at hl ⊢
  have hl : lv_has ls 1 [(0, .ref a0)] := hl
  unfold pX7_nextTerm at h
  refine lv_aload_n hx hb dX7_nextTerm_0 rfl (lv_at hl 0 rfl) ?_
  refine lv_bipush (v := (10 : Int32)) hx hb dX7_nextTerm_1 (by decide) ?_
  refine lv_bipush (v := (13 : Int32)) hx hb dX7_nextTerm_3 (by decide) ?_
  refine lv_bipush (v := (11 : Int32)) hx hb dX7_nextTerm_5 (by decide) ?_
  refine lv_bipush (v := (12 : Int32)) hx hb dX7_nextTerm_7 (by decide) ?_
  obtain ⟨ho, h⟩ := h
  refine zr_Vv (As := [.int (10 : Int32), .int (13 : Int32), .int (11 : Int32), .int (12 : Int32)]) (rest := []) S hK hw (kX7_divide l lo g M a0 (10 : Int32) (13 : Int32) (11 : Int32) (12 : Int32) _ h) (cwV 4 hts (zg_V zu_501 zu_502 zu_503 zu_450 zu_504) rfl rfl rfl (by decide +kernel) ⟨Nat.le_of_ble_eq_true rfl, Nat.le_of_ble_eq_true rfl⟩) (ci := 10) rfl ho rfl hl.1 rfl (Nat.le_of_ble_eq_true rfl) dX7_nextTerm_9 ⟨Nat.le_of_ble_eq_true rfl, Nat.le_of_ble_eq_true rfl⟩ (fun M1 H locs hw h => ?_)
  refine lv_aload_n hx hb dX7_nextTerm_12 rfl (lv_at hl 0 rfl) ?_
  refine lv_bipush (v := (11 : Int32)) hx hb dX7_nextTerm_13 (by decide) ?_
  refine lv_bipush (v := (12 : Int32)) hx hb dX7_nextTerm_15 (by decide) ?_
  obtain ⟨ho, h⟩ := h
  refine zr_Vv (As := [.int (11 : Int32), .int (12 : Int32)]) (rest := []) S hK hw (kX7_copy l lo g M1 a0 (11 : Int32) (12 : Int32) _ h) (cwV 2 hts (zg_V zu_465 zu_466 zu_467 zu_450 zu_468) rfl rfl rfl (by decide +kernel) ⟨Nat.le_of_ble_eq_true rfl, Nat.le_of_ble_eq_true rfl⟩) (ci := 10) rfl ho rfl hl.1 rfl (Nat.le_of_ble_eq_true rfl) dX7_nextTerm_17 ⟨Nat.le_of_ble_eq_true rfl, Nat.le_of_ble_eq_true rfl⟩ (fun M2 H locs hw h => ?_)
  refine lv_aload_n hx hb dX7_nextTerm_20 rfl (lv_at hl 0 rfl) ?_
  refine lv_bipush (v := (12 : Int32)) hx hb dX7_nextTerm_21 (by decide) ?_
  refine lv_bipush (v := (13 : Int32)) hx hb dX7_nextTerm_23 (by decide) ?_
  obtain ⟨ho, h⟩ := h
  refine zr_Vv (As := [.int (12 : Int32), .int (13 : Int32)]) (rest := []) S hK hw (kX7_copy l lo g M2 a0 (12 : Int32) (13 : Int32) _ h) (cwV 2 hts (zg_V zu_465 zu_466 zu_467 zu_450 zu_468) rfl rfl rfl (by decide +kernel) ⟨Nat.le_of_ble_eq_true rfl, Nat.le_of_ble_eq_true rfl⟩) (ci := 10) rfl ho rfl hl.1 rfl (Nat.le_of_ble_eq_true rfl) dX7_nextTerm_25 ⟨Nat.le_of_ble_eq_true rfl, Nat.le_of_ble_eq_true rfl⟩ (fun M3 H locs hw h => ?_)
  exact zr_rv S hr hlocks hw h dX7_nextTerm_28
set_option maxHeartbeats 4000000 in
set_option maxRecDepth 100000 in
theorem sX7_terms_23 {p : Program} {l : Launch} {e : Env} {s : State} {m : MethodId} {args : Array Value} {below : List Frame} {meth : Method} {c : Code} {lo : Nat} {g : zg} {post : Int32 → zm_M → Prop} {k43 : Int32 → Int32 → zm_M → Prop} (S : CallFix p m c cX7_terms 4 s args zU RX7) (hr : meth.sig.returnType = (some .int)) (hlocks : meth.locks = false) (hK : zk_K zNF zNM g s) (hk43 : ∀ (v2 : Int32) (v3 : Int32) (M : zm_M), k43 v2 v3 M → ∀ (H : Heap) (locs : List Loc) (ls : Array Slot), zW lo g s H locs M → lv_has ls 4 [(2, .int v2), (3, .int v3)] → W p l e ({ frames := 5, cells := 0, slots := 0, locals := 133 } : Room) s m args below meth c H locs 0 0 (MQ below (va_Qi post (zc_B lo g) (zA lo)) args s 0 0 (zA lo)) (F0 m 43 ls [])) : ∀ (n : Nat) (v0 : Nat) (v2 : Int32) (v3 : Int32) (M : zm_M), pX7_terms_23 g.2 post k43 n v0 v2 v3 M → ∀ (H : Heap) (locs : List Loc) (ls : Array Slot), zW lo g s H locs M → lv_has ls 4 [(0, .ref v0), (2, .int v2), (3, .int v3)] → W p l e ({ frames := 5, cells := 0, slots := 0, locals := 133 } : Room) s m args below meth c H locs 0 0 (MQ below (va_Qi post (zc_B lo g) (zA lo)) args s 0 0 (zA lo)) (F0 m 23 ls []) := by
  obtain ⟨hx, hb, hml, hown, hts⟩ := id S
  intro n
  induction n with
  | zero =>
    intro v0 v2 v3 M h
    exact False.elim h
  | succ n23 ih =>
    intro v0 v2 v3 M h H locs ls hw hl
    rw [pX7_terms_23] at h
    refine lv_aload_n hx hb dX7_terms_23 rfl (lv_at hl 0 rfl) ?_
    refine zr_ga (C := RX7) (T := TX7) (N := 14) (ci := 10) (k := 10) S hK hw zi_X7 rfl (by decide) zu_444 dX7_terms_24 h (fun n_7 h => ?_)
    refine lv_bipush (v := (12 : Int32)) hx hb dX7_terms_27 (by decide) ?_
    refine zr_iald S hK hw dX7_terms_29 h (fun e8 h => ?_)
    refine lv_if_le (tgt := 43) hx hb dX7_terms_30 (by decide) (fun hc => ?_) (fun hc => ?_)
    · have h := h.1 hc
      exact hk43 v2 v3 _ h _ _ _ hw (lv_sub hl [1, 2] rfl)
    · have h := h.2 hc
      refine lv_aload_n hx hb dX7_terms_33 rfl (lv_at hl 0 rfl) ?_
      obtain ⟨ho, h⟩ := h
      refine zr_Vv (As := []) (rest := []) S hK hw (kX7_nextTerm l lo g M v0  _ h) (cwV 0 hts (zg_V zu_556 zu_557 zu_558 zu_450 zu_559) rfl rfl rfl (by decide +kernel) ⟨Nat.le_of_ble_eq_true rfl, Nat.le_of_ble_eq_true rfl⟩) (ci := 10) rfl ho rfl hl.1 rfl (Nat.le_of_ble_eq_true rfl) dX7_terms_34 ⟨Nat.le_of_ble_eq_true rfl, Nat.le_of_ble_eq_true rfl⟩ (fun M9 H locs hw h => ?_)
      obtain ⟨x10, ex10⟩ : ∃ z : Int32, z = v3 + (1 : Int32) := ⟨_, rfl⟩
      have h := h x10 ex10
      refine lv_iinc (v := x10) (lv' := [(3, .int x10), (0, .ref v0), (2, .int v2)]) hx hb dX7_terms_37 hl (k := 2) rfl (by rw [ex10]; rfl) (by decide) rfl (fun ls hl => ?_)
      refine lv_goto (tgt := 23) hx hb dX7_terms_40 (by decide) ?_
      exact ih v0 v2 x10 _ h _ _ _ hw (lv_sub hl [1, 2, 0] rfl)
set_option maxHeartbeats 4000000 in
set_option maxRecDepth 100000 in
theorem kX7_terms (l : Launch) (lo : Nat) (g : zg) (M : zm_M) (a0 : Nat) (a1 : Int32) (post : Int32 → zm_M → Prop) (h : pX7_terms g.2 a0 a1 post M) : Met l yX7_terms (Cond.code yX7_terms cX7_terms 4 (some .int) :: zU) (({ frames := 5, cells := 0, slots := 0, locals := 133 } : Room)) (zc_P zNF zNM lo g M [.ref a0, .int a1]) (va_Qi post (zc_B lo g) (zA lo)) 0 0 (zA lo) := by
  refine Met.ofW (cc := cX7_terms) (maxL := 4) (ret := (some .int)) (by decide) rfl ?_
  intro p e s m args below meth c s₁ B hml hv
  obtain ⟨rfl, hR, hK⟩ := hv
  have hts := atoms_spec (ws := Cond.code yX7_terms cX7_terms 4 (some .int) :: zU) B.pre
  have hts : ∀ w ∈ zU, w.before _ s = true := fun w hw => hts w (List.mem_cons_of_mem _ hw)
  have hown : s.vm.findClass RX7 = some m.cls := findClass_of_methodNamed B.named
  have hx := B.exec
  have hb := B.bytes
  have hr := B.returns
  have hlocks := B.notSynchronized
  have S : CallFix p m c cX7_terms 4 s ([.ref a0, .int a1] : List Value).toArray zU RX7 := ⟨hx, hb, hml, hown, hts⟩
  have hw : zW lo g s s.heap [] M := ⟨hR, va_S.rf⟩
  have hl := lv_entry ([.ref a0, .int a1]) (n := 4) (Nat.le_of_ble_eq_true rfl)
  rw [lg_entry_eq]
  generalize (lg_sl ([.ref a0, .int a1]) ++ List.replicate (4 - (lg_sl ([.ref a0, .int a1])).length) Slot.unset).toArray = ls at hl ⊢
  have hl : lv_has ls 4 [(0, .ref a0), (1, .int a1)] := hl
  unfold pX7_terms at h
  refine lv_aload_n hx hb dX7_terms_0 rfl (lv_at hl 0 rfl) ?_
  refine lv_iconst (v := (0 : Int32)) hx hb dX7_terms_1 (by decide) ?_
  refine zr_p (C := RX7) (T := TX7) (N := 14) (ci := 10) (k := 0) S hK hw zi_X7 tyX7 tyX7_ok nmX7 rfl (by decide) zu_443 rfl rfl rfl dX7_terms_2 h (fun M1 H locs hw h => ?_)
  refine lv_aload_n hx hb dX7_terms_5 rfl (lv_at hl 0 rfl) ?_
  refine lv_iload_n hx hb dX7_terms_6 rfl (lv_at hl 1 rfl) ?_
  obtain ⟨ho, h⟩ := h
  refine zr_Vi (As := [.int a1]) (rest := []) S hK hw (kX7_isNumber l lo g M1 a0 a1 _ h) (cwV 1 hts (zg_V zu_517 zu_518 zu_519 zu_450 zu_520) rfl rfl rfl (by decide +kernel) ⟨Nat.le_of_ble_eq_true rfl, Nat.le_of_ble_eq_true rfl⟩) (ci := 10) rfl ho rfl hl.1 rfl (Nat.le_of_ble_eq_true rfl) dX7_terms_7 ⟨Nat.le_of_ble_eq_true rfl, Nat.le_of_ble_eq_true rfl⟩ (fun r3 M2 H locs hw h => ?_)
  refine lv_if_ne (tgt := 15) hx hb dX7_terms_10 (by decide) (fun hc => ?_) (fun hc => ?_)
  · have h := h.1 hc
    refine lv_aload_n hx hb dX7_terms_15 rfl (lv_at hl 0 rfl) ?_
    refine lv_iload_n hx hb dX7_terms_16 rfl (lv_at hl 1 rfl) ?_
    obtain ⟨ho, h⟩ := h
    refine zr_Vi (As := [.int a1]) (rest := []) S hK hw (kX7_floor l lo g M2 a0 a1 _ h) (cwV 1 hts (zg_V zu_544 zu_545 zu_546 zu_450 zu_547) rfl rfl rfl (by decide +kernel) ⟨Nat.le_of_ble_eq_true rfl, Nat.le_of_ble_eq_true rfl⟩) (ci := 10) rfl ho rfl hl.1 rfl (Nat.le_of_ble_eq_true rfl) dX7_terms_17 ⟨Nat.le_of_ble_eq_true rfl, Nat.le_of_ble_eq_true rfl⟩ (fun r5 M4 H locs hw h => ?_)
    refine lv_istore_n (lv' := [(2, .int r5), (0, .ref a0), (1, .int a1)]) hx hb dX7_terms_20 rfl hl (by decide) rfl (fun ls hl => ?_)
    refine lv_iconst (v := (1 : Int32)) hx hb dX7_terms_21 (by decide) ?_
    refine lv_topi (fun x6 ex6 => ?_)
    have h := h x6 ex6
    refine lv_istore_n (lv' := [(3, .int x6), (2, .int r5), (0, .ref a0), (1, .int a1)]) hx hb dX7_terms_22 rfl hl (by decide) rfl (fun ls hl => ?_)
    obtain ⟨n23, h⟩ := h
    refine sX7_terms_23 S hr hlocks hK (fun w11 w12 M13 h H locs ls hw hl => ?_) n23 a0 r5 x6 _ h _ _ _ hw (lv_sub hl [2, 1, 0] rfl)
    refine lv_iload_n hx hb dX7_terms_43 rfl (lv_at hl 0 rfl) ?_
    refine lv_if_ne (tgt := 51) hx hb dX7_terms_44 (by decide) (fun hc => ?_) (fun hc => ?_)
    · have h := h.1 hc
      refine lv_iload_n hx hb dX7_terms_51 rfl (lv_at hl 1 rfl) ?_
      exact zr_ri S hr hlocks hw h dX7_terms_52
    · have h := h.2 hc
      refine lv_iconst (v := (-1 : Int32)) hx hb dX7_terms_47 (by decide) ?_
      refine lv_goto (tgt := 52) hx hb dX7_terms_48 (by decide) ?_
      exact zr_ri S hr hlocks hw h dX7_terms_52
  · have h := h.2 hc
    refine lv_iconst (v := (-1 : Int32)) hx hb dX7_terms_13 (by decide) ?_
    exact zr_ri S hr hlocks hw h dX7_terms_14
set_option maxHeartbeats 4000000 in
set_option maxRecDepth 100000 in
theorem sX7_term_28 {p : Program} {l : Launch} {e : Env} {s : State} {m : MethodId} {args : Array Value} {below : List Frame} {meth : Method} {c : Code} {lo : Nat} {g : zg} {post : Int32 → zm_M → Prop} {k58 : Nat → Int32 → zm_M → Prop} (S : CallFix p m c cX7_term 5 s args zU RX7) (hr : meth.sig.returnType = (some .int)) (hlocks : meth.locks = false) (hK : zk_K zNF zNM g s) (hk58 : ∀ (v0 : Nat) (v3 : Int32) (M : zm_M), k58 v0 v3 M → ∀ (H : Heap) (locs : List Loc) (ls : Array Slot), zW lo g s H locs M → lv_has ls 5 [(0, .ref v0), (3, .int v3)] → W p l e ({ frames := 5, cells := 0, slots := 0, locals := 133 } : Room) s m args below meth c H locs 0 0 (MQ below (va_Qi post (zc_B lo g) (zA lo)) args s 0 0 (zA lo)) (F0 m 58 ls [])) : ∀ (n : Nat) (v0 : Nat) (v2 : Int32) (v3 : Int32) (v4 : Int32) (M : zm_M), pX7_term_28 g.2 post k58 n v0 v2 v3 v4 M → ∀ (H : Heap) (locs : List Loc) (ls : Array Slot), zW lo g s H locs M → lv_has ls 5 [(0, .ref v0), (2, .int v2), (3, .int v3), (4, .int v4)] → W p l e ({ frames := 5, cells := 0, slots := 0, locals := 133 } : Room) s m args below meth c H locs 0 0 (MQ below (va_Qi post (zc_B lo g) (zA lo)) args s 0 0 (zA lo)) (F0 m 28 ls []) := by
  obtain ⟨hx, hb, hml, hown, hts⟩ := id S
  intro n
  induction n with
  | zero =>
    intro v0 v2 v3 v4 M h
    exact False.elim h
  | succ n28 ih =>
    intro v0 v2 v3 v4 M h H locs ls hw hl
    rw [pX7_term_28] at h
    refine lv_iload hx hb dX7_term_28 (lv_at hl 3 rfl) ?_
    refine lv_iload_n hx hb dX7_term_30 rfl (lv_at hl 1 rfl) ?_
    refine lv_icmp_ge (tgt := 58) hx hb dX7_term_31 (by decide) (fun hc => ?_) (fun hc => ?_)
    · have h := h.1 hc
      exact hk58 v0 v3 _ h _ _ _ hw (lv_sub hl [0, 2] rfl)
    · have h := h.2 hc
      refine lv_aload_n hx hb dX7_term_34 rfl (lv_at hl 0 rfl) ?_
      refine zr_ga (C := RX7) (T := TX7) (N := 14) (ci := 10) (k := 10) S hK hw zi_X7 rfl (by decide) zu_444 dX7_term_35 h (fun n_7 h => ?_)
      refine lv_bipush (v := (12 : Int32)) hx hb dX7_term_38 (by decide) ?_
      refine zr_iald S hK hw dX7_term_40 h (fun e8 h => ?_)
      refine lv_if_ne (tgt := 46) hx hb dX7_term_41 (by decide) (fun hc => ?_) (fun hc => ?_)
      · have h := h.1 hc
        refine lv_aload_n hx hb dX7_term_46 rfl (lv_at hl 0 rfl) ?_
        obtain ⟨ho, h⟩ := h
        refine zr_Vv (As := []) (rest := []) S hK hw (kX7_nextTerm l lo g M v0  _ h) (cwV 0 hts (zg_V zu_556 zu_557 zu_558 zu_450 zu_559) rfl rfl rfl (by decide +kernel) ⟨Nat.le_of_ble_eq_true rfl, Nat.le_of_ble_eq_true rfl⟩) (ci := 10) rfl ho rfl hl.1 rfl (Nat.le_of_ble_eq_true rfl) dX7_term_47 ⟨Nat.le_of_ble_eq_true rfl, Nat.le_of_ble_eq_true rfl⟩ (fun M9 H locs hw h => ?_)
        refine lv_iconst (v := (1 : Int32)) hx hb dX7_term_50 (by decide) ?_
        refine lv_topi (fun x10 ex10 => ?_)
        have h := h x10 ex10
        refine lv_istore_n (lv' := [(3, .int x10), (0, .ref v0), (2, .int v2), (4, .int v4)]) hx hb dX7_term_51 rfl hl (by decide) rfl (fun ls hl => ?_)
        obtain ⟨x11, ex11⟩ : ∃ z : Int32, z = v4 + (1 : Int32) := ⟨_, rfl⟩
        have h := h x11 ex11
        refine lv_iinc (v := x11) (lv' := [(4, .int x11), (3, .int x10), (0, .ref v0), (2, .int v2)]) hx hb dX7_term_52 hl (k := 3) rfl (by rw [ex11]; rfl) (by decide) rfl (fun ls hl => ?_)
        refine lv_goto (tgt := 28) hx hb dX7_term_55 (by decide) ?_
        exact ih v0 v2 x10 x11 _ h _ _ _ hw (lv_sub hl [2, 3, 1, 0] rfl)
      · have h := h.2 hc
        refine lv_iconst (v := (-1 : Int32)) hx hb dX7_term_44 (by decide) ?_
        exact zr_ri S hr hlocks hw h dX7_term_45
set_option maxHeartbeats 4000000 in
set_option maxRecDepth 100000 in
theorem kX7_term (l : Launch) (lo : Nat) (g : zg) (M : zm_M) (a0 : Nat) (a1 : Int32) (a2 : Int32) (post : Int32 → zm_M → Prop) (h : pX7_term g.2 a0 a1 a2 post M) : Met l yX7_term (Cond.code yX7_term cX7_term 5 (some .int) :: zU) (({ frames := 5, cells := 0, slots := 0, locals := 133 } : Room)) (zc_P zNF zNM lo g M [.ref a0, .int a1, .int a2]) (va_Qi post (zc_B lo g) (zA lo)) 0 0 (zA lo) := by
  refine Met.ofW (cc := cX7_term) (maxL := 5) (ret := (some .int)) (by decide) rfl ?_
  intro p e s m args below meth c s₁ B hml hv
  obtain ⟨rfl, hR, hK⟩ := hv
  have hts := atoms_spec (ws := Cond.code yX7_term cX7_term 5 (some .int) :: zU) B.pre
  have hts : ∀ w ∈ zU, w.before _ s = true := fun w hw => hts w (List.mem_cons_of_mem _ hw)
  have hown : s.vm.findClass RX7 = some m.cls := findClass_of_methodNamed B.named
  have hx := B.exec
  have hb := B.bytes
  have hr := B.returns
  have hlocks := B.notSynchronized
  have S : CallFix p m c cX7_term 5 s ([.ref a0, .int a1, .int a2] : List Value).toArray zU RX7 := ⟨hx, hb, hml, hown, hts⟩
  have hw : zW lo g s s.heap [] M := ⟨hR, va_S.rf⟩
  have hl := lv_entry ([.ref a0, .int a1, .int a2]) (n := 5) (Nat.le_of_ble_eq_true rfl)
  rw [lg_entry_eq]
  generalize (lg_sl ([.ref a0, .int a1, .int a2]) ++ List.replicate (5 - (lg_sl ([.ref a0, .int a1, .int a2])).length) Slot.unset).toArray = ls at hl ⊢
  have hl : lv_has ls 5 [(0, .ref a0), (1, .int a1), (2, .int a2)] := hl
  unfold pX7_term at h
  refine lv_aload_n hx hb dX7_term_0 rfl (lv_at hl 0 rfl) ?_
  refine lv_iconst (v := (0 : Int32)) hx hb dX7_term_1 (by decide) ?_
  refine zr_p (C := RX7) (T := TX7) (N := 14) (ci := 10) (k := 0) S hK hw zi_X7 tyX7 tyX7_ok nmX7 rfl (by decide) zu_443 rfl rfl rfl dX7_term_2 h (fun M1 H locs hw h => ?_)
  refine lv_aload_n hx hb dX7_term_5 rfl (lv_at hl 0 rfl) ?_
  refine lv_iload_n hx hb dX7_term_6 rfl (lv_at hl 1 rfl) ?_
  obtain ⟨ho, h⟩ := h
  refine zr_Vi (As := [.int a1]) (rest := []) S hK hw (kX7_isNumber l lo g M1 a0 a1 _ h) (cwV 1 hts (zg_V zu_517 zu_518 zu_519 zu_450 zu_520) rfl rfl rfl (by decide +kernel) ⟨Nat.le_of_ble_eq_true rfl, Nat.le_of_ble_eq_true rfl⟩) (ci := 10) rfl ho rfl hl.1 rfl (Nat.le_of_ble_eq_true rfl) dX7_term_7 ⟨Nat.le_of_ble_eq_true rfl, Nat.le_of_ble_eq_true rfl⟩ (fun r3 M2 H locs hw h => ?_)
  refine lv_if_eq (tgt := 17) hx hb dX7_term_10 (by decide) (fun hc => ?_) (fun hc => ?_)
  · have h := h.1 hc
    refine lv_iconst (v := (-1 : Int32)) hx hb dX7_term_17 (by decide) ?_
    exact zr_ri S hr hlocks hw h dX7_term_18
  · have h := h.2 hc
    refine lv_iload_n hx hb dX7_term_13 rfl (lv_at hl 2 rfl) ?_
    refine lv_if_ge (tgt := 19) hx hb dX7_term_14 (by decide) (fun hc => ?_) (fun hc => ?_)
    · have h := h.1 hc
      refine lv_aload_n hx hb dX7_term_19 rfl (lv_at hl 0 rfl) ?_
      refine lv_iload_n hx hb dX7_term_20 rfl (lv_at hl 1 rfl) ?_
      obtain ⟨ho, h⟩ := h
      refine zr_Vi (As := [.int a1]) (rest := []) S hK hw (kX7_floor l lo g M2 a0 a1 _ h) (cwV 1 hts (zg_V zu_544 zu_545 zu_546 zu_450 zu_547) rfl rfl rfl (by decide +kernel) ⟨Nat.le_of_ble_eq_true rfl, Nat.le_of_ble_eq_true rfl⟩) (ci := 10) rfl ho rfl hl.1 rfl (Nat.le_of_ble_eq_true rfl) dX7_term_21 ⟨Nat.le_of_ble_eq_true rfl, Nat.le_of_ble_eq_true rfl⟩ (fun r5 M4 H locs hw h => ?_)
      refine lv_istore_n (lv' := [(3, .int r5), (0, .ref a0), (1, .int a1), (2, .int a2)]) hx hb dX7_term_24 rfl hl (by decide) rfl (fun ls hl => ?_)
      refine lv_iconst (v := (0 : Int32)) hx hb dX7_term_25 (by decide) ?_
      refine lv_topi (fun x6 ex6 => ?_)
      have h := h x6 ex6
      refine lv_istore (lv' := [(4, .int x6), (3, .int r5), (0, .ref a0), (1, .int a1), (2, .int a2)]) hx hb dX7_term_26 hl (by decide) rfl (fun ls hl => ?_)
      obtain ⟨n28, h⟩ := h
      refine sX7_term_28 S hr hlocks hK (fun w12 w13 M14 h H locs ls hw hl => ?_) n28 a0 a2 r5 x6 _ h _ _ _ hw (lv_sub hl [2, 4, 1, 0] rfl)
      refine lv_aload_n hx hb dX7_term_58 rfl (lv_at hl 0 rfl) ?_
      obtain ⟨ho, h⟩ := h
      refine zr_Vi (As := []) (rest := []) S hK hw (kX7_free l lo g M14 w12  _ h) (cwV 0 hts (zg_V zu_492 zu_493 zu_494 zu_450 zu_495) rfl rfl rfl (by decide +kernel) ⟨Nat.le_of_ble_eq_true rfl, Nat.le_of_ble_eq_true rfl⟩) (ci := 10) rfl ho rfl hl.1 rfl (Nat.le_of_ble_eq_true rfl) dX7_term_59 ⟨Nat.le_of_ble_eq_true rfl, Nat.le_of_ble_eq_true rfl⟩ (fun r16 M15 H locs hw h => ?_)
      refine lv_bipush (v := (-3 : Int32)) hx hb dX7_term_62 (by decide) ?_
      refine lv_icmp_ne (tgt := 72) hx hb dX7_term_64 (by decide) (fun hc => ?_) (fun hc => ?_)
      · have h := h.1 hc
        refine lv_aload_n hx hb dX7_term_72 rfl (lv_at hl 0 rfl) ?_
        refine lv_bipush (v := (10 : Int32)) hx hb dX7_term_73 (by decide) ?_
        refine lv_iload_n hx hb dX7_term_75 rfl (lv_at hl 1 rfl) ?_
        obtain ⟨ho, h⟩ := h
        refine zr_Vi (As := [.int (10 : Int32), .int w13]) (rest := []) S hK hw (kX7_keepWhole l lo g M15 w12 (10 : Int32) w13 _ h) (cwV 2 hts (zg_V zu_513 zu_514 zu_515 zu_450 zu_516) rfl rfl rfl (by decide +kernel) ⟨Nat.le_of_ble_eq_true rfl, Nat.le_of_ble_eq_true rfl⟩) (ci := 10) rfl ho rfl hl.1 rfl (Nat.le_of_ble_eq_true rfl) dX7_term_76 ⟨Nat.le_of_ble_eq_true rfl, Nat.le_of_ble_eq_true rfl⟩ (fun r18 M17 H locs hw h => ?_)
        exact zr_ri S hr hlocks hw h dX7_term_79
      · have h := h.2 hc
        refine lv_bipush (v := (-3 : Int32)) hx hb dX7_term_67 (by decide) ?_
        refine lv_goto (tgt := 79) hx hb dX7_term_69 (by decide) ?_
        exact zr_ri S hr hlocks hw h dX7_term_79
    · have h := h.2 hc
      refine lv_iconst (v := (-1 : Int32)) hx hb dX7_term_17 (by decide) ?_
      exact zr_ri S hr hlocks hw h dX7_term_18
set_option maxHeartbeats 4000000 in
set_option maxRecDepth 100000 in
theorem sX7_keepMixed_47 {p : Program} {l : Launch} {e : Env} {s : State} {m : MethodId} {args : Array Value} {below : List Frame} {meth : Method} {c : Code} {lo : Nat} {g : zg} {post : Int32 → zm_M → Prop}  (S : CallFix p m c cX7_keepMixed 3 s args zU RX7) (hr : meth.sig.returnType = (some .int)) (hlocks : meth.locks = false) (hK : zk_K zNF zNM g s)  : ∀ (v0 : Nat) (v2 : Int32) (M : zm_M), pX7_keepMixed_47 g.2 post  v0 v2 M → ∀ (H : Heap) (locs : List Loc) (ls : Array Slot), zW lo g s H locs M → lv_has ls 3 [(0, .ref v0), (2, .int v2)] → W p l e ({ frames := 3, cells := 0, slots := 0, locals := 89 } : Room) s m args below meth c H locs 0 0 (MQ below (va_Qi post (zc_B lo g) (zA lo)) args s 0 0 (zA lo)) (F0 m 47 ls []) := by
  obtain ⟨hx, hb, hml, hown, hts⟩ := id S
  intro v0 v2 M h H locs ls hw hl
  unfold pX7_keepMixed_47 at h
  refine lv_aload_n hx hb dX7_keepMixed_47 rfl (lv_at hl 0 rfl) ?_
  refine lv_iload_n hx hb dX7_keepMixed_48 rfl (lv_at hl 1 rfl) ?_
  obtain ⟨ho, h⟩ := h
  refine zr_Vi (As := [.int v2]) (rest := []) S hK hw (kX7_keep l lo g M v0 v2 _ h) (cwV 1 hts (zg_V zu_505 zu_506 zu_507 zu_450 zu_508) rfl rfl rfl (by decide +kernel) ⟨Nat.le_of_ble_eq_true rfl, Nat.le_of_ble_eq_true rfl⟩) (ci := 10) rfl ho rfl hl.1 rfl (Nat.le_of_ble_eq_true rfl) dX7_keepMixed_49 ⟨Nat.le_of_ble_eq_true rfl, Nat.le_of_ble_eq_true rfl⟩ (fun r6 M5 H locs hw h => ?_)
  exact zr_ri S hr hlocks hw h dX7_keepMixed_52
set_option maxHeartbeats 4000000 in
set_option maxRecDepth 100000 in
theorem sX7_keepMixed_39 {p : Program} {l : Launch} {e : Env} {s : State} {m : MethodId} {args : Array Value} {below : List Frame} {meth : Method} {c : Code} {lo : Nat} {g : zg} {post : Int32 → zm_M → Prop}  (S : CallFix p m c cX7_keepMixed 3 s args zU RX7) (hr : meth.sig.returnType = (some .int)) (hlocks : meth.locks = false) (hK : zk_K zNF zNM g s)  : ∀ (v0 : Nat) (M : zm_M), pX7_keepMixed_39 g.2 post  v0 M → ∀ (H : Heap) (locs : List Loc) (ls : Array Slot), zW lo g s H locs M → lv_has ls 3 [(0, .ref v0)] → W p l e ({ frames := 3, cells := 0, slots := 0, locals := 89 } : Room) s m args below meth c H locs 0 0 (MQ below (va_Qi post (zc_B lo g) (zA lo)) args s 0 0 (zA lo)) (F0 m 39 ls []) := by
  obtain ⟨hx, hb, hml, hown, hts⟩ := id S
  intro v0 M h H locs ls hw hl
  unfold pX7_keepMixed_39 at h
  refine lv_aload_n hx hb dX7_keepMixed_39 rfl (lv_at hl 0 rfl) ?_
  refine lv_iconst (v := (0 : Int32)) hx hb dX7_keepMixed_40 (by decide) ?_
  refine lv_iconst (v := (2 : Int32)) hx hb dX7_keepMixed_41 (by decide) ?_
  obtain ⟨ho, h⟩ := h
  refine zr_Vv (As := [.int (0 : Int32), .int (2 : Int32)]) (rest := []) S hK hw (kX7_add l lo g M v0 (0 : Int32) (2 : Int32) _ h) (cwV 2 hts (zg_V zu_533 zu_534 zu_535 zu_450 zu_536) rfl rfl rfl (by decide +kernel) ⟨Nat.le_of_ble_eq_true rfl, Nat.le_of_ble_eq_true rfl⟩) (ci := 10) rfl ho rfl hl.1 rfl (Nat.le_of_ble_eq_true rfl) dX7_keepMixed_42 ⟨Nat.le_of_ble_eq_true rfl, Nat.le_of_ble_eq_true rfl⟩ (fun M3 H locs hw h => ?_)
  refine lv_iconst (v := (1 : Int32)) hx hb dX7_keepMixed_45 (by decide) ?_
  refine lv_topi (fun x4 ex4 => ?_)
  have h := h x4 ex4
  refine lv_istore_n (lv' := [(2, .int x4), (0, .ref v0)]) hx hb dX7_keepMixed_46 rfl hl (by decide) rfl (fun ls hl => ?_)
  exact sX7_keepMixed_47 S hr hlocks hK  v0 x4 _ h _ _ _ hw (lv_sub hl [1, 0] rfl)
set_option maxHeartbeats 4000000 in
set_option maxRecDepth 100000 in
theorem kX7_keepMixed (l : Launch) (lo : Nat) (g : zg) (M : zm_M) (a0 : Nat) (a1 : Int32) (post : Int32 → zm_M → Prop) (h : pX7_keepMixed g.2 a0 a1 post M) : Met l yX7_keepMixed (Cond.code yX7_keepMixed cX7_keepMixed 3 (some .int) :: zU) (({ frames := 3, cells := 0, slots := 0, locals := 89 } : Room)) (zc_P zNF zNM lo g M [.ref a0, .int a1]) (va_Qi post (zc_B lo g) (zA lo)) 0 0 (zA lo) := by
  refine Met.ofW (cc := cX7_keepMixed) (maxL := 3) (ret := (some .int)) (by decide) rfl ?_
  intro p e s m args below meth c s₁ B hml hv
  obtain ⟨rfl, hR, hK⟩ := hv
  have hts := atoms_spec (ws := Cond.code yX7_keepMixed cX7_keepMixed 3 (some .int) :: zU) B.pre
  have hts : ∀ w ∈ zU, w.before _ s = true := fun w hw => hts w (List.mem_cons_of_mem _ hw)
  have hown : s.vm.findClass RX7 = some m.cls := findClass_of_methodNamed B.named
  have hx := B.exec
  have hb := B.bytes
  have hr := B.returns
  have hlocks := B.notSynchronized
  have S : CallFix p m c cX7_keepMixed 3 s ([.ref a0, .int a1] : List Value).toArray zU RX7 := ⟨hx, hb, hml, hown, hts⟩
  have hw : zW lo g s s.heap [] M := ⟨hR, va_S.rf⟩
  have hl := lv_entry ([.ref a0, .int a1]) (n := 3) (Nat.le_of_ble_eq_true rfl)
  rw [lg_entry_eq]
  generalize (lg_sl ([.ref a0, .int a1]) ++ List.replicate (3 - (lg_sl ([.ref a0, .int a1])).length) Slot.unset).toArray = ls at hl ⊢
  have hl : lv_has ls 3 [(0, .ref a0), (1, .int a1)] := hl
  unfold pX7_keepMixed at h
  refine lv_aload_n hx hb dX7_keepMixed_0 rfl (lv_at hl 0 rfl) ?_
  refine lv_iconst (v := (0 : Int32)) hx hb dX7_keepMixed_1 (by decide) ?_
  refine lv_bipush (v := (15 : Int32)) hx hb dX7_keepMixed_2 (by decide) ?_
  refine lv_iconst (v := (3 : Int32)) hx hb dX7_keepMixed_4 (by decide) ?_
  obtain ⟨ho, h⟩ := h
  refine zr_Vv (As := [.int (0 : Int32), .int (15 : Int32), .int (3 : Int32)]) (rest := []) S hK hw (kX7_times l lo g M a0 (0 : Int32) (15 : Int32) (3 : Int32) _ h) (cwV 3 hts (zg_V zu_525 zu_526 zu_527 zu_450 zu_528) rfl rfl rfl (by decide +kernel) ⟨Nat.le_of_ble_eq_true rfl, Nat.le_of_ble_eq_true rfl⟩) (ci := 10) rfl ho rfl hl.1 rfl (Nat.le_of_ble_eq_true rfl) dX7_keepMixed_5 ⟨Nat.le_of_ble_eq_true rfl, Nat.le_of_ble_eq_true rfl⟩ (fun M1 H locs hw h => ?_)
  refine lv_aload_n hx hb dX7_keepMixed_8 rfl (lv_at hl 0 rfl) ?_
  refine lv_iconst (v := (1 : Int32)) hx hb dX7_keepMixed_9 (by decide) ?_
  refine lv_iconst (v := (3 : Int32)) hx hb dX7_keepMixed_10 (by decide) ?_
  obtain ⟨ho, h⟩ := h
  refine zr_Vv (As := [.int (1 : Int32), .int (3 : Int32)]) (rest := []) S hK hw (kX7_copy l lo g M1 a0 (1 : Int32) (3 : Int32) _ h) (cwV 2 hts (zg_V zu_465 zu_466 zu_467 zu_450 zu_468) rfl rfl rfl (by decide +kernel) ⟨Nat.le_of_ble_eq_true rfl, Nat.le_of_ble_eq_true rfl⟩) (ci := 10) rfl ho rfl hl.1 rfl (Nat.le_of_ble_eq_true rfl) dX7_keepMixed_11 ⟨Nat.le_of_ble_eq_true rfl, Nat.le_of_ble_eq_true rfl⟩ (fun M2 H locs hw h => ?_)
  refine lv_iload_n hx hb dX7_keepMixed_14 rfl (lv_at hl 1 rfl) ?_
  refine lv_istore_n (lv' := [(2, .int a1), (0, .ref a0), (1, .int a1)]) hx hb dX7_keepMixed_15 rfl hl (by decide) rfl (fun ls hl => ?_)
  refine lv_iload_n hx hb dX7_keepMixed_16 rfl (lv_at hl 2 rfl) ?_
  refine lv_if_ge (tgt := 39) hx hb dX7_keepMixed_17 (by decide) (fun hc => ?_) (fun hc => ?_)
  · have h := h.1 hc
    exact sX7_keepMixed_39 S hr hlocks hK  a0 _ h _ _ _ hw (lv_sub hl [1] rfl)
  · have h := h.2 hc
    refine lv_aload_n hx hb dX7_keepMixed_20 rfl (lv_at hl 1 rfl) ?_
    refine zr_ga (C := RX7) (T := TX7) (N := 14) (ci := 10) (k := 10) S hK hw zi_X7 rfl (by decide) zu_444 dX7_keepMixed_21 h (fun n_7 h => ?_)
    refine lv_bipush (v := (15 : Int32)) hx hb dX7_keepMixed_24 (by decide) ?_
    refine zr_iald S hK hw dX7_keepMixed_26 h (fun e8 h => ?_)
    refine lv_if_le (tgt := 39) hx hb dX7_keepMixed_27 (by decide) (fun hc => ?_) (fun hc => ?_)
    · have h := h.1 hc
      exact sX7_keepMixed_39 S hr hlocks hK  a0 _ h _ _ _ hw (lv_sub hl [1] rfl)
    · have h := h.2 hc
      refine lv_aload_n hx hb dX7_keepMixed_30 rfl (lv_at hl 1 rfl) ?_
      refine lv_iconst (v := (0 : Int32)) hx hb dX7_keepMixed_31 (by decide) ?_
      refine lv_iconst (v := (2 : Int32)) hx hb dX7_keepMixed_32 (by decide) ?_
      obtain ⟨ho, h⟩ := h
      refine zr_Vv (As := [.int (0 : Int32), .int (2 : Int32)]) (rest := []) S hK hw (kX7_less l lo g M2 a0 (0 : Int32) (2 : Int32) _ h) (cwV 2 hts (zg_V zu_461 zu_462 zu_463 zu_450 zu_464) rfl rfl rfl (by decide +kernel) ⟨Nat.le_of_ble_eq_true rfl, Nat.le_of_ble_eq_true rfl⟩) (ci := 10) rfl ho rfl hl.1 rfl (Nat.le_of_ble_eq_true rfl) dX7_keepMixed_33 ⟨Nat.le_of_ble_eq_true rfl, Nat.le_of_ble_eq_true rfl⟩ (fun M9 H locs hw h => ?_)
      refine lv_goto (tgt := 47) hx hb dX7_keepMixed_36 (by decide) ?_
      exact sX7_keepMixed_47 S hr hlocks hK  a0 a1 _ h _ _ _ hw (lv_sub hl [1, 0] rfl)
set_option maxHeartbeats 4000000 in
set_option maxRecDepth 100000 in
theorem kX7_step (l : Launch) (lo : Nat) (g : zg) (M : zm_M) (a0 : Nat) (a1 : Int32) (a2 : Int32) (post : zm_M → Prop) (h : pX7_step g.2 a0 a1 a2 post M) : Met l yX7_step (Cond.code yX7_step cX7_step 3 none :: zU) (({ frames := 3, cells := 0, slots := 0, locals := 89 } : Room)) (zc_P zNF zNM lo g M [.ref a0, .int a1, .int a2]) (va_Qv post (zc_B lo g) (zA lo)) 0 0 (zA lo) := by
  refine Met.ofW (cc := cX7_step) (maxL := 3) (ret := none) (by decide) rfl ?_
  intro p e s m args below meth c s₁ B hml hv
  obtain ⟨rfl, hR, hK⟩ := hv
  have hts := atoms_spec (ws := Cond.code yX7_step cX7_step 3 none :: zU) B.pre
  have hts : ∀ w ∈ zU, w.before _ s = true := fun w hw => hts w (List.mem_cons_of_mem _ hw)
  have hown : s.vm.findClass RX7 = some m.cls := findClass_of_methodNamed B.named
  have hx := B.exec
  have hb := B.bytes
  have hr := B.returns
  have hlocks := B.notSynchronized
  have S : CallFix p m c cX7_step 3 s ([.ref a0, .int a1, .int a2] : List Value).toArray zU RX7 := ⟨hx, hb, hml, hown, hts⟩
  have hw : zW lo g s s.heap [] M := ⟨hR, va_S.rf⟩
  have hl := lv_entry ([.ref a0, .int a1, .int a2]) (n := 3) (Nat.le_of_ble_eq_true rfl)
  rw [lg_entry_eq]
  generalize (lg_sl ([.ref a0, .int a1, .int a2]) ++ List.replicate (3 - (lg_sl ([.ref a0, .int a1, .int a2])).length) Slot.unset).toArray = ls at hl ⊢
  have hl : lv_has ls 3 [(0, .ref a0), (1, .int a1), (2, .int a2)] := hl
  unfold pX7_step at h
  refine lv_aload_n hx hb dX7_step_0 rfl (lv_at hl 0 rfl) ?_
  refine lv_bipush (v := (6 : Int32)) hx hb dX7_step_1 (by decide) ?_
  refine lv_iload_n hx hb dX7_step_3 rfl (lv_at hl 1 rfl) ?_
  refine lv_bipush (v := (10 : Int32)) hx hb dX7_step_4 (by decide) ?_
  obtain ⟨ho, h⟩ := h
  refine zr_Vv (As := [.int (6 : Int32), .int a1, .int (10 : Int32)]) (rest := []) S hK hw (kX7_times l lo g M a0 (6 : Int32) a1 (10 : Int32) _ h) (cwV 3 hts (zg_V zu_525 zu_526 zu_527 zu_450 zu_528) rfl rfl rfl (by decide +kernel) ⟨Nat.le_of_ble_eq_true rfl, Nat.le_of_ble_eq_true rfl⟩) (ci := 10) rfl ho rfl hl.1 rfl (Nat.le_of_ble_eq_true rfl) dX7_step_6 ⟨Nat.le_of_ble_eq_true rfl, Nat.le_of_ble_eq_true rfl⟩ (fun M1 H locs hw h => ?_)
  refine lv_aload_n hx hb dX7_step_9 rfl (lv_at hl 0 rfl) ?_
  refine lv_bipush (v := (6 : Int32)) hx hb dX7_step_10 (by decide) ?_
  refine lv_iload_n hx hb dX7_step_12 rfl (lv_at hl 2 rfl) ?_
  obtain ⟨ho, h⟩ := h
  refine zr_Vv (As := [.int (6 : Int32), .int a2]) (rest := []) S hK hw (kX7_add l lo g M1 a0 (6 : Int32) a2 _ h) (cwV 2 hts (zg_V zu_533 zu_534 zu_535 zu_450 zu_536) rfl rfl rfl (by decide +kernel) ⟨Nat.le_of_ble_eq_true rfl, Nat.le_of_ble_eq_true rfl⟩) (ci := 10) rfl ho rfl hl.1 rfl (Nat.le_of_ble_eq_true rfl) dX7_step_13 ⟨Nat.le_of_ble_eq_true rfl, Nat.le_of_ble_eq_true rfl⟩ (fun M2 H locs hw h => ?_)
  refine lv_aload_n hx hb dX7_step_16 rfl (lv_at hl 0 rfl) ?_
  refine lv_iload_n hx hb dX7_step_17 rfl (lv_at hl 2 rfl) ?_
  refine lv_iload_n hx hb dX7_step_18 rfl (lv_at hl 1 rfl) ?_
  obtain ⟨ho, h⟩ := h
  refine zr_Vv (As := [.int a2, .int a1]) (rest := []) S hK hw (kX7_copy l lo g M2 a0 a2 a1 _ h) (cwV 2 hts (zg_V zu_465 zu_466 zu_467 zu_450 zu_468) rfl rfl rfl (by decide +kernel) ⟨Nat.le_of_ble_eq_true rfl, Nat.le_of_ble_eq_true rfl⟩) (ci := 10) rfl ho rfl hl.1 rfl (Nat.le_of_ble_eq_true rfl) dX7_step_19 ⟨Nat.le_of_ble_eq_true rfl, Nat.le_of_ble_eq_true rfl⟩ (fun M3 H locs hw h => ?_)
  refine lv_aload_n hx hb dX7_step_22 rfl (lv_at hl 0 rfl) ?_
  refine lv_iload_n hx hb dX7_step_23 rfl (lv_at hl 1 rfl) ?_
  refine lv_bipush (v := (6 : Int32)) hx hb dX7_step_24 (by decide) ?_
  obtain ⟨ho, h⟩ := h
  refine zr_Vv (As := [.int a1, .int (6 : Int32)]) (rest := []) S hK hw (kX7_copy l lo g M3 a0 a1 (6 : Int32) _ h) (cwV 2 hts (zg_V zu_465 zu_466 zu_467 zu_450 zu_468) rfl rfl rfl (by decide +kernel) ⟨Nat.le_of_ble_eq_true rfl, Nat.le_of_ble_eq_true rfl⟩) (ci := 10) rfl ho rfl hl.1 rfl (Nat.le_of_ble_eq_true rfl) dX7_step_26 ⟨Nat.le_of_ble_eq_true rfl, Nat.le_of_ble_eq_true rfl⟩ (fun M4 H locs hw h => ?_)
  exact zr_rv S hr hlocks hw h dX7_step_29
set_option maxHeartbeats 4000000 in
set_option maxRecDepth 100000 in
theorem sX7_part_61 {p : Program} {l : Launch} {e : Env} {s : State} {m : MethodId} {args : Array Value} {below : List Frame} {meth : Method} {c : Code} {lo : Nat} {g : zg} {post : Int32 → zm_M → Prop} {k101 : Nat → Int32 → zm_M → Prop} (S : CallFix p m c cX7_part 5 s args zU RX7) (hr : meth.sig.returnType = (some .int)) (hlocks : meth.locks = false) (hK : zk_K zNF zNM g s) (hk101 : ∀ (v0 : Nat) (v3 : Int32) (M : zm_M), k101 v0 v3 M → ∀ (H : Heap) (locs : List Loc) (ls : Array Slot), zW lo g s H locs M → lv_has ls 5 [(0, .ref v0), (3, .int v3)] → W p l e ({ frames := 5, cells := 0, slots := 0, locals := 133 } : Room) s m args below meth c H locs 0 0 (MQ below (va_Qi post (zc_B lo g) (zA lo)) args s 0 0 (zA lo)) (F0 m 101 ls [])) : ∀ (n : Nat) (v0 : Nat) (v2 : Int32) (v3 : Int32) (v4 : Int32) (M : zm_M), pX7_part_61 g.2 post k101 n v0 v2 v3 v4 M → ∀ (H : Heap) (locs : List Loc) (ls : Array Slot), zW lo g s H locs M → lv_has ls 5 [(0, .ref v0), (2, .int v2), (3, .int v3), (4, .int v4)] → W p l e ({ frames := 5, cells := 0, slots := 0, locals := 133 } : Room) s m args below meth c H locs 0 0 (MQ below (va_Qi post (zc_B lo g) (zA lo)) args s 0 0 (zA lo)) (F0 m 61 ls []) := by
  obtain ⟨hx, hb, hml, hown, hts⟩ := id S
  intro n
  induction n with
  | zero =>
    intro v0 v2 v3 v4 M h
    exact False.elim h
  | succ n61 ih =>
    intro v0 v2 v3 v4 M h H locs ls hw hl
    rw [pX7_part_61] at h
    refine lv_iload hx hb dX7_part_61 (lv_at hl 3 rfl) ?_
    refine lv_iload_n hx hb dX7_part_63 rfl (lv_at hl 1 rfl) ?_
    refine lv_icmp_ge (tgt := 101) hx hb dX7_part_64 (by decide) (fun hc => ?_) (fun hc => ?_)
    · have h := h.1 hc
      exact hk101 v0 v3 _ h _ _ _ hw (lv_sub hl [0, 2] rfl)
    · have h := h.2 hc
      refine lv_aload_n hx hb dX7_part_67 rfl (lv_at hl 0 rfl) ?_
      refine zr_ga (C := RX7) (T := TX7) (N := 14) (ci := 10) (k := 10) S hK hw zi_X7 rfl (by decide) zu_444 dX7_part_68 h (fun n_12 h => ?_)
      refine lv_bipush (v := (12 : Int32)) hx hb dX7_part_71 (by decide) ?_
      refine zr_iald S hK hw dX7_part_73 h (fun e13 h => ?_)
      refine lv_if_ne (tgt := 79) hx hb dX7_part_74 (by decide) (fun hc => ?_) (fun hc => ?_)
      · have h := h.1 hc
        refine lv_aload_n hx hb dX7_part_79 rfl (lv_at hl 0 rfl) ?_
        obtain ⟨ho, h⟩ := h
        refine zr_Vv (As := []) (rest := []) S hK hw (kX7_nextTerm l lo g M v0  _ h) (cwV 0 hts (zg_V zu_556 zu_557 zu_558 zu_450 zu_559) rfl rfl rfl (by decide +kernel) ⟨Nat.le_of_ble_eq_true rfl, Nat.le_of_ble_eq_true rfl⟩) (ci := 10) rfl ho rfl hl.1 rfl (Nat.le_of_ble_eq_true rfl) dX7_part_80 ⟨Nat.le_of_ble_eq_true rfl, Nat.le_of_ble_eq_true rfl⟩ (fun M14 H locs hw h => ?_)
        refine lv_aload_n hx hb dX7_part_83 rfl (lv_at hl 0 rfl) ?_
        refine lv_iconst (v := (2 : Int32)) hx hb dX7_part_84 (by decide) ?_
        refine lv_iconst (v := (4 : Int32)) hx hb dX7_part_85 (by decide) ?_
        obtain ⟨ho, h⟩ := h
        refine zr_Vv (As := [.int (2 : Int32), .int (4 : Int32)]) (rest := []) S hK hw (kX7_step l lo g M14 v0 (2 : Int32) (4 : Int32) _ h) (cwV 2 hts (zg_V zu_560 zu_561 zu_562 zu_450 zu_563) rfl rfl rfl (by decide +kernel) ⟨Nat.le_of_ble_eq_true rfl, Nat.le_of_ble_eq_true rfl⟩) (ci := 10) rfl ho rfl hl.1 rfl (Nat.le_of_ble_eq_true rfl) dX7_part_86 ⟨Nat.le_of_ble_eq_true rfl, Nat.le_of_ble_eq_true rfl⟩ (fun M15 H locs hw h => ?_)
        refine lv_aload_n hx hb dX7_part_89 rfl (lv_at hl 0 rfl) ?_
        refine lv_iconst (v := (3 : Int32)) hx hb dX7_part_90 (by decide) ?_
        refine lv_iconst (v := (5 : Int32)) hx hb dX7_part_91 (by decide) ?_
        obtain ⟨ho, h⟩ := h
        refine zr_Vv (As := [.int (3 : Int32), .int (5 : Int32)]) (rest := []) S hK hw (kX7_step l lo g M15 v0 (3 : Int32) (5 : Int32) _ h) (cwV 2 hts (zg_V zu_560 zu_561 zu_562 zu_450 zu_563) rfl rfl rfl (by decide +kernel) ⟨Nat.le_of_ble_eq_true rfl, Nat.le_of_ble_eq_true rfl⟩) (ci := 10) rfl ho rfl hl.1 rfl (Nat.le_of_ble_eq_true rfl) dX7_part_92 ⟨Nat.le_of_ble_eq_true rfl, Nat.le_of_ble_eq_true rfl⟩ (fun M16 H locs hw h => ?_)
        obtain ⟨x17, ex17⟩ : ∃ z : Int32, z = v4 + (1 : Int32) := ⟨_, rfl⟩
        have h := h x17 ex17
        refine lv_iinc (v := x17) (lv' := [(4, .int x17), (0, .ref v0), (2, .int v2), (3, .int v3)]) hx hb dX7_part_95 hl (k := 3) rfl (by rw [ex17]; rfl) (by decide) rfl (fun ls hl => ?_)
        refine lv_goto (tgt := 61) hx hb dX7_part_98 (by decide) ?_
        exact ih v0 v2 v3 x17 _ h _ _ _ hw (lv_sub hl [1, 2, 3, 0] rfl)
      · have h := h.2 hc
        refine lv_iconst (v := (-1 : Int32)) hx hb dX7_part_77 (by decide) ?_
        exact zr_ri S hr hlocks hw h dX7_part_78
set_option maxHeartbeats 4000000 in
set_option maxRecDepth 100000 in
theorem kX7_part (l : Launch) (lo : Nat) (g : zg) (M : zm_M) (a0 : Nat) (a1 : Int32) (a2 : Int32) (post : Int32 → zm_M → Prop) (h : pX7_part g.2 a0 a1 a2 post M) : Met l yX7_part (Cond.code yX7_part cX7_part 5 (some .int) :: zU) (({ frames := 5, cells := 0, slots := 0, locals := 133 } : Room)) (zc_P zNF zNM lo g M [.ref a0, .int a1, .int a2]) (va_Qi post (zc_B lo g) (zA lo)) 0 0 (zA lo) := by
  refine Met.ofW (cc := cX7_part) (maxL := 5) (ret := (some .int)) (by decide) rfl ?_
  intro p e s m args below meth c s₁ B hml hv
  obtain ⟨rfl, hR, hK⟩ := hv
  have hts := atoms_spec (ws := Cond.code yX7_part cX7_part 5 (some .int) :: zU) B.pre
  have hts : ∀ w ∈ zU, w.before _ s = true := fun w hw => hts w (List.mem_cons_of_mem _ hw)
  have hown : s.vm.findClass RX7 = some m.cls := findClass_of_methodNamed B.named
  have hx := B.exec
  have hb := B.bytes
  have hr := B.returns
  have hlocks := B.notSynchronized
  have S : CallFix p m c cX7_part 5 s ([.ref a0, .int a1, .int a2] : List Value).toArray zU RX7 := ⟨hx, hb, hml, hown, hts⟩
  have hw : zW lo g s s.heap [] M := ⟨hR, va_S.rf⟩
  have hl := lv_entry ([.ref a0, .int a1, .int a2]) (n := 5) (Nat.le_of_ble_eq_true rfl)
  rw [lg_entry_eq]
  generalize (lg_sl ([.ref a0, .int a1, .int a2]) ++ List.replicate (5 - (lg_sl ([.ref a0, .int a1, .int a2])).length) Slot.unset).toArray = ls at hl ⊢
  have hl : lv_has ls 5 [(0, .ref a0), (1, .int a1), (2, .int a2)] := hl
  unfold pX7_part at h
  refine lv_aload_n hx hb dX7_part_0 rfl (lv_at hl 0 rfl) ?_
  refine lv_iconst (v := (0 : Int32)) hx hb dX7_part_1 (by decide) ?_
  refine zr_p (C := RX7) (T := TX7) (N := 14) (ci := 10) (k := 0) S hK hw zi_X7 tyX7 tyX7_ok nmX7 rfl (by decide) zu_443 rfl rfl rfl dX7_part_2 h (fun M1 H locs hw h => ?_)
  refine lv_aload_n hx hb dX7_part_5 rfl (lv_at hl 0 rfl) ?_
  refine lv_iload_n hx hb dX7_part_6 rfl (lv_at hl 1 rfl) ?_
  obtain ⟨ho, h⟩ := h
  refine zr_Vi (As := [.int a1]) (rest := []) S hK hw (kX7_isNumber l lo g M1 a0 a1 _ h) (cwV 1 hts (zg_V zu_517 zu_518 zu_519 zu_450 zu_520) rfl rfl rfl (by decide +kernel) ⟨Nat.le_of_ble_eq_true rfl, Nat.le_of_ble_eq_true rfl⟩) (ci := 10) rfl ho rfl hl.1 rfl (Nat.le_of_ble_eq_true rfl) dX7_part_7 ⟨Nat.le_of_ble_eq_true rfl, Nat.le_of_ble_eq_true rfl⟩ (fun r3 M2 H locs hw h => ?_)
  refine lv_if_eq (tgt := 18) hx hb dX7_part_10 (by decide) (fun hc => ?_) (fun hc => ?_)
  · have h := h.1 hc
    refine lv_iconst (v := (-1 : Int32)) hx hb dX7_part_18 (by decide) ?_
    exact zr_ri S hr hlocks hw h dX7_part_19
  · have h := h.2 hc
    refine lv_iload_n hx hb dX7_part_13 rfl (lv_at hl 2 rfl) ?_
    refine lv_iconst (v := (1 : Int32)) hx hb dX7_part_14 (by decide) ?_
    refine lv_icmp_ge (tgt := 20) hx hb dX7_part_15 (by decide) (fun hc => ?_) (fun hc => ?_)
    · have h := h.1 hc
      refine lv_aload_n hx hb dX7_part_20 rfl (lv_at hl 0 rfl) ?_
      refine lv_iload_n hx hb dX7_part_21 rfl (lv_at hl 1 rfl) ?_
      obtain ⟨ho, h⟩ := h
      refine zr_Vi (As := [.int a1]) (rest := []) S hK hw (kX7_floor l lo g M2 a0 a1 _ h) (cwV 1 hts (zg_V zu_544 zu_545 zu_546 zu_450 zu_547) rfl rfl rfl (by decide +kernel) ⟨Nat.le_of_ble_eq_true rfl, Nat.le_of_ble_eq_true rfl⟩) (ci := 10) rfl ho rfl hl.1 rfl (Nat.le_of_ble_eq_true rfl) dX7_part_22 ⟨Nat.le_of_ble_eq_true rfl, Nat.le_of_ble_eq_true rfl⟩ (fun r5 M4 H locs hw h => ?_)
      refine lv_istore_n (lv' := [(3, .int r5), (0, .ref a0), (1, .int a1), (2, .int a2)]) hx hb dX7_part_25 rfl hl (by decide) rfl (fun ls hl => ?_)
      refine lv_aload_n hx hb dX7_part_26 rfl (lv_at hl 1 rfl) ?_
      refine lv_bipush (v := (15 : Int32)) hx hb dX7_part_27 (by decide) ?_
      refine lv_bipush (v := (10 : Int32)) hx hb dX7_part_29 (by decide) ?_
      obtain ⟨ho, h⟩ := h
      refine zr_Vv (As := [.int (15 : Int32), .int (10 : Int32)]) (rest := []) S hK hw (kX7_copy l lo g M4 a0 (15 : Int32) (10 : Int32) _ h) (cwV 2 hts (zg_V zu_465 zu_466 zu_467 zu_450 zu_468) rfl rfl rfl (by decide +kernel) ⟨Nat.le_of_ble_eq_true rfl, Nat.le_of_ble_eq_true rfl⟩) (ci := 10) rfl ho rfl hl.1 rfl (Nat.le_of_ble_eq_true rfl) dX7_part_31 ⟨Nat.le_of_ble_eq_true rfl, Nat.le_of_ble_eq_true rfl⟩ (fun M6 H locs hw h => ?_)
      refine lv_aload_n hx hb dX7_part_34 rfl (lv_at hl 1 rfl) ?_
      refine lv_iconst (v := (2 : Int32)) hx hb dX7_part_35 (by decide) ?_
      refine lv_lconst (v := (0 : Int64)) hx hb dX7_part_36 (by decide) ?_
      obtain ⟨ho, h⟩ := h
      refine zr_Vv (As := [.int (2 : Int32), .long (0 : Int64)]) (rest := []) S hK hw (kX7_small l lo g M6 a0 (2 : Int32) (0 : Int64) _ h) (cwV 2 hts (zg_V zu_509 zu_510 zu_511 zu_450 zu_512) rfl rfl rfl (by decide +kernel) ⟨Nat.le_of_ble_eq_true rfl, Nat.le_of_ble_eq_true rfl⟩) (ci := 10) rfl ho rfl hl.1 rfl (Nat.le_of_ble_eq_true rfl) dX7_part_37 ⟨Nat.le_of_ble_eq_true rfl, Nat.le_of_ble_eq_true rfl⟩ (fun M7 H locs hw h => ?_)
      refine lv_aload_n hx hb dX7_part_40 rfl (lv_at hl 1 rfl) ?_
      refine lv_iconst (v := (3 : Int32)) hx hb dX7_part_41 (by decide) ?_
      refine lv_lconst (v := (1 : Int64)) hx hb dX7_part_42 (by decide) ?_
      obtain ⟨ho, h⟩ := h
      refine zr_Vv (As := [.int (3 : Int32), .long (1 : Int64)]) (rest := []) S hK hw (kX7_small l lo g M7 a0 (3 : Int32) (1 : Int64) _ h) (cwV 2 hts (zg_V zu_509 zu_510 zu_511 zu_450 zu_512) rfl rfl rfl (by decide +kernel) ⟨Nat.le_of_ble_eq_true rfl, Nat.le_of_ble_eq_true rfl⟩) (ci := 10) rfl ho rfl hl.1 rfl (Nat.le_of_ble_eq_true rfl) dX7_part_43 ⟨Nat.le_of_ble_eq_true rfl, Nat.le_of_ble_eq_true rfl⟩ (fun M8 H locs hw h => ?_)
      refine lv_aload_n hx hb dX7_part_46 rfl (lv_at hl 1 rfl) ?_
      refine lv_iconst (v := (4 : Int32)) hx hb dX7_part_47 (by decide) ?_
      refine lv_lconst (v := (1 : Int64)) hx hb dX7_part_48 (by decide) ?_
      obtain ⟨ho, h⟩ := h
      refine zr_Vv (As := [.int (4 : Int32), .long (1 : Int64)]) (rest := []) S hK hw (kX7_small l lo g M8 a0 (4 : Int32) (1 : Int64) _ h) (cwV 2 hts (zg_V zu_509 zu_510 zu_511 zu_450 zu_512) rfl rfl rfl (by decide +kernel) ⟨Nat.le_of_ble_eq_true rfl, Nat.le_of_ble_eq_true rfl⟩) (ci := 10) rfl ho rfl hl.1 rfl (Nat.le_of_ble_eq_true rfl) dX7_part_49 ⟨Nat.le_of_ble_eq_true rfl, Nat.le_of_ble_eq_true rfl⟩ (fun M9 H locs hw h => ?_)
      refine lv_aload_n hx hb dX7_part_52 rfl (lv_at hl 1 rfl) ?_
      refine lv_iconst (v := (5 : Int32)) hx hb dX7_part_53 (by decide) ?_
      refine lv_lconst (v := (0 : Int64)) hx hb dX7_part_54 (by decide) ?_
      obtain ⟨ho, h⟩ := h
      refine zr_Vv (As := [.int (5 : Int32), .long (0 : Int64)]) (rest := []) S hK hw (kX7_small l lo g M9 a0 (5 : Int32) (0 : Int64) _ h) (cwV 2 hts (zg_V zu_509 zu_510 zu_511 zu_450 zu_512) rfl rfl rfl (by decide +kernel) ⟨Nat.le_of_ble_eq_true rfl, Nat.le_of_ble_eq_true rfl⟩) (ci := 10) rfl ho rfl hl.1 rfl (Nat.le_of_ble_eq_true rfl) dX7_part_55 ⟨Nat.le_of_ble_eq_true rfl, Nat.le_of_ble_eq_true rfl⟩ (fun M10 H locs hw h => ?_)
      refine lv_iconst (v := (1 : Int32)) hx hb dX7_part_58 (by decide) ?_
      refine lv_topi (fun x11 ex11 => ?_)
      have h := h x11 ex11
      refine lv_istore (lv' := [(4, .int x11), (3, .int r5), (0, .ref a0), (1, .int a1), (2, .int a2)]) hx hb dX7_part_59 hl (by decide) rfl (fun ls hl => ?_)
      obtain ⟨n61, h⟩ := h
      refine sX7_part_61 S hr hlocks hK (fun w18 w19 M20 h H locs ls hw hl => ?_) n61 a0 a2 r5 x11 _ h _ _ _ hw (lv_sub hl [2, 4, 1, 0] rfl)
      refine lv_aload_n hx hb dX7_part_101 rfl (lv_at hl 0 rfl) ?_
      obtain ⟨ho, h⟩ := h
      refine zr_Vi (As := []) (rest := []) S hK hw (kX7_free l lo g M20 w18  _ h) (cwV 0 hts (zg_V zu_492 zu_493 zu_494 zu_450 zu_495) rfl rfl rfl (by decide +kernel) ⟨Nat.le_of_ble_eq_true rfl, Nat.le_of_ble_eq_true rfl⟩) (ci := 10) rfl ho rfl hl.1 rfl (Nat.le_of_ble_eq_true rfl) dX7_part_102 ⟨Nat.le_of_ble_eq_true rfl, Nat.le_of_ble_eq_true rfl⟩ (fun r22 M21 H locs hw h => ?_)
      refine lv_bipush (v := (-3 : Int32)) hx hb dX7_part_105 (by decide) ?_
      refine lv_icmp_ne (tgt := 115) hx hb dX7_part_107 (by decide) (fun hc => ?_) (fun hc => ?_)
      · have h := h.1 hc
        refine lv_aload_n hx hb dX7_part_115 rfl (lv_at hl 0 rfl) ?_
        refine lv_iload_n hx hb dX7_part_116 rfl (lv_at hl 1 rfl) ?_
        obtain ⟨ho, h⟩ := h
        refine zr_Vi (As := [.int w19]) (rest := []) S hK hw (kX7_keepMixed l lo g M21 w18 w19 _ h) (cwV 1 hts (zg_V zu_564 zu_565 zu_566 zu_450 zu_567) rfl rfl rfl (by decide +kernel) ⟨Nat.le_of_ble_eq_true rfl, Nat.le_of_ble_eq_true rfl⟩) (ci := 10) rfl ho rfl hl.1 rfl (Nat.le_of_ble_eq_true rfl) dX7_part_117 ⟨Nat.le_of_ble_eq_true rfl, Nat.le_of_ble_eq_true rfl⟩ (fun r24 M23 H locs hw h => ?_)
        exact zr_ri S hr hlocks hw h dX7_part_120
      · have h := h.2 hc
        refine lv_bipush (v := (-3 : Int32)) hx hb dX7_part_110 (by decide) ?_
        refine lv_goto (tgt := 120) hx hb dX7_part_112 (by decide) ?_
        exact zr_ri S hr hlocks hw h dX7_part_120
    · have h := h.2 hc
      refine lv_iconst (v := (-1 : Int32)) hx hb dX7_part_18 (by decide) ?_
      exact zr_ri S hr hlocks hw h dX7_part_19
set_option maxHeartbeats 4000000 in
set_option maxRecDepth 100000 in
theorem kX7_asLong (l : Launch) (lo : Nat) (g : zg) (M : zm_M) (a0 : Nat) (a1 : Int32) (post : Int64 → zm_M → Prop) (h : pX7_asLong g.2 a0 a1 post M) : Met l yX7_asLong (Cond.code yX7_asLong cX7_asLong 2 (some .long) :: zU) (({ frames := 1, cells := 0, slots := 0, locals := 40 } : Room)) (zc_P zNF zNM lo g M [.ref a0, .int a1]) (va_Ql post (zc_B lo g) (zA lo)) 0 0 (zA lo) := by
  refine Met.ofW (cc := cX7_asLong) (maxL := 2) (ret := (some .long)) (by decide) rfl ?_
  intro p e s m args below meth c s₁ B hml hv
  obtain ⟨rfl, hR, hK⟩ := hv
  have hts := atoms_spec (ws := Cond.code yX7_asLong cX7_asLong 2 (some .long) :: zU) B.pre
  have hts : ∀ w ∈ zU, w.before _ s = true := fun w hw => hts w (List.mem_cons_of_mem _ hw)
  have hown : s.vm.findClass RX7 = some m.cls := findClass_of_methodNamed B.named
  have hx := B.exec
  have hb := B.bytes
  have hr := B.returns
  have hlocks := B.notSynchronized
  have S : CallFix p m c cX7_asLong 2 s ([.ref a0, .int a1] : List Value).toArray zU RX7 := ⟨hx, hb, hml, hown, hts⟩
  have hw : zW lo g s s.heap [] M := ⟨hR, va_S.rf⟩
  have hl := lv_entry ([.ref a0, .int a1]) (n := 2) (Nat.le_of_ble_eq_true rfl)
  rw [lg_entry_eq]
  generalize (lg_sl ([.ref a0, .int a1]) ++ List.replicate (2 - (lg_sl ([.ref a0, .int a1])).length) Slot.unset).toArray = ls at hl ⊢
  have hl : lv_has ls 2 [(0, .ref a0), (1, .int a1)] := hl
  unfold pX7_asLong at h
  refine lv_aload_n hx hb dX7_asLong_0 rfl (lv_at hl 0 rfl) ?_
  refine zr_ga (C := RX7) (T := TX7) (N := 14) (ci := 10) (k := 10) S hK hw zi_X7 rfl (by decide) zu_444 dX7_asLong_1 h (fun n_1 h => ?_)
  refine lv_iload_n hx hb dX7_asLong_4 rfl (lv_at hl 1 rfl) ?_
  refine zr_iald S hK hw dX7_asLong_5 h (fun e2 h => ?_)
  refine lv_if_ne (tgt := 13) hx hb dX7_asLong_6 (by decide) (fun hc => ?_) (fun hc => ?_)
  · have h := h.1 hc
    refine lv_aload_n hx hb dX7_asLong_13 rfl (lv_at hl 0 rfl) ?_
    refine zr_ga (C := RX7) (T := TX7) (N := 14) (ci := 10) (k := 10) S hK hw zi_X7 rfl (by decide) zu_444 dX7_asLong_14 h (fun n_3 h => ?_)
    refine lv_iload_n hx hb dX7_asLong_17 rfl (lv_at hl 1 rfl) ?_
    refine zr_iald S hK hw dX7_asLong_18 h (fun e4 h => ?_)
    refine lv_iconst (v := (1 : Int32)) hx hb dX7_asLong_19 (by decide) ?_
    refine lv_icmp_ne (tgt := 35) hx hb dX7_asLong_20 (by decide) (fun hc => ?_) (fun hc => ?_)
    · have h := h.1 hc
      refine lv_aload_n hx hb dX7_asLong_35 rfl (lv_at hl 0 rfl) ?_
      refine zr_ga (C := RX7) (T := TX7) (N := 14) (ci := 10) (k := 9) S hK hw zi_X7 rfl (by decide) zu_445 dX7_asLong_36 h (fun g_5 h => ?_)
      refine lv_bipush (v := (72 : Int32)) hx hb dX7_asLong_39 (by decide) ?_
      refine lv_iload_n hx hb dX7_asLong_41 rfl (lv_at hl 1 rfl) ?_
      refine lv_imul hx hb dX7_asLong_42 ?_
      refine lv_iconst (v := (1 : Int32)) hx hb dX7_asLong_43 (by decide) ?_
      refine lv_iadd hx hb dX7_asLong_44 ?_
      refine zr_lald S hK hw dX7_asLong_45 h (fun e6 h => ?_)
      refine lv_bipush (v := (32 : Int32)) hx hb dX7_asLong_46 (by decide) ?_
      refine lv_lshl hx hb dX7_asLong_48 rfl ?_
      refine lv_aload_n hx hb dX7_asLong_49 rfl (lv_at hl 0 rfl) ?_
      refine zr_ga (C := RX7) (T := TX7) (N := 14) (ci := 10) (k := 9) S hK hw zi_X7 rfl (by decide) zu_445 dX7_asLong_50 h (fun g_7 h => ?_)
      refine lv_bipush (v := (72 : Int32)) hx hb dX7_asLong_53 (by decide) ?_
      refine lv_iload_n hx hb dX7_asLong_55 rfl (lv_at hl 1 rfl) ?_
      refine lv_imul hx hb dX7_asLong_56 ?_
      refine zr_lald S hK hw dX7_asLong_57 h (fun e8 h => ?_)
      refine lv_lor hx hb dX7_asLong_58 ?_
      exact zr_rl S hr hlocks hw h dX7_asLong_59
    · have h := h.2 hc
      refine lv_aload_n hx hb dX7_asLong_23 rfl (lv_at hl 0 rfl) ?_
      refine zr_ga (C := RX7) (T := TX7) (N := 14) (ci := 10) (k := 9) S hK hw zi_X7 rfl (by decide) zu_445 dX7_asLong_24 h (fun g_9 h => ?_)
      refine lv_bipush (v := (72 : Int32)) hx hb dX7_asLong_27 (by decide) ?_
      refine lv_iload_n hx hb dX7_asLong_29 rfl (lv_at hl 1 rfl) ?_
      refine lv_imul hx hb dX7_asLong_30 ?_
      refine zr_lald S hK hw dX7_asLong_31 h (fun e10 h => ?_)
      refine lv_goto (tgt := 59) hx hb dX7_asLong_32 (by decide) ?_
      exact zr_rl S hr hlocks hw h dX7_asLong_59
  · have h := h.2 hc
    refine lv_lconst (v := (0 : Int64)) hx hb dX7_asLong_9 (by decide) ?_
    refine lv_goto (tgt := 59) hx hb dX7_asLong_10 (by decide) ?_
    exact zr_rl S hr hlocks hw h dX7_asLong_59
set_option maxHeartbeats 4000000 in
set_option maxRecDepth 100000 in
theorem kX7_distance (l : Launch) (lo : Nat) (g : zg) (M : zm_M) (a0 : Nat) (a1 : Int32) (a2 : Int64) (a4 : Int64) (post : zm_M → Prop) (h : pX7_distance g.2 a0 a1 a2 a4 post M) : Met l yX7_distance (Cond.code yX7_distance cX7_distance 6 none :: zU) (({ frames := 3, cells := 0, slots := 0, locals := 89 } : Room)) (zc_P zNF zNM lo g M [.ref a0, .int a1, .long a2, .long a4]) (va_Qv post (zc_B lo g) (zA lo)) 0 0 (zA lo) := by
  refine Met.ofW (cc := cX7_distance) (maxL := 6) (ret := none) (by decide) rfl ?_
  intro p e s m args below meth c s₁ B hml hv
  obtain ⟨rfl, hR, hK⟩ := hv
  have hts := atoms_spec (ws := Cond.code yX7_distance cX7_distance 6 none :: zU) B.pre
  have hts : ∀ w ∈ zU, w.before _ s = true := fun w hw => hts w (List.mem_cons_of_mem _ hw)
  have hown : s.vm.findClass RX7 = some m.cls := findClass_of_methodNamed B.named
  have hx := B.exec
  have hb := B.bytes
  have hr := B.returns
  have hlocks := B.notSynchronized
  have S : CallFix p m c cX7_distance 6 s ([.ref a0, .int a1, .long a2, .long a4] : List Value).toArray zU RX7 := ⟨hx, hb, hml, hown, hts⟩
  have hw : zW lo g s s.heap [] M := ⟨hR, va_S.rf⟩
  have hl := lv_entry ([.ref a0, .int a1, .long a2, .long a4]) (n := 6) (Nat.le_of_ble_eq_true rfl)
  rw [lg_entry_eq]
  generalize (lg_sl ([.ref a0, .int a1, .long a2, .long a4]) ++ List.replicate (6 - (lg_sl ([.ref a0, .int a1, .long a2, .long a4])).length) Slot.unset).toArray = ls at hl ⊢
  have hl : lv_has ls 6 [(0, .ref a0), (1, .int a1), (2, .long a2), (4, .long a4)] := hl
  unfold pX7_distance at h
  refine lv_aload_n hx hb dX7_distance_0 rfl (lv_at hl 0 rfl) ?_
  refine lv_iconst (v := (4 : Int32)) hx hb dX7_distance_1 (by decide) ?_
  refine lv_lload hx hb dX7_distance_2 (lv_at hl 3 rfl) ?_
  obtain ⟨ho, h⟩ := h
  refine zr_Vv (As := [.int (4 : Int32), .long a4]) (rest := []) S hK hw (kX7_small l lo g M a0 (4 : Int32) a4 _ h) (cwV 2 hts (zg_V zu_509 zu_510 zu_511 zu_450 zu_512) rfl rfl rfl (by decide +kernel) ⟨Nat.le_of_ble_eq_true rfl, Nat.le_of_ble_eq_true rfl⟩) (ci := 10) rfl ho rfl hl.1 rfl (Nat.le_of_ble_eq_true rfl) dX7_distance_4 ⟨Nat.le_of_ble_eq_true rfl, Nat.le_of_ble_eq_true rfl⟩ (fun M1 H locs hw h => ?_)
  refine lv_aload_n hx hb dX7_distance_7 rfl (lv_at hl 0 rfl) ?_
  refine lv_iload_n hx hb dX7_distance_8 rfl (lv_at hl 1 rfl) ?_
  refine lv_bipush (v := (21 : Int32)) hx hb dX7_distance_9 (by decide) ?_
  refine lv_iconst (v := (4 : Int32)) hx hb dX7_distance_11 (by decide) ?_
  obtain ⟨ho, h⟩ := h
  refine zr_Vv (As := [.int a1, .int (21 : Int32), .int (4 : Int32)]) (rest := []) S hK hw (kX7_times l lo g M1 a0 a1 (21 : Int32) (4 : Int32) _ h) (cwV 3 hts (zg_V zu_525 zu_526 zu_527 zu_450 zu_528) rfl rfl rfl (by decide +kernel) ⟨Nat.le_of_ble_eq_true rfl, Nat.le_of_ble_eq_true rfl⟩) (ci := 10) rfl ho rfl hl.1 rfl (Nat.le_of_ble_eq_true rfl) dX7_distance_12 ⟨Nat.le_of_ble_eq_true rfl, Nat.le_of_ble_eq_true rfl⟩ (fun M2 H locs hw h => ?_)
  refine lv_aload_n hx hb dX7_distance_15 rfl (lv_at hl 0 rfl) ?_
  refine lv_iconst (v := (4 : Int32)) hx hb dX7_distance_16 (by decide) ?_
  refine lv_lload_n hx hb dX7_distance_17 rfl (lv_at hl 2 rfl) ?_
  obtain ⟨ho, h⟩ := h
  refine zr_Vv (As := [.int (4 : Int32), .long a2]) (rest := []) S hK hw (kX7_small l lo g M2 a0 (4 : Int32) a2 _ h) (cwV 2 hts (zg_V zu_509 zu_510 zu_511 zu_450 zu_512) rfl rfl rfl (by decide +kernel) ⟨Nat.le_of_ble_eq_true rfl, Nat.le_of_ble_eq_true rfl⟩) (ci := 10) rfl ho rfl hl.1 rfl (Nat.le_of_ble_eq_true rfl) dX7_distance_18 ⟨Nat.le_of_ble_eq_true rfl, Nat.le_of_ble_eq_true rfl⟩ (fun M3 H locs hw h => ?_)
  refine lv_aload_n hx hb dX7_distance_21 rfl (lv_at hl 0 rfl) ?_
  refine lv_iconst (v := (5 : Int32)) hx hb dX7_distance_22 (by decide) ?_
  refine lv_bipush (v := (22 : Int32)) hx hb dX7_distance_23 (by decide) ?_
  refine lv_iconst (v := (4 : Int32)) hx hb dX7_distance_25 (by decide) ?_
  obtain ⟨ho, h⟩ := h
  refine zr_Vv (As := [.int (5 : Int32), .int (22 : Int32), .int (4 : Int32)]) (rest := []) S hK hw (kX7_times l lo g M3 a0 (5 : Int32) (22 : Int32) (4 : Int32) _ h) (cwV 3 hts (zg_V zu_525 zu_526 zu_527 zu_450 zu_528) rfl rfl rfl (by decide +kernel) ⟨Nat.le_of_ble_eq_true rfl, Nat.le_of_ble_eq_true rfl⟩) (ci := 10) rfl ho rfl hl.1 rfl (Nat.le_of_ble_eq_true rfl) dX7_distance_26 ⟨Nat.le_of_ble_eq_true rfl, Nat.le_of_ble_eq_true rfl⟩ (fun M4 H locs hw h => ?_)
  refine lv_aload_n hx hb dX7_distance_29 rfl (lv_at hl 0 rfl) ?_
  refine lv_iload_n hx hb dX7_distance_30 rfl (lv_at hl 1 rfl) ?_
  refine lv_iconst (v := (5 : Int32)) hx hb dX7_distance_31 (by decide) ?_
  obtain ⟨ho, h⟩ := h
  refine zr_Vi (As := [.int a1, .int (5 : Int32)]) (rest := []) S hK hw (kX7_compared l lo g M4 a0 a1 (5 : Int32) _ h) (cwV 2 hts (zg_V zu_457 zu_458 zu_459 zu_450 zu_460) rfl rfl rfl (by decide +kernel) ⟨Nat.le_of_ble_eq_true rfl, Nat.le_of_ble_eq_true rfl⟩) (ci := 10) rfl ho rfl hl.1 rfl (Nat.le_of_ble_eq_true rfl) dX7_distance_32 ⟨Nat.le_of_ble_eq_true rfl, Nat.le_of_ble_eq_true rfl⟩ (fun r6 M5 H locs hw h => ?_)
  refine lv_if_lt (tgt := 47) hx hb dX7_distance_35 (by decide) (fun hc => ?_) (fun hc => ?_)
  · have h := h.1 hc
    refine lv_aload_n hx hb dX7_distance_47 rfl (lv_at hl 0 rfl) ?_
    refine lv_iconst (v := (5 : Int32)) hx hb dX7_distance_48 (by decide) ?_
    refine lv_iload_n hx hb dX7_distance_49 rfl (lv_at hl 1 rfl) ?_
    obtain ⟨ho, h⟩ := h
    refine zr_Vv (As := [.int (5 : Int32), .int a1]) (rest := []) S hK hw (kX7_less l lo g M5 a0 (5 : Int32) a1 _ h) (cwV 2 hts (zg_V zu_461 zu_462 zu_463 zu_450 zu_464) rfl rfl rfl (by decide +kernel) ⟨Nat.le_of_ble_eq_true rfl, Nat.le_of_ble_eq_true rfl⟩) (ci := 10) rfl ho rfl hl.1 rfl (Nat.le_of_ble_eq_true rfl) dX7_distance_50 ⟨Nat.le_of_ble_eq_true rfl, Nat.le_of_ble_eq_true rfl⟩ (fun M7 H locs hw h => ?_)
    refine lv_aload_n hx hb dX7_distance_53 rfl (lv_at hl 0 rfl) ?_
    refine lv_iload_n hx hb dX7_distance_54 rfl (lv_at hl 1 rfl) ?_
    refine lv_iconst (v := (5 : Int32)) hx hb dX7_distance_55 (by decide) ?_
    obtain ⟨ho, h⟩ := h
    refine zr_Vv (As := [.int a1, .int (5 : Int32)]) (rest := []) S hK hw (kX7_copy l lo g M7 a0 a1 (5 : Int32) _ h) (cwV 2 hts (zg_V zu_465 zu_466 zu_467 zu_450 zu_468) rfl rfl rfl (by decide +kernel) ⟨Nat.le_of_ble_eq_true rfl, Nat.le_of_ble_eq_true rfl⟩) (ci := 10) rfl ho rfl hl.1 rfl (Nat.le_of_ble_eq_true rfl) dX7_distance_56 ⟨Nat.le_of_ble_eq_true rfl, Nat.le_of_ble_eq_true rfl⟩ (fun M8 H locs hw h => ?_)
    exact zr_rv S hr hlocks hw h dX7_distance_59
  · have h := h.2 hc
    refine lv_aload_n hx hb dX7_distance_38 rfl (lv_at hl 0 rfl) ?_
    refine lv_iload_n hx hb dX7_distance_39 rfl (lv_at hl 1 rfl) ?_
    refine lv_iconst (v := (5 : Int32)) hx hb dX7_distance_40 (by decide) ?_
    obtain ⟨ho, h⟩ := h
    refine zr_Vv (As := [.int a1, .int (5 : Int32)]) (rest := []) S hK hw (kX7_less l lo g M5 a0 a1 (5 : Int32) _ h) (cwV 2 hts (zg_V zu_461 zu_462 zu_463 zu_450 zu_464) rfl rfl rfl (by decide +kernel) ⟨Nat.le_of_ble_eq_true rfl, Nat.le_of_ble_eq_true rfl⟩) (ci := 10) rfl ho rfl hl.1 rfl (Nat.le_of_ble_eq_true rfl) dX7_distance_41 ⟨Nat.le_of_ble_eq_true rfl, Nat.le_of_ble_eq_true rfl⟩ (fun M9 H locs hw h => ?_)
    refine lv_goto (tgt := 59) hx hb dX7_distance_44 (by decide) ?_
    exact zr_rv S hr hlocks hw h dX7_distance_59
set_option maxHeartbeats 4000000 in
set_option maxRecDepth 100000 in
theorem sX7_nearer_131 {p : Program} {l : Launch} {e : Env} {s : State} {m : MethodId} {args : Array Value} {below : List Frame} {meth : Method} {c : Code} {lo : Nat} {g : zg} {post : Int32 → zm_M → Prop}  (S : CallFix p m c cX7_nearer 12 s args zU RX7) (hr : meth.sig.returnType = (some .int)) (hlocks : meth.locks = false) (hK : zk_K zNF zNM g s)  : ∀ (v0 : Nat) (v1 : Int32) (s0 : Nat) (s1 : Int32) (s2 : Int64) (M : zm_M), pX7_nearer_131 g.2 post  v0 v1 s0 s1 s2 M → ∀ (H : Heap) (locs : List Loc) (ls : Array Slot), zW lo g s H locs M → lv_has ls 12 [(0, .ref v0), (1, .int v1)] → W p l e ({ frames := 4, cells := 0, slots := 0, locals := 114 } : Room) s m args below meth c H locs 0 0 (MQ below (va_Qi post (zc_B lo g) (zA lo)) args s 0 0 (zA lo)) (F0 m 131 ls [.long s2, .int s1, .ref s0]) := by
  obtain ⟨hx, hb, hml, hown, hts⟩ := id S
  intro v0 v1 s0 s1 s2 M h H locs ls hw hl
  unfold pX7_nearer_131 at h
  obtain ⟨ho, h⟩ := h
  refine zr_Vv (As := [.int s1, .long s2]) (rest := []) S hK hw (kX7_small l lo g M s0 s1 s2 _ h) (cwV 2 hts (zg_V zu_509 zu_510 zu_511 zu_450 zu_512) rfl rfl rfl (by decide +kernel) ⟨Nat.le_of_ble_eq_true rfl, Nat.le_of_ble_eq_true rfl⟩) (ci := 10) rfl ho rfl hl.1 rfl (Nat.le_of_ble_eq_true rfl) dX7_nearer_131 ⟨Nat.le_of_ble_eq_true rfl, Nat.le_of_ble_eq_true rfl⟩ (fun M10 H locs hw h => ?_)
  refine lv_aload_n hx hb dX7_nearer_134 rfl (lv_at hl 0 rfl) ?_
  refine lv_iload_n hx hb dX7_nearer_135 rfl (lv_at hl 1 rfl) ?_
  obtain ⟨ho, h⟩ := h
  refine zr_Vi (As := [.int v1]) (rest := []) S hK hw (kX7_keepMixed l lo g M10 v0 v1 _ h) (cwV 1 hts (zg_V zu_564 zu_565 zu_566 zu_450 zu_567) rfl rfl rfl (by decide +kernel) ⟨Nat.le_of_ble_eq_true rfl, Nat.le_of_ble_eq_true rfl⟩) (ci := 10) rfl ho rfl hl.1 rfl (Nat.le_of_ble_eq_true rfl) dX7_nearer_136 ⟨Nat.le_of_ble_eq_true rfl, Nat.le_of_ble_eq_true rfl⟩ (fun r12 M11 H locs hw h => ?_)
  exact zr_ri S hr hlocks hw h dX7_nearer_139
set_option maxHeartbeats 4000000 in
set_option maxRecDepth 100000 in
theorem sX7_nearer_114 {p : Program} {l : Launch} {e : Env} {s : State} {m : MethodId} {args : Array Value} {below : List Frame} {meth : Method} {c : Code} {lo : Nat} {g : zg} {post : Int32 → zm_M → Prop}  (S : CallFix p m c cX7_nearer 12 s args zU RX7) (hr : meth.sig.returnType = (some .int)) (hlocks : meth.locks = false) (hK : zk_K zNF zNM g s)  : ∀ (v0 : Nat) (v1 : Int32) (v4 : Int64) (v8 : Int64) (v11 : Int32) (s0 : Nat) (s1 : Int32) (s2 : Int64) (M : zm_M), pX7_nearer_114 g.2 post  v0 v1 v4 v8 v11 s0 s1 s2 M → ∀ (H : Heap) (locs : List Loc) (ls : Array Slot), zW lo g s H locs M → lv_has ls 12 [(0, .ref v0), (1, .int v1), (4, .long v4), (8, .long v8), (11, .int v11)] → W p l e ({ frames := 4, cells := 0, slots := 0, locals := 114 } : Room) s m args below meth c H locs 0 0 (MQ below (va_Qi post (zc_B lo g) (zA lo)) args s 0 0 (zA lo)) (F0 m 114 ls [.long s2, .int s1, .ref s0]) := by
  obtain ⟨hx, hb, hml, hown, hts⟩ := id S
  intro v0 v1 v4 v8 v11 s0 s1 s2 M h H locs ls hw hl
  unfold pX7_nearer_114 at h
  obtain ⟨ho, h⟩ := h
  refine zr_Vv (As := [.int s1, .long s2]) (rest := []) S hK hw (kX7_small l lo g M s0 s1 s2 _ h) (cwV 2 hts (zg_V zu_509 zu_510 zu_511 zu_450 zu_512) rfl rfl rfl (by decide +kernel) ⟨Nat.le_of_ble_eq_true rfl, Nat.le_of_ble_eq_true rfl⟩) (ci := 10) rfl ho rfl hl.1 rfl (Nat.le_of_ble_eq_true rfl) dX7_nearer_114 ⟨Nat.le_of_ble_eq_true rfl, Nat.le_of_ble_eq_true rfl⟩ (fun M9 H locs hw h => ?_)
  refine lv_aload_n hx hb dX7_nearer_117 rfl (lv_at hl 0 rfl) ?_
  refine lv_iconst (v := (3 : Int32)) hx hb dX7_nearer_118 (by decide) ?_
  refine lv_iload hx hb dX7_nearer_119 (lv_at hl 4 rfl) ?_
  refine lv_if_eq (tgt := 129) hx hb dX7_nearer_121 (by decide) (fun hc => ?_) (fun hc => ?_)
  · have h := h.1 hc
    refine lv_lload hx hb dX7_nearer_129 (lv_at hl 3 rfl) ?_
    exact sX7_nearer_131 S hr hlocks hK  v0 v1 v0 (3 : Int32) v8 _ h _ _ _ hw (lv_sub hl [0, 1] rfl)
  · have h := h.2 hc
    refine lv_lload hx hb dX7_nearer_124 (lv_at hl 2 rfl) ?_
    refine lv_goto (tgt := 131) hx hb dX7_nearer_126 (by decide) ?_
    exact sX7_nearer_131 S hr hlocks hK  v0 v1 v0 (3 : Int32) v4 _ h _ _ _ hw (lv_sub hl [0, 1] rfl)
set_option maxHeartbeats 4000000 in
set_option maxRecDepth 100000 in
theorem sX7_nearer_99 {p : Program} {l : Launch} {e : Env} {s : State} {m : MethodId} {args : Array Value} {below : List Frame} {meth : Method} {c : Code} {lo : Nat} {g : zg} {post : Int32 → zm_M → Prop}  (S : CallFix p m c cX7_nearer 12 s args zU RX7) (hr : meth.sig.returnType = (some .int)) (hlocks : meth.locks = false) (hK : zk_K zNF zNM g s)  : ∀ (v0 : Nat) (v1 : Int32) (v2 : Int64) (v4 : Int64) (v6 : Int64) (v8 : Int64) (s0 : Int32) (M : zm_M), pX7_nearer_99 g.2 post  v0 v1 v2 v4 v6 v8 s0 M → ∀ (H : Heap) (locs : List Loc) (ls : Array Slot), zW lo g s H locs M → lv_has ls 12 [(0, .ref v0), (1, .int v1), (2, .long v2), (4, .long v4), (6, .long v6), (8, .long v8)] → W p l e ({ frames := 4, cells := 0, slots := 0, locals := 114 } : Room) s m args below meth c H locs 0 0 (MQ below (va_Qi post (zc_B lo g) (zA lo)) args s 0 0 (zA lo)) (F0 m 99 ls [.int s0]) := by
  obtain ⟨hx, hb, hml, hown, hts⟩ := id S
  intro v0 v1 v2 v4 v6 v8 s0 M h H locs ls hw hl
  unfold pX7_nearer_99 at h
  refine lv_istore (lv' := [(11, .int s0), (0, .ref v0), (1, .int v1), (2, .long v2), (4, .long v4), (6, .long v6), (8, .long v8)]) hx hb dX7_nearer_99 hl (by decide) rfl (fun ls hl => ?_)
  refine lv_aload_n hx hb dX7_nearer_101 rfl (lv_at hl 1 rfl) ?_
  refine lv_iconst (v := (2 : Int32)) hx hb dX7_nearer_102 (by decide) ?_
  refine lv_iload hx hb dX7_nearer_103 (lv_at hl 0 rfl) ?_
  refine lv_if_eq (tgt := 112) hx hb dX7_nearer_105 (by decide) (fun hc => ?_) (fun hc => ?_)
  · have h := h.1 hc
    refine lv_lload hx hb dX7_nearer_112 (lv_at hl 5 rfl) ?_
    exact sX7_nearer_114 S hr hlocks hK  v0 v1 v4 v8 s0 v0 (2 : Int32) v6 _ h _ _ _ hw (lv_sub hl [1, 2, 4, 6, 0] rfl)
  · have h := h.2 hc
    refine lv_lload_n hx hb dX7_nearer_108 rfl (lv_at hl 3 rfl) ?_
    refine lv_goto (tgt := 114) hx hb dX7_nearer_109 (by decide) ?_
    exact sX7_nearer_114 S hr hlocks hK  v0 v1 v4 v8 s0 v0 (2 : Int32) v2 _ h _ _ _ hw (lv_sub hl [1, 2, 4, 6, 0] rfl)
set_option maxHeartbeats 4000000 in
set_option maxRecDepth 100000 in
theorem sX7_nearer_94 {p : Program} {l : Launch} {e : Env} {s : State} {m : MethodId} {args : Array Value} {below : List Frame} {meth : Method} {c : Code} {lo : Nat} {g : zg} {post : Int32 → zm_M → Prop}  (S : CallFix p m c cX7_nearer 12 s args zU RX7) (hr : meth.sig.returnType = (some .int)) (hlocks : meth.locks = false) (hK : zk_K zNF zNM g s)  : ∀ (v0 : Nat) (v1 : Int32) (v2 : Int64) (v4 : Int64) (v6 : Int64) (v8 : Int64) (M : zm_M), pX7_nearer_94 g.2 post  v0 v1 v2 v4 v6 v8 M → ∀ (H : Heap) (locs : List Loc) (ls : Array Slot), zW lo g s H locs M → lv_has ls 12 [(0, .ref v0), (1, .int v1), (2, .long v2), (4, .long v4), (6, .long v6), (8, .long v8)] → W p l e ({ frames := 4, cells := 0, slots := 0, locals := 114 } : Room) s m args below meth c H locs 0 0 (MQ below (va_Qi post (zc_B lo g) (zA lo)) args s 0 0 (zA lo)) (F0 m 94 ls []) := by
  obtain ⟨hx, hb, hml, hown, hts⟩ := id S
  intro v0 v1 v2 v4 v6 v8 M h H locs ls hw hl
  unfold pX7_nearer_94 at h
  refine lv_iconst (v := (1 : Int32)) hx hb dX7_nearer_94 (by decide) ?_
  refine lv_goto (tgt := 99) hx hb dX7_nearer_95 (by decide) ?_
  exact sX7_nearer_99 S hr hlocks hK  v0 v1 v2 v4 v6 v8 (1 : Int32) _ h _ _ _ hw (lv_sub hl [0, 1, 2, 3, 4, 5] rfl)
set_option maxHeartbeats 4000000 in
set_option maxRecDepth 100000 in
theorem sX7_nearer_98 {p : Program} {l : Launch} {e : Env} {s : State} {m : MethodId} {args : Array Value} {below : List Frame} {meth : Method} {c : Code} {lo : Nat} {g : zg} {post : Int32 → zm_M → Prop}  (S : CallFix p m c cX7_nearer 12 s args zU RX7) (hr : meth.sig.returnType = (some .int)) (hlocks : meth.locks = false) (hK : zk_K zNF zNM g s)  : ∀ (v0 : Nat) (v1 : Int32) (v2 : Int64) (v4 : Int64) (v6 : Int64) (v8 : Int64) (M : zm_M), pX7_nearer_98 g.2 post  v0 v1 v2 v4 v6 v8 M → ∀ (H : Heap) (locs : List Loc) (ls : Array Slot), zW lo g s H locs M → lv_has ls 12 [(0, .ref v0), (1, .int v1), (2, .long v2), (4, .long v4), (6, .long v6), (8, .long v8)] → W p l e ({ frames := 4, cells := 0, slots := 0, locals := 114 } : Room) s m args below meth c H locs 0 0 (MQ below (va_Qi post (zc_B lo g) (zA lo)) args s 0 0 (zA lo)) (F0 m 98 ls []) := by
  obtain ⟨hx, hb, hml, hown, hts⟩ := id S
  intro v0 v1 v2 v4 v6 v8 M h H locs ls hw hl
  unfold pX7_nearer_98 at h
  refine lv_iconst (v := (0 : Int32)) hx hb dX7_nearer_98 (by decide) ?_
  exact sX7_nearer_99 S hr hlocks hK  v0 v1 v2 v4 v6 v8 (0 : Int32) _ h _ _ _ hw (lv_sub hl [0, 1, 2, 3, 4, 5] rfl)
set_option maxHeartbeats 4000000 in
set_option maxRecDepth 100000 in
theorem kX7_nearer (l : Launch) (lo : Nat) (g : zg) (M : zm_M) (a0 : Nat) (a1 : Int32) (a2 : Int64) (a4 : Int64) (a6 : Int64) (a8 : Int64) (post : Int32 → zm_M → Prop) (h : pX7_nearer g.2 a0 a1 a2 a4 a6 a8 post M) : Met l yX7_nearer (Cond.code yX7_nearer cX7_nearer 12 (some .int) :: zU) (({ frames := 4, cells := 0, slots := 0, locals := 114 } : Room)) (zc_P zNF zNM lo g M [.ref a0, .int a1, .long a2, .long a4, .long a6, .long a8]) (va_Qi post (zc_B lo g) (zA lo)) 0 0 (zA lo) := by
  refine Met.ofW (cc := cX7_nearer) (maxL := 12) (ret := (some .int)) (by decide) rfl ?_
  intro p e s m args below meth c s₁ B hml hv
  obtain ⟨rfl, hR, hK⟩ := hv
  have hts := atoms_spec (ws := Cond.code yX7_nearer cX7_nearer 12 (some .int) :: zU) B.pre
  have hts : ∀ w ∈ zU, w.before _ s = true := fun w hw => hts w (List.mem_cons_of_mem _ hw)
  have hown : s.vm.findClass RX7 = some m.cls := findClass_of_methodNamed B.named
  have hx := B.exec
  have hb := B.bytes
  have hr := B.returns
  have hlocks := B.notSynchronized
  have S : CallFix p m c cX7_nearer 12 s ([.ref a0, .int a1, .long a2, .long a4, .long a6, .long a8] : List Value).toArray zU RX7 := ⟨hx, hb, hml, hown, hts⟩
  have hw : zW lo g s s.heap [] M := ⟨hR, va_S.rf⟩
  have hl := lv_entry ([.ref a0, .int a1, .long a2, .long a4, .long a6, .long a8]) (n := 12) (Nat.le_of_ble_eq_true rfl)
  rw [lg_entry_eq]
  generalize (lg_sl ([.ref a0, .int a1, .long a2, .long a4, .long a6, .long a8]) ++ List.replicate (12 - (lg_sl ([.ref a0, .int a1, .long a2, .long a4, .long a6, .long a8])).length) Slot.unset).toArray = ls at hl ⊢
  have hl : lv_has ls 12 [(0, .ref a0), (1, .int a1), (2, .long a2), (4, .long a4), (6, .long a6), (8, .long a8)] := hl
  unfold pX7_nearer at h
  refine lv_aload_n hx hb dX7_nearer_0 rfl (lv_at hl 0 rfl) ?_
  refine lv_bipush (v := (6 : Int32)) hx hb dX7_nearer_1 (by decide) ?_
  refine lv_lload_n hx hb dX7_nearer_3 rfl (lv_at hl 2 rfl) ?_
  refine lv_lload hx hb dX7_nearer_4 (lv_at hl 3 rfl) ?_
  obtain ⟨ho, h⟩ := h
  refine zr_Vv (As := [.int (6 : Int32), .long a2, .long a4]) (rest := []) S hK hw (kX7_distance l lo g M a0 (6 : Int32) a2 a4 _ h) (cwV 3 hts (zg_V zu_568 zu_569 zu_570 zu_450 zu_571) rfl rfl rfl (by decide +kernel) ⟨Nat.le_of_ble_eq_true rfl, Nat.le_of_ble_eq_true rfl⟩) (ci := 10) rfl ho rfl hl.1 rfl (Nat.le_of_ble_eq_true rfl) dX7_nearer_6 ⟨Nat.le_of_ble_eq_true rfl, Nat.le_of_ble_eq_true rfl⟩ (fun M1 H locs hw h => ?_)
  refine lv_aload_n hx hb dX7_nearer_9 rfl (lv_at hl 0 rfl) ?_
  refine lv_iconst (v := (4 : Int32)) hx hb dX7_nearer_10 (by decide) ?_
  refine lv_lload hx hb dX7_nearer_11 (lv_at hl 5 rfl) ?_
  obtain ⟨ho, h⟩ := h
  refine zr_Vv (As := [.int (4 : Int32), .long a8]) (rest := []) S hK hw (kX7_small l lo g M1 a0 (4 : Int32) a8 _ h) (cwV 2 hts (zg_V zu_509 zu_510 zu_511 zu_450 zu_512) rfl rfl rfl (by decide +kernel) ⟨Nat.le_of_ble_eq_true rfl, Nat.le_of_ble_eq_true rfl⟩) (ci := 10) rfl ho rfl hl.1 rfl (Nat.le_of_ble_eq_true rfl) dX7_nearer_13 ⟨Nat.le_of_ble_eq_true rfl, Nat.le_of_ble_eq_true rfl⟩ (fun M2 H locs hw h => ?_)
  refine lv_aload_n hx hb dX7_nearer_16 rfl (lv_at hl 0 rfl) ?_
  refine lv_bipush (v := (7 : Int32)) hx hb dX7_nearer_17 (by decide) ?_
  refine lv_bipush (v := (6 : Int32)) hx hb dX7_nearer_19 (by decide) ?_
  refine lv_iconst (v := (4 : Int32)) hx hb dX7_nearer_21 (by decide) ?_
  obtain ⟨ho, h⟩ := h
  refine zr_Vv (As := [.int (7 : Int32), .int (6 : Int32), .int (4 : Int32)]) (rest := []) S hK hw (kX7_times l lo g M2 a0 (7 : Int32) (6 : Int32) (4 : Int32) _ h) (cwV 3 hts (zg_V zu_525 zu_526 zu_527 zu_450 zu_528) rfl rfl rfl (by decide +kernel) ⟨Nat.le_of_ble_eq_true rfl, Nat.le_of_ble_eq_true rfl⟩) (ci := 10) rfl ho rfl hl.1 rfl (Nat.le_of_ble_eq_true rfl) dX7_nearer_22 ⟨Nat.le_of_ble_eq_true rfl, Nat.le_of_ble_eq_true rfl⟩ (fun M3 H locs hw h => ?_)
  refine lv_aload_n hx hb dX7_nearer_25 rfl (lv_at hl 0 rfl) ?_
  refine lv_bipush (v := (6 : Int32)) hx hb dX7_nearer_26 (by decide) ?_
  refine lv_lload hx hb dX7_nearer_28 (lv_at hl 4 rfl) ?_
  refine lv_lload hx hb dX7_nearer_30 (lv_at hl 5 rfl) ?_
  obtain ⟨ho, h⟩ := h
  refine zr_Vv (As := [.int (6 : Int32), .long a6, .long a8]) (rest := []) S hK hw (kX7_distance l lo g M3 a0 (6 : Int32) a6 a8 _ h) (cwV 3 hts (zg_V zu_568 zu_569 zu_570 zu_450 zu_571) rfl rfl rfl (by decide +kernel) ⟨Nat.le_of_ble_eq_true rfl, Nat.le_of_ble_eq_true rfl⟩) (ci := 10) rfl ho rfl hl.1 rfl (Nat.le_of_ble_eq_true rfl) dX7_nearer_32 ⟨Nat.le_of_ble_eq_true rfl, Nat.le_of_ble_eq_true rfl⟩ (fun M4 H locs hw h => ?_)
  refine lv_aload_n hx hb dX7_nearer_35 rfl (lv_at hl 0 rfl) ?_
  refine lv_iconst (v := (4 : Int32)) hx hb dX7_nearer_36 (by decide) ?_
  refine lv_lload hx hb dX7_nearer_37 (lv_at hl 3 rfl) ?_
  obtain ⟨ho, h⟩ := h
  refine zr_Vv (As := [.int (4 : Int32), .long a4]) (rest := []) S hK hw (kX7_small l lo g M4 a0 (4 : Int32) a4 _ h) (cwV 2 hts (zg_V zu_509 zu_510 zu_511 zu_450 zu_512) rfl rfl rfl (by decide +kernel) ⟨Nat.le_of_ble_eq_true rfl, Nat.le_of_ble_eq_true rfl⟩) (ci := 10) rfl ho rfl hl.1 rfl (Nat.le_of_ble_eq_true rfl) dX7_nearer_39 ⟨Nat.le_of_ble_eq_true rfl, Nat.le_of_ble_eq_true rfl⟩ (fun M5 H locs hw h => ?_)
  refine lv_aload_n hx hb dX7_nearer_42 rfl (lv_at hl 0 rfl) ?_
  refine lv_bipush (v := (8 : Int32)) hx hb dX7_nearer_43 (by decide) ?_
  refine lv_bipush (v := (6 : Int32)) hx hb dX7_nearer_45 (by decide) ?_
  refine lv_iconst (v := (4 : Int32)) hx hb dX7_nearer_47 (by decide) ?_
  obtain ⟨ho, h⟩ := h
  refine zr_Vv (As := [.int (8 : Int32), .int (6 : Int32), .int (4 : Int32)]) (rest := []) S hK hw (kX7_times l lo g M5 a0 (8 : Int32) (6 : Int32) (4 : Int32) _ h) (cwV 3 hts (zg_V zu_525 zu_526 zu_527 zu_450 zu_528) rfl rfl rfl (by decide +kernel) ⟨Nat.le_of_ble_eq_true rfl, Nat.le_of_ble_eq_true rfl⟩) (ci := 10) rfl ho rfl hl.1 rfl (Nat.le_of_ble_eq_true rfl) dX7_nearer_48 ⟨Nat.le_of_ble_eq_true rfl, Nat.le_of_ble_eq_true rfl⟩ (fun M6 H locs hw h => ?_)
  refine lv_aload_n hx hb dX7_nearer_51 rfl (lv_at hl 0 rfl) ?_
  refine lv_bipush (v := (7 : Int32)) hx hb dX7_nearer_52 (by decide) ?_
  refine lv_bipush (v := (8 : Int32)) hx hb dX7_nearer_54 (by decide) ?_
  obtain ⟨ho, h⟩ := h
  refine zr_Vi (As := [.int (7 : Int32), .int (8 : Int32)]) (rest := []) S hK hw (kX7_compared l lo g M6 a0 (7 : Int32) (8 : Int32) _ h) (cwV 2 hts (zg_V zu_457 zu_458 zu_459 zu_450 zu_460) rfl rfl rfl (by decide +kernel) ⟨Nat.le_of_ble_eq_true rfl, Nat.le_of_ble_eq_true rfl⟩) (ci := 10) rfl ho rfl hl.1 rfl (Nat.le_of_ble_eq_true rfl) dX7_nearer_56 ⟨Nat.le_of_ble_eq_true rfl, Nat.le_of_ble_eq_true rfl⟩ (fun r8 M7 H locs hw h => ?_)
  refine lv_istore (lv' := [(10, .int r8), (0, .ref a0), (1, .int a1), (2, .long a2), (4, .long a4), (6, .long a6), (8, .long a8)]) hx hb dX7_nearer_59 hl (by decide) rfl (fun ls hl => ?_)
  refine lv_iload hx hb dX7_nearer_61 (lv_at hl 0 rfl) ?_
  refine lv_if_lt (tgt := 94) hx hb dX7_nearer_63 (by decide) (fun hc => ?_) (fun hc => ?_)
  · have h := h.1 hc
    exact sX7_nearer_94 S hr hlocks hK  a0 a1 a2 a4 a6 a8 _ h _ _ _ hw (lv_sub hl [1, 2, 3, 4, 5, 6] rfl)
  · have h := h.2 hc
    refine lv_iload hx hb dX7_nearer_66 (lv_at hl 0 rfl) ?_
    refine lv_if_ne (tgt := 98) hx hb dX7_nearer_68 (by decide) (fun hc => ?_) (fun hc => ?_)
    · have h := h.1 hc
      exact sX7_nearer_98 S hr hlocks hK  a0 a1 a2 a4 a6 a8 _ h _ _ _ hw (lv_sub hl [1, 2, 3, 4, 5, 6] rfl)
    · have h := h.2 hc
      refine lv_lload hx hb dX7_nearer_71 (lv_at hl 4 rfl) ?_
      refine lv_lload hx hb dX7_nearer_73 (lv_at hl 6 rfl) ?_
      refine W.lcmp hx hb dX7_nearer_75 ?_
      refine lv_if_lt (tgt := 94) hx hb dX7_nearer_76 (by decide) (fun hc => ?_) (fun hc => ?_)
      · have h := h.1 (zc_lt.mp hc)
        exact sX7_nearer_94 S hr hlocks hK  a0 a1 a2 a4 a6 a8 _ h _ _ _ hw (lv_sub hl [1, 2, 3, 4, 5, 6] rfl)
      · have h := h.2 (fun q => hc (zc_lt.mpr q))
        refine lv_lload hx hb dX7_nearer_79 (lv_at hl 4 rfl) ?_
        refine lv_lload hx hb dX7_nearer_81 (lv_at hl 6 rfl) ?_
        refine W.lcmp hx hb dX7_nearer_83 ?_
        refine lv_if_ne (tgt := 98) hx hb dX7_nearer_84 (by decide) (fun hc => ?_) (fun hc => ?_)
        · have h := h.1 (fun q => hc (zc_eq.mpr q))
          exact sX7_nearer_98 S hr hlocks hK  a0 a1 a2 a4 a6 a8 _ h _ _ _ hw (lv_sub hl [1, 2, 3, 4, 5, 6] rfl)
        · have h := h.2 (zc_eq.mp hc)
          refine lv_lload_n hx hb dX7_nearer_87 rfl (lv_at hl 3 rfl) ?_
          refine lv_lload hx hb dX7_nearer_88 (lv_at hl 5 rfl) ?_
          refine W.lcmp hx hb dX7_nearer_90 ?_
          refine lv_if_ge (tgt := 98) hx hb dX7_nearer_91 (by decide) (fun hc => ?_) (fun hc => ?_)
          · have h := h.1 (zc_ge.mp hc)
            exact sX7_nearer_98 S hr hlocks hK  a0 a1 a2 a4 a6 a8 _ h _ _ _ hw (lv_sub hl [1, 2, 3, 4, 5, 6] rfl)
          · have h := h.2 (fun q => hc (zc_ge.mpr q))
            exact sX7_nearer_94 S hr hlocks hK  a0 a1 a2 a4 a6 a8 _ h _ _ _ hw (lv_sub hl [1, 2, 3, 4, 5, 6] rfl)
set_option maxHeartbeats 4000000 in
set_option maxRecDepth 100000 in
theorem sX7_best_76 {p : Program} {l : Launch} {e : Env} {s : State} {m : MethodId} {args : Array Value} {below : List Frame} {meth : Method} {c : Code} {lo : Nat} {g : zg} {post : Int32 → zm_M → Prop} {k122 : Nat → Int32 → Int64 → Int64 → Int64 → Int64 → Int64 → zm_M → Prop} {k196 : Nat → Int32 → Int64 → Int64 → zm_M → Prop} (S : CallFix p m c cX7_best 21 s args zU RX7) (hr : meth.sig.returnType = (some .int)) (hlocks : meth.locks = false) (hK : zk_K zNF zNM g s) (hk122 : ∀ (v0 : Nat) (v4 : Int32) (v5 : Int64) (v7 : Int64) (v9 : Int64) (v11 : Int64) (v13 : Int64) (M : zm_M), k122 v0 v4 v5 v7 v9 v11 v13 M → ∀ (H : Heap) (locs : List Loc) (ls : Array Slot), zW lo g s H locs M → lv_has ls 21 [(0, .ref v0), (4, .int v4), (5, .long v5), (7, .long v7), (9, .long v9), (11, .long v11), (13, .long v13)] → W p l e ({ frames := 5, cells := 0, slots := 0, locals := 145 } : Room) s m args below meth c H locs 0 0 (MQ below (va_Qi post (zc_B lo g) (zA lo)) args s 0 0 (zA lo)) (F0 m 122 ls [])) (hk196 : ∀ (v0 : Nat) (v4 : Int32) (v5 : Int64) (v7 : Int64) (M : zm_M), k196 v0 v4 v5 v7 M → ∀ (H : Heap) (locs : List Loc) (ls : Array Slot), zW lo g s H locs M → lv_has ls 21 [(0, .ref v0), (4, .int v4), (5, .long v5), (7, .long v7)] → W p l e ({ frames := 5, cells := 0, slots := 0, locals := 145 } : Room) s m args below meth c H locs 0 0 (MQ below (va_Qi post (zc_B lo g) (zA lo)) args s 0 0 (zA lo)) (F0 m 196 ls [])) : ∀ (n : Nat) (v0 : Nat) (v2 : Int64) (v4 : Int32) (v5 : Int64) (v7 : Int64) (v9 : Int64) (v11 : Int64) (M : zm_M), pX7_best_76 g.2 post k122 k196 n v0 v2 v4 v5 v7 v9 v11 M → ∀ (H : Heap) (locs : List Loc) (ls : Array Slot), zW lo g s H locs M → lv_has ls 21 [(0, .ref v0), (2, .long v2), (4, .int v4), (5, .long v5), (7, .long v7), (9, .long v9), (11, .long v11)] → W p l e ({ frames := 5, cells := 0, slots := 0, locals := 145 } : Room) s m args below meth c H locs 0 0 (MQ below (va_Qi post (zc_B lo g) (zA lo)) args s 0 0 (zA lo)) (F0 m 76 ls []) := by
  obtain ⟨hx, hb, hml, hown, hts⟩ := id S
  intro n
  induction n with
  | zero =>
    intro v0 v2 v4 v5 v7 v9 v11 M h
    exact False.elim h
  | succ n76 ih =>
    intro v0 v2 v4 v5 v7 v9 v11 M h H locs ls hw hl
    rw [pX7_best_76] at h
    refine lv_aload_n hx hb dX7_best_76 rfl (lv_at hl 0 rfl) ?_
    refine zr_ga (C := RX7) (T := TX7) (N := 14) (ci := 10) (k := 10) S hK hw zi_X7 rfl (by decide) zu_444 dX7_best_77 h (fun n_15 h => ?_)
    refine lv_bipush (v := (12 : Int32)) hx hb dX7_best_80 (by decide) ?_
    refine zr_iald S hK hw dX7_best_82 h (fun e16 h => ?_)
    refine lv_if_le (tgt := 196) hx hb dX7_best_83 (by decide) (fun hc => ?_) (fun hc => ?_)
    · have h := h.1 hc
      exact hk196 v0 v4 v5 v7 _ h _ _ _ hw (lv_sub hl [0, 2, 3, 4] rfl)
    · have h := h.2 hc
      refine lv_aload_n hx hb dX7_best_86 rfl (lv_at hl 0 rfl) ?_
      obtain ⟨ho, h⟩ := h
      refine zr_Vv (As := []) (rest := []) S hK hw (kX7_nextTerm l lo g M v0  _ h) (cwV 0 hts (zg_V zu_556 zu_557 zu_558 zu_450 zu_559) rfl rfl rfl (by decide +kernel) ⟨Nat.le_of_ble_eq_true rfl, Nat.le_of_ble_eq_true rfl⟩) (ci := 10) rfl ho rfl hl.1 rfl (Nat.le_of_ble_eq_true rfl) dX7_best_87 ⟨Nat.le_of_ble_eq_true rfl, Nat.le_of_ble_eq_true rfl⟩ (fun M17 H locs hw h => ?_)
      refine lv_lload_n hx hb dX7_best_90 rfl (lv_at hl 1 rfl) ?_
      refine lv_lload hx hb dX7_best_91 (lv_at hl 6 rfl) ?_
      refine lv_lsub hx hb dX7_best_93 ?_
      refine lv_lload hx hb dX7_best_94 (lv_at hl 4 rfl) ?_
      refine lv_ldiv hx hb dX7_best_96 h.1 ?_
      have h := h.2
      refine lv_topl (fun x18 ex18 => ?_)
      have h := h x18 ex18
      refine lv_lstore (lv' := [(13, .long x18), (0, .ref v0), (2, .long v2), (4, .int v4), (5, .long v5), (7, .long v7), (9, .long v9), (11, .long v11)]) hx hb dX7_best_97 hl (by decide) rfl (fun ls hl => ?_)
      refine lv_aload_n hx hb dX7_best_99 rfl (lv_at hl 1 rfl) ?_
      refine lv_bipush (v := (10 : Int32)) hx hb dX7_best_100 (by decide) ?_
      obtain ⟨ho, h⟩ := h
      refine zr_Vi (As := [.int (10 : Int32)]) (rest := []) S hK hw (kX7_bits l lo g M17 v0 (10 : Int32) _ h) (cwV 1 hts (zg_V zu_488 zu_489 zu_490 zu_450 zu_491) rfl rfl rfl (by decide +kernel) ⟨Nat.le_of_ble_eq_true rfl, Nat.le_of_ble_eq_true rfl⟩) (ci := 10) rfl ho rfl hl.1 rfl (Nat.le_of_ble_eq_true rfl) dX7_best_102 ⟨Nat.le_of_ble_eq_true rfl, Nat.le_of_ble_eq_true rfl⟩ (fun r20 M19 H locs hw h => ?_)
      refine lv_bipush (v := (63 : Int32)) hx hb dX7_best_105 (by decide) ?_
      refine lv_icmp_gt (tgt := 122) hx hb dX7_best_107 (by decide) (fun hc => ?_) (fun hc => ?_)
      · have h := h.1 hc
        exact hk122 v0 v4 v5 v7 v9 v11 x18 _ h _ _ _ hw (lv_sub hl [1, 3, 4, 5, 6, 7, 0] rfl)
      · have h := h.2 hc
        refine lv_aload_n hx hb dX7_best_110 rfl (lv_at hl 1 rfl) ?_
        refine lv_bipush (v := (10 : Int32)) hx hb dX7_best_111 (by decide) ?_
        obtain ⟨ho, h⟩ := h
        refine zr_Vl (As := [.int (10 : Int32)]) (rest := []) S hK hw (kX7_asLong l lo g M19 v0 (10 : Int32) _ h) (cwV 1 hts (zg_V zu_572 zu_573 zu_574 zu_450 zu_575) rfl rfl rfl (by decide +kernel) ⟨Nat.le_of_ble_eq_true rfl, Nat.le_of_ble_eq_true rfl⟩) (ci := 10) rfl ho rfl hl.1 rfl (Nat.le_of_ble_eq_true rfl) dX7_best_113 ⟨Nat.le_of_ble_eq_true rfl, Nat.le_of_ble_eq_true rfl⟩ (fun r22 M21 H locs hw h => ?_)
        refine lv_lload hx hb dX7_best_116 (lv_at hl 0 rfl) ?_
        refine W.lcmp hx hb dX7_best_118 ?_
        refine lv_if_le (tgt := 149) hx hb dX7_best_119 (by decide) (fun hc => ?_) (fun hc => ?_)
        · have h := h.1 (zc_le.mp hc)
          refine lv_aload_n hx hb dX7_best_149 rfl (lv_at hl 1 rfl) ?_
          refine lv_bipush (v := (10 : Int32)) hx hb dX7_best_150 (by decide) ?_
          obtain ⟨ho, h⟩ := h
          refine zr_Vl (As := [.int (10 : Int32)]) (rest := []) S hK hw (kX7_asLong l lo g M21 v0 (10 : Int32) _ h) (cwV 1 hts (zg_V zu_572 zu_573 zu_574 zu_450 zu_575) rfl rfl rfl (by decide +kernel) ⟨Nat.le_of_ble_eq_true rfl, Nat.le_of_ble_eq_true rfl⟩) (ci := 10) rfl ho rfl hl.1 rfl (Nat.le_of_ble_eq_true rfl) dX7_best_152 ⟨Nat.le_of_ble_eq_true rfl, Nat.le_of_ble_eq_true rfl⟩ (fun r24 M23 H locs hw h => ?_)
          refine lv_lstore (lv' := [(15, .long r24), (13, .long x18), (0, .ref v0), (2, .long v2), (4, .int v4), (5, .long v5), (7, .long v7), (9, .long v9), (11, .long v11)]) hx hb dX7_best_155 hl (by decide) rfl (fun ls hl => ?_)
          refine lv_lload hx hb dX7_best_157 (lv_at hl 7 rfl) ?_
          refine lv_lload hx hb dX7_best_159 (lv_at hl 0 rfl) ?_
          refine lv_lload hx hb dX7_best_161 (lv_at hl 5 rfl) ?_
          refine lv_lmul hx hb dX7_best_163 ?_
          refine lv_ladd hx hb dX7_best_164 ?_
          refine lv_topl (fun x25 ex25 => ?_)
          have h := h x25 ex25
          refine lv_lstore (lv' := [(17, .long x25), (15, .long r24), (13, .long x18), (0, .ref v0), (2, .long v2), (4, .int v4), (5, .long v5), (7, .long v7), (9, .long v9), (11, .long v11)]) hx hb dX7_best_165 hl (by decide) rfl (fun ls hl => ?_)
          refine lv_lload hx hb dX7_best_167 (lv_at hl 9 rfl) ?_
          refine lv_lload hx hb dX7_best_169 (lv_at hl 1 rfl) ?_
          refine lv_lload hx hb dX7_best_171 (lv_at hl 7 rfl) ?_
          refine lv_lmul hx hb dX7_best_173 ?_
          refine lv_ladd hx hb dX7_best_174 ?_
          refine lv_topl (fun x26 ex26 => ?_)
          have h := h x26 ex26
          refine lv_lstore (lv' := [(19, .long x26), (17, .long x25), (15, .long r24), (13, .long x18), (0, .ref v0), (2, .long v2), (4, .int v4), (5, .long v5), (7, .long v7), (9, .long v9), (11, .long v11)]) hx hb dX7_best_175 hl (by decide) rfl (fun ls hl => ?_)
          refine lv_lload hx hb dX7_best_177 (lv_at hl 7 rfl) ?_
          refine lv_lstore (lv' := [(9, .long v5), (19, .long x26), (17, .long x25), (15, .long r24), (13, .long x18), (0, .ref v0), (2, .long v2), (4, .int v4), (5, .long v5), (7, .long v7), (11, .long v11)]) hx hb dX7_best_179 hl (by decide) rfl (fun ls hl => ?_)
          refine lv_lload hx hb dX7_best_181 (lv_at hl 9 rfl) ?_
          refine lv_lstore (lv' := [(11, .long v7), (9, .long v5), (19, .long x26), (17, .long x25), (15, .long r24), (13, .long x18), (0, .ref v0), (2, .long v2), (4, .int v4), (5, .long v5), (7, .long v7)]) hx hb dX7_best_183 hl (by decide) rfl (fun ls hl => ?_)
          refine lv_lload hx hb dX7_best_185 (lv_at hl 3 rfl) ?_
          refine lv_lstore (lv' := [(5, .long x25), (11, .long v7), (9, .long v5), (19, .long x26), (17, .long x25), (15, .long r24), (13, .long x18), (0, .ref v0), (2, .long v2), (4, .int v4), (7, .long v7)]) hx hb dX7_best_187 hl (by decide) rfl (fun ls hl => ?_)
          refine lv_lload hx hb dX7_best_189 (lv_at hl 3 rfl) ?_
          refine lv_lstore (lv' := [(7, .long x26), (5, .long x25), (11, .long v7), (9, .long v5), (19, .long x26), (17, .long x25), (15, .long r24), (13, .long x18), (0, .ref v0), (2, .long v2), (4, .int v4)]) hx hb dX7_best_191 hl (by decide) rfl (fun ls hl => ?_)
          refine lv_goto (tgt := 76) hx hb dX7_best_193 (by decide) ?_
          exact ih v0 v2 v4 x25 x26 v5 v7 _ h _ _ _ hw (lv_sub hl [8, 9, 10, 1, 0, 3, 2] rfl)
        · have h := h.2 (fun q => hc (zc_le.mpr q))
          exact hk122 v0 v4 v5 v7 v9 v11 x18 _ h _ _ _ hw (lv_sub hl [1, 3, 4, 5, 6, 7, 0] rfl)
set_option maxHeartbeats 4000000 in
set_option maxRecDepth 100000 in
theorem sX7_best_122 {p : Program} {l : Launch} {e : Env} {s : State} {m : MethodId} {args : Array Value} {below : List Frame} {meth : Method} {c : Code} {lo : Nat} {g : zg} {post : Int32 → zm_M → Prop}  (S : CallFix p m c cX7_best 21 s args zU RX7) (hr : meth.sig.returnType = (some .int)) (hlocks : meth.locks = false) (hK : zk_K zNF zNM g s)  : ∀ (v0 : Nat) (v4 : Int32) (v5 : Int64) (v7 : Int64) (v9 : Int64) (v11 : Int64) (v13 : Int64) (M : zm_M), pX7_best_122 g.2 post  v0 v4 v5 v7 v9 v11 v13 M → ∀ (H : Heap) (locs : List Loc) (ls : Array Slot), zW lo g s H locs M → lv_has ls 21 [(0, .ref v0), (4, .int v4), (5, .long v5), (7, .long v7), (9, .long v9), (11, .long v11), (13, .long v13)] → W p l e ({ frames := 5, cells := 0, slots := 0, locals := 145 } : Room) s m args below meth c H locs 0 0 (MQ below (va_Qi post (zc_B lo g) (zA lo)) args s 0 0 (zA lo)) (F0 m 122 ls []) := by
  obtain ⟨hx, hb, hml, hown, hts⟩ := id S
  intro v0 v4 v5 v7 v9 v11 v13 M h H locs ls hw hl
  unfold pX7_best_122 at h
  refine lv_aload_n hx hb dX7_best_122 rfl (lv_at hl 0 rfl) ?_
  refine lv_iload hx hb dX7_best_123 (lv_at hl 1 rfl) ?_
  refine lv_lload hx hb dX7_best_125 (lv_at hl 2 rfl) ?_
  refine lv_lload hx hb dX7_best_127 (lv_at hl 3 rfl) ?_
  refine lv_lload hx hb dX7_best_129 (lv_at hl 4 rfl) ?_
  refine lv_lload hx hb dX7_best_131 (lv_at hl 6 rfl) ?_
  refine lv_lload hx hb dX7_best_133 (lv_at hl 2 rfl) ?_
  refine lv_lmul hx hb dX7_best_135 ?_
  refine lv_ladd hx hb dX7_best_136 ?_
  refine lv_lload hx hb dX7_best_137 (lv_at hl 5 rfl) ?_
  refine lv_lload hx hb dX7_best_139 (lv_at hl 6 rfl) ?_
  refine lv_lload hx hb dX7_best_141 (lv_at hl 3 rfl) ?_
  refine lv_lmul hx hb dX7_best_143 ?_
  refine lv_ladd hx hb dX7_best_144 ?_
  obtain ⟨ho, h⟩ := h
  refine zr_Vi (As := [.int v4, .long v5, .long v7, .long (v9 + (v13 * v5)), .long (v11 + (v13 * v7))]) (rest := []) S hK hw (kX7_nearer l lo g M v0 v4 v5 v7 (v9 + (v13 * v5)) (v11 + (v13 * v7)) _ h) (cwV 5 hts (zg_V zu_576 zu_577 zu_578 zu_450 zu_579) rfl rfl rfl (by decide +kernel) ⟨Nat.le_of_ble_eq_true rfl, Nat.le_of_ble_eq_true rfl⟩) (ci := 10) rfl ho rfl hl.1 rfl (Nat.le_of_ble_eq_true rfl) dX7_best_145 ⟨Nat.le_of_ble_eq_true rfl, Nat.le_of_ble_eq_true rfl⟩ (fun r36 M35 H locs hw h => ?_)
  exact zr_ri S hr hlocks hw h dX7_best_148
set_option maxHeartbeats 4000000 in
set_option maxRecDepth 100000 in
theorem kX7_best (l : Launch) (lo : Nat) (g : zg) (M : zm_M) (a0 : Nat) (a1 : Int32) (a2 : Int64) (post : Int32 → zm_M → Prop) (h : pX7_best g.2 a0 a1 a2 post M) : Met l yX7_best (Cond.code yX7_best cX7_best 21 (some .int) :: zU) (({ frames := 5, cells := 0, slots := 0, locals := 145 } : Room)) (zc_P zNF zNM lo g M [.ref a0, .int a1, .long a2]) (va_Qi post (zc_B lo g) (zA lo)) 0 0 (zA lo) := by
  refine Met.ofW (cc := cX7_best) (maxL := 21) (ret := (some .int)) (by decide) rfl ?_
  intro p e s m args below meth c s₁ B hml hv
  obtain ⟨rfl, hR, hK⟩ := hv
  have hts := atoms_spec (ws := Cond.code yX7_best cX7_best 21 (some .int) :: zU) B.pre
  have hts : ∀ w ∈ zU, w.before _ s = true := fun w hw => hts w (List.mem_cons_of_mem _ hw)
  have hown : s.vm.findClass RX7 = some m.cls := findClass_of_methodNamed B.named
  have hx := B.exec
  have hb := B.bytes
  have hr := B.returns
  have hlocks := B.notSynchronized
  have S : CallFix p m c cX7_best 21 s ([.ref a0, .int a1, .long a2] : List Value).toArray zU RX7 := ⟨hx, hb, hml, hown, hts⟩
  have hw : zW lo g s s.heap [] M := ⟨hR, va_S.rf⟩
  have hl := lv_entry ([.ref a0, .int a1, .long a2]) (n := 21) (Nat.le_of_ble_eq_true rfl)
  rw [lg_entry_eq]
  generalize (lg_sl ([.ref a0, .int a1, .long a2]) ++ List.replicate (21 - (lg_sl ([.ref a0, .int a1, .long a2])).length) Slot.unset).toArray = ls at hl ⊢
  have hl : lv_has ls 21 [(0, .ref a0), (1, .int a1), (2, .long a2)] := hl
  unfold pX7_best at h
  refine lv_aload_n hx hb dX7_best_0 rfl (lv_at hl 0 rfl) ?_
  refine lv_iconst (v := (0 : Int32)) hx hb dX7_best_1 (by decide) ?_
  refine zr_p (C := RX7) (T := TX7) (N := 14) (ci := 10) (k := 0) S hK hw zi_X7 tyX7 tyX7_ok nmX7 rfl (by decide) zu_443 rfl rfl rfl dX7_best_2 h (fun M1 H locs hw h => ?_)
  refine lv_aload_n hx hb dX7_best_5 rfl (lv_at hl 0 rfl) ?_
  refine lv_iload_n hx hb dX7_best_6 rfl (lv_at hl 1 rfl) ?_
  obtain ⟨ho, h⟩ := h
  refine zr_Vi (As := [.int a1]) (rest := []) S hK hw (kX7_isNumber l lo g M1 a0 a1 _ h) (cwV 1 hts (zg_V zu_517 zu_518 zu_519 zu_450 zu_520) rfl rfl rfl (by decide +kernel) ⟨Nat.le_of_ble_eq_true rfl, Nat.le_of_ble_eq_true rfl⟩) (ci := 10) rfl ho rfl hl.1 rfl (Nat.le_of_ble_eq_true rfl) dX7_best_7 ⟨Nat.le_of_ble_eq_true rfl, Nat.le_of_ble_eq_true rfl⟩ (fun r3 M2 H locs hw h => ?_)
  refine lv_if_eq (tgt := 19) hx hb dX7_best_10 (by decide) (fun hc => ?_) (fun hc => ?_)
  · have h := h.1 hc
    refine lv_iconst (v := (-1 : Int32)) hx hb dX7_best_19 (by decide) ?_
    exact zr_ri S hr hlocks hw h dX7_best_20
  · have h := h.2 hc
    refine lv_lload_n hx hb dX7_best_13 rfl (lv_at hl 2 rfl) ?_
    refine lv_lconst (v := (1 : Int64)) hx hb dX7_best_14 (by decide) ?_
    refine W.lcmp hx hb dX7_best_15 ?_
    refine lv_if_ge (tgt := 21) hx hb dX7_best_16 (by decide) (fun hc => ?_) (fun hc => ?_)
    · have h := h.1 (zc_ge.mp hc)
      refine lv_aload_n hx hb dX7_best_21 rfl (lv_at hl 0 rfl) ?_
      obtain ⟨ho, h⟩ := h
      refine zr_Vi (As := []) (rest := []) S hK hw (kX7_free l lo g M2 a0  _ h) (cwV 0 hts (zg_V zu_492 zu_493 zu_494 zu_450 zu_495) rfl rfl rfl (by decide +kernel) ⟨Nat.le_of_ble_eq_true rfl, Nat.le_of_ble_eq_true rfl⟩) (ci := 10) rfl ho rfl hl.1 rfl (Nat.le_of_ble_eq_true rfl) dX7_best_22 ⟨Nat.le_of_ble_eq_true rfl, Nat.le_of_ble_eq_true rfl⟩ (fun r5 M4 H locs hw h => ?_)
      refine lv_bipush (v := (-3 : Int32)) hx hb dX7_best_25 (by decide) ?_
      refine lv_icmp_ne (tgt := 33) hx hb dX7_best_27 (by decide) (fun hc => ?_) (fun hc => ?_)
      · have h := h.1 hc
        refine lv_aload_n hx hb dX7_best_33 rfl (lv_at hl 0 rfl) ?_
        refine lv_iload_n hx hb dX7_best_34 rfl (lv_at hl 1 rfl) ?_
        obtain ⟨ho, h⟩ := h
        refine zr_Vi (As := [.int a1]) (rest := []) S hK hw (kX7_floor l lo g M4 a0 a1 _ h) (cwV 1 hts (zg_V zu_544 zu_545 zu_546 zu_450 zu_547) rfl rfl rfl (by decide +kernel) ⟨Nat.le_of_ble_eq_true rfl, Nat.le_of_ble_eq_true rfl⟩) (ci := 10) rfl ho rfl hl.1 rfl (Nat.le_of_ble_eq_true rfl) dX7_best_35 ⟨Nat.le_of_ble_eq_true rfl, Nat.le_of_ble_eq_true rfl⟩ (fun r7 M6 H locs hw h => ?_)
        refine lv_istore (lv' := [(4, .int r7), (0, .ref a0), (1, .int a1), (2, .long a2)]) hx hb dX7_best_38 hl (by decide) rfl (fun ls hl => ?_)
        refine lv_aload_n hx hb dX7_best_40 rfl (lv_at hl 1 rfl) ?_
        refine lv_bipush (v := (15 : Int32)) hx hb dX7_best_41 (by decide) ?_
        refine lv_bipush (v := (10 : Int32)) hx hb dX7_best_43 (by decide) ?_
        obtain ⟨ho, h⟩ := h
        refine zr_Vv (As := [.int (15 : Int32), .int (10 : Int32)]) (rest := []) S hK hw (kX7_copy l lo g M6 a0 (15 : Int32) (10 : Int32) _ h) (cwV 2 hts (zg_V zu_465 zu_466 zu_467 zu_450 zu_468) rfl rfl rfl (by decide +kernel) ⟨Nat.le_of_ble_eq_true rfl, Nat.le_of_ble_eq_true rfl⟩) (ci := 10) rfl ho rfl hl.1 rfl (Nat.le_of_ble_eq_true rfl) dX7_best_45 ⟨Nat.le_of_ble_eq_true rfl, Nat.le_of_ble_eq_true rfl⟩ (fun M8 H locs hw h => ?_)
        refine lv_aload_n hx hb dX7_best_48 rfl (lv_at hl 1 rfl) ?_
        refine lv_bipush (v := (21 : Int32)) hx hb dX7_best_49 (by decide) ?_
        refine lv_bipush (v := (12 : Int32)) hx hb dX7_best_51 (by decide) ?_
        obtain ⟨ho, h⟩ := h
        refine zr_Vv (As := [.int (21 : Int32), .int (12 : Int32)]) (rest := []) S hK hw (kX7_copy l lo g M8 a0 (21 : Int32) (12 : Int32) _ h) (cwV 2 hts (zg_V zu_465 zu_466 zu_467 zu_450 zu_468) rfl rfl rfl (by decide +kernel) ⟨Nat.le_of_ble_eq_true rfl, Nat.le_of_ble_eq_true rfl⟩) (ci := 10) rfl ho rfl hl.1 rfl (Nat.le_of_ble_eq_true rfl) dX7_best_53 ⟨Nat.le_of_ble_eq_true rfl, Nat.le_of_ble_eq_true rfl⟩ (fun M9 H locs hw h => ?_)
        refine lv_aload_n hx hb dX7_best_56 rfl (lv_at hl 1 rfl) ?_
        refine lv_bipush (v := (22 : Int32)) hx hb dX7_best_57 (by decide) ?_
        refine lv_bipush (v := (11 : Int32)) hx hb dX7_best_59 (by decide) ?_
        obtain ⟨ho, h⟩ := h
        refine zr_Vv (As := [.int (22 : Int32), .int (11 : Int32)]) (rest := []) S hK hw (kX7_copy l lo g M9 a0 (22 : Int32) (11 : Int32) _ h) (cwV 2 hts (zg_V zu_465 zu_466 zu_467 zu_450 zu_468) rfl rfl rfl (by decide +kernel) ⟨Nat.le_of_ble_eq_true rfl, Nat.le_of_ble_eq_true rfl⟩) (ci := 10) rfl ho rfl hl.1 rfl (Nat.le_of_ble_eq_true rfl) dX7_best_61 ⟨Nat.le_of_ble_eq_true rfl, Nat.le_of_ble_eq_true rfl⟩ (fun M10 H locs hw h => ?_)
        refine lv_lconst (v := (0 : Int64)) hx hb dX7_best_64 (by decide) ?_
        refine lv_topl (fun x11 ex11 => ?_)
        have h := h x11 ex11
        refine lv_lstore (lv' := [(5, .long x11), (4, .int r7), (0, .ref a0), (1, .int a1), (2, .long a2)]) hx hb dX7_best_65 hl (by decide) rfl (fun ls hl => ?_)
        refine lv_lconst (v := (1 : Int64)) hx hb dX7_best_67 (by decide) ?_
        refine lv_topl (fun x12 ex12 => ?_)
        have h := h x12 ex12
        refine lv_lstore (lv' := [(7, .long x12), (5, .long x11), (4, .int r7), (0, .ref a0), (1, .int a1), (2, .long a2)]) hx hb dX7_best_68 hl (by decide) rfl (fun ls hl => ?_)
        refine lv_lconst (v := (1 : Int64)) hx hb dX7_best_70 (by decide) ?_
        refine lv_topl (fun x13 ex13 => ?_)
        have h := h x13 ex13
        refine lv_lstore (lv' := [(9, .long x13), (7, .long x12), (5, .long x11), (4, .int r7), (0, .ref a0), (1, .int a1), (2, .long a2)]) hx hb dX7_best_71 hl (by decide) rfl (fun ls hl => ?_)
        refine lv_lconst (v := (0 : Int64)) hx hb dX7_best_73 (by decide) ?_
        refine lv_topl (fun x14 ex14 => ?_)
        have h := h x14 ex14
        refine lv_lstore (lv' := [(11, .long x14), (9, .long x13), (7, .long x12), (5, .long x11), (4, .int r7), (0, .ref a0), (1, .int a1), (2, .long a2)]) hx hb dX7_best_74 hl (by decide) rfl (fun ls hl => ?_)
        obtain ⟨n76, h⟩ := h
        refine sX7_best_76 S hr hlocks hK (fun w27 w28 w29 w30 w31 w32 w33 M34 h H locs ls hw hl => ?_) (fun w37 w38 w39 w40 M41 h H locs ls hw hl => ?_) n76 a0 a2 r7 x11 x12 x13 x14 _ h _ _ _ hw (lv_sub hl [5, 7, 4, 3, 2, 1, 0] rfl)
        · exact sX7_best_122 S hr hlocks hK  w27 w28 w29 w30 w31 w32 w33 _ h _ _ _ hw (lv_sub hl [0, 1, 2, 3, 4, 5, 6] rfl)
        · refine lv_aload_n hx hb dX7_best_196 rfl (lv_at hl 0 rfl) ?_
          refine lv_iconst (v := (2 : Int32)) hx hb dX7_best_197 (by decide) ?_
          refine lv_lload hx hb dX7_best_198 (lv_at hl 2 rfl) ?_
          obtain ⟨ho, h⟩ := h
          refine zr_Vv (As := [.int (2 : Int32), .long w39]) (rest := []) S hK hw (kX7_small l lo g M41 w37 (2 : Int32) w39 _ h) (cwV 2 hts (zg_V zu_509 zu_510 zu_511 zu_450 zu_512) rfl rfl rfl (by decide +kernel) ⟨Nat.le_of_ble_eq_true rfl, Nat.le_of_ble_eq_true rfl⟩) (ci := 10) rfl ho rfl hl.1 rfl (Nat.le_of_ble_eq_true rfl) dX7_best_200 ⟨Nat.le_of_ble_eq_true rfl, Nat.le_of_ble_eq_true rfl⟩ (fun M42 H locs hw h => ?_)
          refine lv_aload_n hx hb dX7_best_203 rfl (lv_at hl 0 rfl) ?_
          refine lv_iconst (v := (3 : Int32)) hx hb dX7_best_204 (by decide) ?_
          refine lv_lload hx hb dX7_best_205 (lv_at hl 3 rfl) ?_
          obtain ⟨ho, h⟩ := h
          refine zr_Vv (As := [.int (3 : Int32), .long w40]) (rest := []) S hK hw (kX7_small l lo g M42 w37 (3 : Int32) w40 _ h) (cwV 2 hts (zg_V zu_509 zu_510 zu_511 zu_450 zu_512) rfl rfl rfl (by decide +kernel) ⟨Nat.le_of_ble_eq_true rfl, Nat.le_of_ble_eq_true rfl⟩) (ci := 10) rfl ho rfl hl.1 rfl (Nat.le_of_ble_eq_true rfl) dX7_best_207 ⟨Nat.le_of_ble_eq_true rfl, Nat.le_of_ble_eq_true rfl⟩ (fun M43 H locs hw h => ?_)
          refine lv_aload_n hx hb dX7_best_210 rfl (lv_at hl 0 rfl) ?_
          refine lv_iload hx hb dX7_best_211 (lv_at hl 1 rfl) ?_
          obtain ⟨ho, h⟩ := h
          refine zr_Vi (As := [.int w38]) (rest := []) S hK hw (kX7_keepMixed l lo g M43 w37 w38 _ h) (cwV 1 hts (zg_V zu_564 zu_565 zu_566 zu_450 zu_567) rfl rfl rfl (by decide +kernel) ⟨Nat.le_of_ble_eq_true rfl, Nat.le_of_ble_eq_true rfl⟩) (ci := 10) rfl ho rfl hl.1 rfl (Nat.le_of_ble_eq_true rfl) dX7_best_213 ⟨Nat.le_of_ble_eq_true rfl, Nat.le_of_ble_eq_true rfl⟩ (fun r45 M44 H locs hw h => ?_)
          exact zr_ri S hr hlocks hw h dX7_best_216
      · have h := h.2 hc
        refine lv_bipush (v := (-3 : Int32)) hx hb dX7_best_30 (by decide) ?_
        exact zr_ri S hr hlocks hw h dX7_best_32
    · have h := h.2 (fun q => hc (zc_ge.mpr q))
      refine lv_iconst (v := (-1 : Int32)) hx hb dX7_best_19 (by decide) ?_
      exact zr_ri S hr hlocks hw h dX7_best_20
