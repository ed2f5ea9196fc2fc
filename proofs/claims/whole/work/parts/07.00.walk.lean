set_option maxHeartbeats 4000000 in
set_option maxRecDepth 100000 in
theorem kX5_isZero (l : Launch) (lo : Nat) (g : zg) (M : zm_M) (a0 : Nat) (post : Int32 → zm_M → Prop) (h : pX5_isZero g.2 a0 post M) : Met l yX5_isZero (Cond.code yX5_isZero cX5_isZero 1 (some .boolean) :: zU) (({ frames := 1, cells := 0, slots := 0, locals := 40 } : Room)) (zc_P zNF zNM lo g M [.ref a0]) (va_Qi post (zc_B lo g) (zA lo)) 0 0 (zA lo) := by
  refine Met.ofW (cc := cX5_isZero) (maxL := 1) (ret := (some .boolean)) (by decide) rfl ?_
  intro p e s m args below meth c s₁ B hml hv
  obtain ⟨rfl, hR, hK⟩ := hv
  have hts := atoms_spec (ws := Cond.code yX5_isZero cX5_isZero 1 (some .boolean) :: zU) B.pre
  have hts : ∀ w ∈ zU, w.before _ s = true := fun w hw => hts w (List.mem_cons_of_mem _ hw)
  have hown : s.vm.findClass RX5 = some m.cls := findClass_of_methodNamed B.named
  have hx := B.exec
  have hb := B.bytes
  have hr := B.returns
  have hlocks := B.notSynchronized
  have S : CallFix p m c cX5_isZero 1 s ([.ref a0] : List Value).toArray zU RX5 := ⟨hx, hb, hml, hown, hts⟩
  have hw : zW lo g s s.heap [] M := ⟨hR, va_S.rf⟩
  have hl := lv_entry ([.ref a0]) (n := 1) (Nat.le_of_ble_eq_true rfl)
  rw [lg_entry_eq]
  generalize (lg_sl ([.ref a0]) ++ List.replicate (1 - (lg_sl ([.ref a0])).length) Slot.unset).toArray = ls at hl ⊢
  have hl : lv_has ls 1 [(0, .ref a0)] := hl
  unfold pX5_isZero at h
  refine lv_aload_n hx hb dX5_isZero_0 rfl (lv_at hl 0 rfl) ?_
  refine zr_gi (C := RX5) (T := TX5) (N := 2) (ci := 8) (k := 1) S hK hw zi_X5 rfl (by decide) zu_0 dX5_isZero_1 h (fun used_1 h => ?_)
  refine lv_if_ne (tgt := 11) hx hb dX5_isZero_4 (by decide) (fun hc => ?_) (fun hc => ?_)
  · have h := h.1 hc
    refine lv_iconst (v := (0 : Int32)) hx hb dX5_isZero_11 (by decide) ?_
    exact zr_rz S hr hlocks hw h dX5_isZero_12
  · have h := h.2 hc
    refine lv_iconst (v := (1 : Int32)) hx hb dX5_isZero_7 (by decide) ?_
    refine lv_goto (tgt := 12) hx hb dX5_isZero_8 (by decide) ?_
    exact zr_rz S hr hlocks hw h dX5_isZero_12
set_option maxHeartbeats 4000000 in
set_option maxRecDepth 100000 in
theorem kX5_put (l : Launch) (lo : Nat) (g : zg) (M : zm_M) (a0 : Nat) (a1 : Int32) (a2 : Int64) (post : zm_M → Prop) (h : pX5_put g.2 a0 a1 a2 post M) : Met l yX5_put (Cond.code yX5_put cX5_put 4 none :: zU) (({ frames := 1, cells := 0, slots := 0, locals := 40 } : Room)) (zc_P zNF zNM lo g M [.ref a0, .int a1, .long a2]) (va_Qv post (zc_B lo g) (zA lo)) 0 0 (zA lo) := by
  refine Met.ofW (cc := cX5_put) (maxL := 4) (ret := none) (by decide) rfl ?_
  intro p e s m args below meth c s₁ B hml hv
  obtain ⟨rfl, hR, hK⟩ := hv
  have hts := atoms_spec (ws := Cond.code yX5_put cX5_put 4 none :: zU) B.pre
  have hts : ∀ w ∈ zU, w.before _ s = true := fun w hw => hts w (List.mem_cons_of_mem _ hw)
  have hown : s.vm.findClass RX5 = some m.cls := findClass_of_methodNamed B.named
  have hx := B.exec
  have hb := B.bytes
  have hr := B.returns
  have hlocks := B.notSynchronized
  have S : CallFix p m c cX5_put 4 s ([.ref a0, .int a1, .long a2] : List Value).toArray zU RX5 := ⟨hx, hb, hml, hown, hts⟩
  have hw : zW lo g s s.heap [] M := ⟨hR, va_S.rf⟩
  have hl := lv_entry ([.ref a0, .int a1, .long a2]) (n := 4) (Nat.le_of_ble_eq_true rfl)
  rw [lg_entry_eq]
  generalize (lg_sl ([.ref a0, .int a1, .long a2]) ++ List.replicate (4 - (lg_sl ([.ref a0, .int a1, .long a2])).length) Slot.unset).toArray = ls at hl ⊢
  have hl : lv_has ls 4 [(0, .ref a0), (1, .int a1), (2, .long a2)] := hl
  unfold pX5_put at h
  refine lv_iload_n hx hb dX5_put_0 rfl (lv_at hl 1 rfl) ?_
  refine lv_if_lt (tgt := 21) hx hb dX5_put_1 (by decide) (fun hc => ?_) (fun hc => ?_)
  · have h := h.1 hc
    exact zr_rv S hr hlocks hw h dX5_put_21
  · have h := h.2 hc
    refine lv_iload_n hx hb dX5_put_4 rfl (lv_at hl 1 rfl) ?_
    refine lv_aload_n hx hb dX5_put_5 rfl (lv_at hl 0 rfl) ?_
    refine zr_ga (C := RX5) (T := TX5) (N := 2) (ci := 8) (k := 0) S hK hw zi_X5 rfl (by decide) zu_1 dX5_put_6 h (fun row_1 h => ?_)
    refine zr_len (t0 := 0) (ty := .int) S hK hw rfl dX5_put_9 h (fun len2 h => ?_)
    refine lv_icmp_ge (tgt := 21) hx hb dX5_put_10 (by decide) (fun hc => ?_) (fun hc => ?_)
    · have h := h.1 hc
      exact zr_rv S hr hlocks hw h dX5_put_21
    · have h := h.2 hc
      refine lv_aload_n hx hb dX5_put_13 rfl (lv_at hl 0 rfl) ?_
      refine zr_ga (C := RX5) (T := TX5) (N := 2) (ci := 8) (k := 0) S hK hw zi_X5 rfl (by decide) zu_1 dX5_put_14 h (fun row_3 h => ?_)
      refine lv_iload_n hx hb dX5_put_17 rfl (lv_at hl 1 rfl) ?_
      refine lv_lload_n hx hb dX5_put_18 rfl (lv_at hl 2 rfl) ?_
      refine lv_l2i hx hb dX5_put_19 rfl ?_
      refine zr_iast S hK hw dX5_put_20 h (fun M4 H locs hw h => ?_)
      exact zr_rv S hr hlocks hw h dX5_put_21
set_option maxHeartbeats 4000000 in
set_option maxRecDepth 100000 in
theorem sX5_trim_14 {p : Program} {l : Launch} {e : Env} {s : State} {m : MethodId} {args : Array Value} {below : List Frame} {meth : Method} {c : Code} {lo : Nat} {g : zg} {post : zm_M → Prop}  (S : CallFix p m c cX5_trim 3 s args zU RX5) (hr : meth.sig.returnType = none) (hlocks : meth.locks = false) (hK : zk_K zNF zNM g s)  : ∀ (n : Nat) (v0 : Nat) (v2 : Int32) (M : zm_M), pX5_trim_14 g.2 post  n v0 v2 M → ∀ (H : Heap) (locs : List Loc) (ls : Array Slot), zW lo g s H locs M → lv_has ls 3 [(0, .ref v0), (2, .int v2)] → W p l e ({ frames := 1, cells := 0, slots := 0, locals := 40 } : Room) s m args below meth c H locs 0 0 (MQ below (va_Qv post (zc_B lo g) (zA lo)) args s 0 0 (zA lo)) (F0 m 14 ls []) := by
  obtain ⟨hx, hb, hml, hown, hts⟩ := id S
  intro n
  induction n with
  | zero =>
    intro v0 v2 M h
    exact False.elim h
  | succ n14 ih =>
    intro v0 v2 M h H locs ls hw hl
    rw [pX5_trim_14] at h
    refine lv_iload_n hx hb dX5_trim_14 rfl (lv_at hl 1 rfl) ?_
    refine lv_if_le (tgt := 35) hx hb dX5_trim_15 (by decide) (fun hc => ?_) (fun hc => ?_)
    · have h := h.1 hc
      refine lv_aload_n hx hb dX5_trim_35 rfl (lv_at hl 0 rfl) ?_
      refine lv_iload_n hx hb dX5_trim_36 rfl (lv_at hl 1 rfl) ?_
      refine zr_p (C := RX5) (T := TX5) (N := 2) (ci := 8) (k := 1) S hK hw zi_X5 tyX5 tyX5_ok nmX5 rfl (by decide) zu_0 rfl rfl rfl dX5_trim_37 h (fun M4 H locs hw h => ?_)
      exact zr_rv S hr hlocks hw h dX5_trim_40
    · have h := h.2 hc
      refine lv_aload_n hx hb dX5_trim_18 rfl (lv_at hl 0 rfl) ?_
      refine zr_ga (C := RX5) (T := TX5) (N := 2) (ci := 8) (k := 0) S hK hw zi_X5 rfl (by decide) zu_1 dX5_trim_19 h (fun row_5 h => ?_)
      refine lv_iload_n hx hb dX5_trim_22 rfl (lv_at hl 1 rfl) ?_
      refine lv_iconst (v := (1 : Int32)) hx hb dX5_trim_23 (by decide) ?_
      refine lv_isub hx hb dX5_trim_24 ?_
      refine zr_iald S hK hw dX5_trim_25 h (fun e6 h => ?_)
      refine lv_if_ne (tgt := 35) hx hb dX5_trim_26 (by decide) (fun hc => ?_) (fun hc => ?_)
      · have h := h.1 hc
        refine lv_aload_n hx hb dX5_trim_35 rfl (lv_at hl 0 rfl) ?_
        refine lv_iload_n hx hb dX5_trim_36 rfl (lv_at hl 1 rfl) ?_
        refine zr_p (C := RX5) (T := TX5) (N := 2) (ci := 8) (k := 1) S hK hw zi_X5 tyX5 tyX5_ok nmX5 rfl (by decide) zu_0 rfl rfl rfl dX5_trim_37 h (fun M7 H locs hw h => ?_)
        exact zr_rv S hr hlocks hw h dX5_trim_40
      · have h := h.2 hc
        obtain ⟨x8, ex8⟩ : ∃ z : Int32, z = v2 + (-1 : Int32) := ⟨_, rfl⟩
        have h := h x8 ex8
        refine lv_iinc (v := x8) (lv' := [(2, .int x8), (0, .ref v0)]) hx hb dX5_trim_29 hl (k := 1) rfl (by rw [ex8]; rfl) (by decide) rfl (fun ls hl => ?_)
        refine lv_goto (tgt := 14) hx hb dX5_trim_32 (by decide) ?_
        exact ih v0 x8 _ h _ _ _ hw (lv_sub hl [1, 0] rfl)
set_option maxHeartbeats 4000000 in
set_option maxRecDepth 100000 in
theorem kX5_trim (l : Launch) (lo : Nat) (g : zg) (M : zm_M) (a0 : Nat) (a1 : Int32) (post : zm_M → Prop) (h : pX5_trim g.2 a0 a1 post M) : Met l yX5_trim (Cond.code yX5_trim cX5_trim 3 none :: zU) (({ frames := 1, cells := 0, slots := 0, locals := 40 } : Room)) (zc_P zNF zNM lo g M [.ref a0, .int a1]) (va_Qv post (zc_B lo g) (zA lo)) 0 0 (zA lo) := by
  refine Met.ofW (cc := cX5_trim) (maxL := 3) (ret := none) (by decide) rfl ?_
  intro p e s m args below meth c s₁ B hml hv
  obtain ⟨rfl, hR, hK⟩ := hv
  have hts := atoms_spec (ws := Cond.code yX5_trim cX5_trim 3 none :: zU) B.pre
  have hts : ∀ w ∈ zU, w.before _ s = true := fun w hw => hts w (List.mem_cons_of_mem _ hw)
  have hown : s.vm.findClass RX5 = some m.cls := findClass_of_methodNamed B.named
  have hx := B.exec
  have hb := B.bytes
  have hr := B.returns
  have hlocks := B.notSynchronized
  have S : CallFix p m c cX5_trim 3 s ([.ref a0, .int a1] : List Value).toArray zU RX5 := ⟨hx, hb, hml, hown, hts⟩
  have hw : zW lo g s s.heap [] M := ⟨hR, va_S.rf⟩
  have hl := lv_entry ([.ref a0, .int a1]) (n := 3) (Nat.le_of_ble_eq_true rfl)
  rw [lg_entry_eq]
  generalize (lg_sl ([.ref a0, .int a1]) ++ List.replicate (3 - (lg_sl ([.ref a0, .int a1])).length) Slot.unset).toArray = ls at hl ⊢
  have hl : lv_has ls 3 [(0, .ref a0), (1, .int a1)] := hl
  unfold pX5_trim at h
  refine lv_iconst (v := (0 : Int32)) hx hb dX5_trim_0 (by decide) ?_
  refine lv_iload_n hx hb dX5_trim_1 rfl (lv_at hl 1 rfl) ?_
  refine lv_aload_n hx hb dX5_trim_2 rfl (lv_at hl 0 rfl) ?_
  refine zr_ga (C := RX5) (T := TX5) (N := 2) (ci := 8) (k := 0) S hK hw zi_X5 rfl (by decide) zu_1 dX5_trim_3 h (fun row_1 h => ?_)
  refine zr_len (t0 := 0) (ty := .int) S hK hw rfl dX5_trim_6 h (fun len2 h => ?_)
  refine zr_min S hl.1 zu_2 zu_3 zu_4 zu_5 (Nat.le_of_ble_eq_true rfl) (Nat.le_of_ble_eq_true rfl) (Nat.zero_le _) (Nat.zero_le _) dX5_trim_7 ?_
  refine zr_max S hl.1 zu_6 zu_7 zu_4 zu_8 (Nat.le_of_ble_eq_true rfl) (Nat.le_of_ble_eq_true rfl) (Nat.zero_le _) (Nat.zero_le _) dX5_trim_10 ?_
  refine lv_topi (fun x3 ex3 => ?_)
  have h := h x3 ex3
  refine lv_istore_n (lv' := [(2, .int x3), (0, .ref a0), (1, .int a1)]) hx hb dX5_trim_13 rfl hl (by decide) rfl (fun ls hl => ?_)
  obtain ⟨n14, h⟩ := h
  refine sX5_trim_14 S hr hlocks hK  n14 a0 x3 _ h _ _ _ hw (lv_sub hl [1, 0] rfl)
set_option maxHeartbeats 4000000 in
set_option maxRecDepth 100000 in
theorem kX5_become (l : Launch) (lo : Nat) (g : zg) (M : zm_M) (a0 : Nat) (a1 : Int64) (post : zm_M → Prop) (h : pX5_become g.2 a0 a1 post M) : Met l yX5_become (Cond.code yX5_become cX5_become 3 none :: zU) (({ frames := 2, cells := 0, slots := 0, locals := 63 } : Room)) (zc_P zNF zNM lo g M [.ref a0, .long a1]) (va_Qv post (zc_B lo g) (zA lo)) 0 0 (zA lo) := by
  refine Met.ofW (cc := cX5_become) (maxL := 3) (ret := none) (by decide) rfl ?_
  intro p e s m args below meth c s₁ B hml hv
  obtain ⟨rfl, hR, hK⟩ := hv
  have hts := atoms_spec (ws := Cond.code yX5_become cX5_become 3 none :: zU) B.pre
  have hts : ∀ w ∈ zU, w.before _ s = true := fun w hw => hts w (List.mem_cons_of_mem _ hw)
  have hown : s.vm.findClass RX5 = some m.cls := findClass_of_methodNamed B.named
  have hx := B.exec
  have hb := B.bytes
  have hr := B.returns
  have hlocks := B.notSynchronized
  have S : CallFix p m c cX5_become 3 s ([.ref a0, .long a1] : List Value).toArray zU RX5 := ⟨hx, hb, hml, hown, hts⟩
  have hw : zW lo g s s.heap [] M := ⟨hR, va_S.rf⟩
  have hl := lv_entry ([.ref a0, .long a1]) (n := 3) (Nat.le_of_ble_eq_true rfl)
  rw [lg_entry_eq]
  generalize (lg_sl ([.ref a0, .long a1]) ++ List.replicate (3 - (lg_sl ([.ref a0, .long a1])).length) Slot.unset).toArray = ls at hl ⊢
  have hl : lv_has ls 3 [(0, .ref a0), (1, .long a1)] := hl
  unfold pX5_become at h
  refine lv_aload_n hx hb dX5_become_0 rfl (lv_at hl 0 rfl) ?_
  refine lv_iconst (v := (0 : Int32)) hx hb dX5_become_1 (by decide) ?_
  refine lv_lload_n hx hb dX5_become_2 rfl (lv_at hl 1 rfl) ?_
  obtain ⟨ho, h⟩ := h
  refine zr_Vv (As := [.int (0 : Int32), .long a1]) (rest := []) S hK hw (kX5_put l lo g M a0 (0 : Int32) a1 _ h) (cwV 2 hts (zg_V zu_9 zu_10 zu_11 zu_12 zu_13) rfl rfl rfl (by decide +kernel) ⟨Nat.le_of_ble_eq_true rfl, Nat.le_of_ble_eq_true rfl⟩) (ci := 8) rfl ho rfl hl.1 rfl (Nat.le_of_ble_eq_true rfl) dX5_become_3 ⟨Nat.le_of_ble_eq_true rfl, Nat.le_of_ble_eq_true rfl⟩ (fun M1 H locs hw h => ?_)
  refine lv_aload_n hx hb dX5_become_6 rfl (lv_at hl 0 rfl) ?_
  refine lv_iconst (v := (1 : Int32)) hx hb dX5_become_7 (by decide) ?_
  refine lv_lload_n hx hb dX5_become_8 rfl (lv_at hl 1 rfl) ?_
  refine lv_bipush (v := (32 : Int32)) hx hb dX5_become_9 (by decide) ?_
  refine lv_lushr hx hb dX5_become_11 rfl ?_
  obtain ⟨ho, h⟩ := h
  refine zr_Vv (As := [.int (1 : Int32), .long ((a1.toUInt64 >>> ((32 : Int32).toInt64.toUInt64 &&& Int64.toUInt64 63)).toInt64)]) (rest := []) S hK hw (kX5_put l lo g M1 a0 (1 : Int32) ((a1.toUInt64 >>> ((32 : Int32).toInt64.toUInt64 &&& Int64.toUInt64 63)).toInt64) _ h) (cwV 2 hts (zg_V zu_9 zu_10 zu_11 zu_12 zu_13) rfl rfl rfl (by decide +kernel) ⟨Nat.le_of_ble_eq_true rfl, Nat.le_of_ble_eq_true rfl⟩) (ci := 8) rfl ho rfl hl.1 rfl (Nat.le_of_ble_eq_true rfl) dX5_become_12 ⟨Nat.le_of_ble_eq_true rfl, Nat.le_of_ble_eq_true rfl⟩ (fun M2 H locs hw h => ?_)
  refine lv_aload_n hx hb dX5_become_15 rfl (lv_at hl 0 rfl) ?_
  refine lv_iconst (v := (2 : Int32)) hx hb dX5_become_16 (by decide) ?_
  obtain ⟨ho, h⟩ := h
  refine zr_Vv (As := [.int (2 : Int32)]) (rest := []) S hK hw (kX5_trim l lo g M2 a0 (2 : Int32) _ h) (cwV 1 hts (zg_V zu_14 zu_15 zu_16 zu_12 zu_17) rfl rfl rfl (by decide +kernel) ⟨Nat.le_of_ble_eq_true rfl, Nat.le_of_ble_eq_true rfl⟩) (ci := 8) rfl ho rfl hl.1 rfl (Nat.le_of_ble_eq_true rfl) dX5_become_17 ⟨Nat.le_of_ble_eq_true rfl, Nat.le_of_ble_eq_true rfl⟩ (fun M3 H locs hw h => ?_)
  exact zr_rv S hr hlocks hw h dX5_become_20
set_option maxHeartbeats 4000000 in
set_option maxRecDepth 100000 in
theorem kX2_become (l : Launch) (lo : Nat) (g : zg) (M : zm_M) (a0 : Nat) (a1 : Int32) (a2 : Int64) (post : zm_M → Prop) (h : pX2_become g.2 a0 a1 a2 post M) : Met l yX2_become (Cond.code yX2_become cX2_become 4 none :: zU) (({ frames := 3, cells := 0, slots := 0, locals := 85 } : Room)) (zc_P zNF zNM lo g M [.ref a0, .int a1, .long a2]) (va_Qv post (zc_B lo g) (zA lo)) 0 0 (zA lo) := by
  refine Met.ofW (cc := cX2_become) (maxL := 4) (ret := none) (by decide) rfl ?_
  intro p e s m args below meth c s₁ B hml hv
  obtain ⟨rfl, hR, hK⟩ := hv
  have hts := atoms_spec (ws := Cond.code yX2_become cX2_become 4 none :: zU) B.pre
  have hts : ∀ w ∈ zU, w.before _ s = true := fun w hw => hts w (List.mem_cons_of_mem _ hw)
  have hown : s.vm.findClass RX2 = some m.cls := findClass_of_methodNamed B.named
  have hx := B.exec
  have hb := B.bytes
  have hr := B.returns
  have hlocks := B.notSynchronized
  have S : CallFix p m c cX2_become 4 s ([.ref a0, .int a1, .long a2] : List Value).toArray zU RX2 := ⟨hx, hb, hml, hown, hts⟩
  have hw : zW lo g s s.heap [] M := ⟨hR, va_S.rf⟩
  have hl := lv_entry ([.ref a0, .int a1, .long a2]) (n := 4) (Nat.le_of_ble_eq_true rfl)
  rw [lg_entry_eq]
  generalize (lg_sl ([.ref a0, .int a1, .long a2]) ++ List.replicate (4 - (lg_sl ([.ref a0, .int a1, .long a2])).length) Slot.unset).toArray = ls at hl ⊢
  have hl : lv_has ls 4 [(0, .ref a0), (1, .int a1), (2, .long a2)] := hl
  unfold pX2_become at h
  refine lv_aload_n hx hb dX2_become_0 rfl (lv_at hl 0 rfl) ?_
  refine lv_iload_n hx hb dX2_become_1 rfl (lv_at hl 1 rfl) ?_
  refine zr_p (C := RX2) (T := TX2) (N := 3) (ci := 5) (k := 0) S hK hw zi_X2 tyX2 tyX2_ok nmX2 rfl (by decide) zu_18 rfl rfl rfl dX2_become_2 h (fun M1 H locs hw h => ?_)
  refine lv_aload_n hx hb dX2_become_5 rfl (lv_at hl 0 rfl) ?_
  refine zr_ga (C := RX2) (T := TX2) (N := 3) (ci := 5) (k := 1) S hK hw zi_X2 rfl (by decide) zu_19 dX2_become_6 h (fun top_2 h => ?_)
  refine lv_lload_n hx hb dX2_become_9 rfl (lv_at hl 2 rfl) ?_
  obtain ⟨ho, h⟩ := h
  refine zr_Vv (As := [.long a2]) (rest := []) S hK hw (kX5_become l lo g M1 top_2 a2 _ h) (cwV 1 hts (zg_V zu_20 zu_21 zu_22 zu_12 zu_23) rfl rfl rfl (by decide +kernel) ⟨Nat.le_of_ble_eq_true rfl, Nat.le_of_ble_eq_true rfl⟩) (ci := 8) rfl ho rfl hl.1 rfl (Nat.le_of_ble_eq_true rfl) dX2_become_10 ⟨Nat.le_of_ble_eq_true rfl, Nat.le_of_ble_eq_true rfl⟩ (fun M3 H locs hw h => ?_)
  refine lv_aload_n hx hb dX2_become_13 rfl (lv_at hl 0 rfl) ?_
  refine zr_ga (C := RX2) (T := TX2) (N := 3) (ci := 5) (k := 2) S hK hw zi_X2 rfl (by decide) zu_24 dX2_become_14 h (fun bottom_4 h => ?_)
  refine lv_lconst (v := (1 : Int64)) hx hb dX2_become_17 (by decide) ?_
  obtain ⟨ho, h⟩ := h
  refine zr_Vv (As := [.long (1 : Int64)]) (rest := []) S hK hw (kX5_become l lo g M3 bottom_4 (1 : Int64) _ h) (cwV 1 hts (zg_V zu_20 zu_21 zu_22 zu_12 zu_23) rfl rfl rfl (by decide +kernel) ⟨Nat.le_of_ble_eq_true rfl, Nat.le_of_ble_eq_true rfl⟩) (ci := 8) rfl ho rfl hl.1 rfl (Nat.le_of_ble_eq_true rfl) dX2_become_18 ⟨Nat.le_of_ble_eq_true rfl, Nat.le_of_ble_eq_true rfl⟩ (fun M5 H locs hw h => ?_)
  exact zr_rv S hr hlocks hw h dX2_become_21
set_option maxHeartbeats 4000000 in
set_option maxRecDepth 100000 in
theorem kX5_limbAt (l : Launch) (lo : Nat) (g : zg) (M : zm_M) (a0 : Nat) (a1 : Int32) (post : Int64 → zm_M → Prop) (h : pX5_limbAt g.2 a0 a1 post M) : Met l yX5_limbAt (Cond.code yX5_limbAt cX5_limbAt 2 (some .long) :: zU) (({ frames := 1, cells := 0, slots := 0, locals := 40 } : Room)) (zc_P zNF zNM lo g M [.ref a0, .int a1]) (va_Ql post (zc_B lo g) (zA lo)) 0 0 (zA lo) := by
  refine Met.ofW (cc := cX5_limbAt) (maxL := 2) (ret := (some .long)) (by decide) rfl ?_
  intro p e s m args below meth c s₁ B hml hv
  obtain ⟨rfl, hR, hK⟩ := hv
  have hts := atoms_spec (ws := Cond.code yX5_limbAt cX5_limbAt 2 (some .long) :: zU) B.pre
  have hts : ∀ w ∈ zU, w.before _ s = true := fun w hw => hts w (List.mem_cons_of_mem _ hw)
  have hown : s.vm.findClass RX5 = some m.cls := findClass_of_methodNamed B.named
  have hx := B.exec
  have hb := B.bytes
  have hr := B.returns
  have hlocks := B.notSynchronized
  have S : CallFix p m c cX5_limbAt 2 s ([.ref a0, .int a1] : List Value).toArray zU RX5 := ⟨hx, hb, hml, hown, hts⟩
  have hw : zW lo g s s.heap [] M := ⟨hR, va_S.rf⟩
  have hl := lv_entry ([.ref a0, .int a1]) (n := 2) (Nat.le_of_ble_eq_true rfl)
  rw [lg_entry_eq]
  generalize (lg_sl ([.ref a0, .int a1]) ++ List.replicate (2 - (lg_sl ([.ref a0, .int a1])).length) Slot.unset).toArray = ls at hl ⊢
  have hl : lv_has ls 2 [(0, .ref a0), (1, .int a1)] := hl
  unfold pX5_limbAt at h
  refine lv_iload_n hx hb dX5_limbAt_0 rfl (lv_at hl 1 rfl) ?_
  refine lv_if_lt (tgt := 35) hx hb dX5_limbAt_1 (by decide) (fun hc => ?_) (fun hc => ?_)
  · have h := h.1 hc
    refine lv_lconst (v := (0 : Int64)) hx hb dX5_limbAt_35 (by decide) ?_
    exact zr_rl S hr hlocks hw h dX5_limbAt_36
  · have h := h.2 hc
    refine lv_iload_n hx hb dX5_limbAt_4 rfl (lv_at hl 1 rfl) ?_
    refine lv_aload_n hx hb dX5_limbAt_5 rfl (lv_at hl 0 rfl) ?_
    refine zr_gi (C := RX5) (T := TX5) (N := 2) (ci := 8) (k := 1) S hK hw zi_X5 rfl (by decide) zu_0 dX5_limbAt_6 h (fun used_1 h => ?_)
    refine lv_icmp_ge (tgt := 35) hx hb dX5_limbAt_9 (by decide) (fun hc => ?_) (fun hc => ?_)
    · have h := h.1 hc
      refine lv_lconst (v := (0 : Int64)) hx hb dX5_limbAt_35 (by decide) ?_
      exact zr_rl S hr hlocks hw h dX5_limbAt_36
    · have h := h.2 hc
      refine lv_iload_n hx hb dX5_limbAt_12 rfl (lv_at hl 1 rfl) ?_
      refine lv_aload_n hx hb dX5_limbAt_13 rfl (lv_at hl 0 rfl) ?_
      refine zr_ga (C := RX5) (T := TX5) (N := 2) (ci := 8) (k := 0) S hK hw zi_X5 rfl (by decide) zu_1 dX5_limbAt_14 h (fun row_2 h => ?_)
      refine zr_len (t0 := 0) (ty := .int) S hK hw rfl dX5_limbAt_17 h (fun len3 h => ?_)
      refine lv_icmp_ge (tgt := 35) hx hb dX5_limbAt_18 (by decide) (fun hc => ?_) (fun hc => ?_)
      · have h := h.1 hc
        refine lv_lconst (v := (0 : Int64)) hx hb dX5_limbAt_35 (by decide) ?_
        exact zr_rl S hr hlocks hw h dX5_limbAt_36
      · have h := h.2 hc
        refine lv_aload_n hx hb dX5_limbAt_21 rfl (lv_at hl 0 rfl) ?_
        refine zr_ga (C := RX5) (T := TX5) (N := 2) (ci := 8) (k := 0) S hK hw zi_X5 rfl (by decide) zu_1 dX5_limbAt_22 h (fun row_4 h => ?_)
        refine lv_iload_n hx hb dX5_limbAt_25 rfl (lv_at hl 1 rfl) ?_
        refine zr_iald S hK hw dX5_limbAt_26 h (fun e5 h => ?_)
        refine lv_i2l hx hb dX5_limbAt_27 rfl ?_
        refine lv_ldc2 (v := (4294967295 : Int64)) hx hb hown (hts _ zu_25) dX5_limbAt_28 ?_
        refine lv_land hx hb dX5_limbAt_31 ?_
        refine lv_goto (tgt := 36) hx hb dX5_limbAt_32 (by decide) ?_
        exact zr_rl S hr hlocks hw h dX5_limbAt_36
set_option maxHeartbeats 4000000 in
set_option maxRecDepth 100000 in
theorem kX5_isOne (l : Launch) (lo : Nat) (g : zg) (M : zm_M) (a0 : Nat) (post : Int32 → zm_M → Prop) (h : pX5_isOne g.2 a0 post M) : Met l yX5_isOne (Cond.code yX5_isOne cX5_isOne 1 (some .boolean) :: zU) (({ frames := 2, cells := 0, slots := 0, locals := 61 } : Room)) (zc_P zNF zNM lo g M [.ref a0]) (va_Qi post (zc_B lo g) (zA lo)) 0 0 (zA lo) := by
  refine Met.ofW (cc := cX5_isOne) (maxL := 1) (ret := (some .boolean)) (by decide) rfl ?_
  intro p e s m args below meth c s₁ B hml hv
  obtain ⟨rfl, hR, hK⟩ := hv
  have hts := atoms_spec (ws := Cond.code yX5_isOne cX5_isOne 1 (some .boolean) :: zU) B.pre
  have hts : ∀ w ∈ zU, w.before _ s = true := fun w hw => hts w (List.mem_cons_of_mem _ hw)
  have hown : s.vm.findClass RX5 = some m.cls := findClass_of_methodNamed B.named
  have hx := B.exec
  have hb := B.bytes
  have hr := B.returns
  have hlocks := B.notSynchronized
  have S : CallFix p m c cX5_isOne 1 s ([.ref a0] : List Value).toArray zU RX5 := ⟨hx, hb, hml, hown, hts⟩
  have hw : zW lo g s s.heap [] M := ⟨hR, va_S.rf⟩
  have hl := lv_entry ([.ref a0]) (n := 1) (Nat.le_of_ble_eq_true rfl)
  rw [lg_entry_eq]
  generalize (lg_sl ([.ref a0]) ++ List.replicate (1 - (lg_sl ([.ref a0])).length) Slot.unset).toArray = ls at hl ⊢
  have hl : lv_has ls 1 [(0, .ref a0)] := hl
  unfold pX5_isOne at h
  refine lv_aload_n hx hb dX5_isOne_0 rfl (lv_at hl 0 rfl) ?_
  refine zr_gi (C := RX5) (T := TX5) (N := 2) (ci := 8) (k := 1) S hK hw zi_X5 rfl (by decide) zu_0 dX5_isOne_1 h (fun used_1 h => ?_)
  refine lv_iconst (v := (1 : Int32)) hx hb dX5_isOne_4 (by decide) ?_
  refine lv_icmp_ne (tgt := 22) hx hb dX5_isOne_5 (by decide) (fun hc => ?_) (fun hc => ?_)
  · have h := h.1 hc
    refine lv_iconst (v := (0 : Int32)) hx hb dX5_isOne_22 (by decide) ?_
    exact zr_rz S hr hlocks hw h dX5_isOne_23
  · have h := h.2 hc
    refine lv_aload_n hx hb dX5_isOne_8 rfl (lv_at hl 0 rfl) ?_
    refine lv_iconst (v := (0 : Int32)) hx hb dX5_isOne_9 (by decide) ?_
    obtain ⟨ho, h⟩ := h
    refine zr_Vl (As := [.int (0 : Int32)]) (rest := []) S hK hw (kX5_limbAt l lo g M a0 (0 : Int32) _ h) (cwV 1 hts (zg_V zu_26 zu_27 zu_28 zu_12 zu_29) rfl rfl rfl (by decide +kernel) ⟨Nat.le_of_ble_eq_true rfl, Nat.le_of_ble_eq_true rfl⟩) (ci := 8) rfl ho rfl hl.1 rfl (Nat.le_of_ble_eq_true rfl) dX5_isOne_10 ⟨Nat.le_of_ble_eq_true rfl, Nat.le_of_ble_eq_true rfl⟩ (fun r3 M2 H locs hw h => ?_)
    refine lv_lconst (v := (1 : Int64)) hx hb dX5_isOne_13 (by decide) ?_
    refine W.lcmp hx hb dX5_isOne_14 ?_
    refine lv_if_ne (tgt := 22) hx hb dX5_isOne_15 (by decide) (fun hc => ?_) (fun hc => ?_)
    · have h := h.1 (fun q => hc (zc_eq.mpr q))
      refine lv_iconst (v := (0 : Int32)) hx hb dX5_isOne_22 (by decide) ?_
      exact zr_rz S hr hlocks hw h dX5_isOne_23
    · have h := h.2 (zc_eq.mp hc)
      refine lv_iconst (v := (1 : Int32)) hx hb dX5_isOne_18 (by decide) ?_
      refine lv_goto (tgt := 23) hx hb dX5_isOne_19 (by decide) ?_
      exact zr_rz S hr hlocks hw h dX5_isOne_23
set_option maxHeartbeats 4000000 in
set_option maxRecDepth 100000 in
theorem kX5_copy (l : Launch) (lo : Nat) (g : zg) (M : zm_M) (a0 : Nat) (a1 : Nat) (post : zm_M → Prop) (h : pX5_copy g.2 a0 a1 post M) : Met l yX5_copy (Cond.code yX5_copy cX5_copy 3 none :: zU) (({ frames := 2, cells := 0, slots := 0, locals := 62 } : Room)) (zc_P zNF zNM lo g M [.ref a0, .ref a1]) (va_Qv post (zc_B lo g) (zA lo)) 0 0 (zA lo) := by
  refine Met.ofW (cc := cX5_copy) (maxL := 3) (ret := none) (by decide) rfl ?_
  intro p e s m args below meth c s₁ B hml hv
  obtain ⟨rfl, hR, hK⟩ := hv
  have hts := atoms_spec (ws := Cond.code yX5_copy cX5_copy 3 none :: zU) B.pre
  have hts : ∀ w ∈ zU, w.before _ s = true := fun w hw => hts w (List.mem_cons_of_mem _ hw)
  have hown : s.vm.findClass RX5 = some m.cls := findClass_of_methodNamed B.named
  have hx := B.exec
  have hb := B.bytes
  have hr := B.returns
  have hlocks := B.notSynchronized
  have S : CallFix p m c cX5_copy 3 s ([.ref a0, .ref a1] : List Value).toArray zU RX5 := ⟨hx, hb, hml, hown, hts⟩
  have hw : zW lo g s s.heap [] M := ⟨hR, va_S.rf⟩
  have hl := lv_entry ([.ref a0, .ref a1]) (n := 3) (Nat.le_of_ble_eq_true rfl)
  rw [lg_entry_eq]
  generalize (lg_sl ([.ref a0, .ref a1]) ++ List.replicate (3 - (lg_sl ([.ref a0, .ref a1])).length) Slot.unset).toArray = ls at hl ⊢
  have hl : lv_has ls 3 [(0, .ref a0), (1, .ref a1)] := hl
  unfold pX5_copy at h
  refine lv_aload_n hx hb dX5_copy_0 rfl (lv_at hl 1 rfl) ?_
  refine zr_gi (C := RX5) (T := TX5) (N := 2) (ci := 8) (k := 1) S hK hw zi_X5 rfl (by decide) zu_0 dX5_copy_1 h (fun used_1 h => ?_)
  refine lv_aload_n hx hb dX5_copy_4 rfl (lv_at hl 0 rfl) ?_
  refine zr_ga (C := RX5) (T := TX5) (N := 2) (ci := 8) (k := 0) S hK hw zi_X5 rfl (by decide) zu_1 dX5_copy_5 h (fun row_2 h => ?_)
  refine zr_len (t0 := 0) (ty := .int) S hK hw rfl dX5_copy_8 h (fun len3 h => ?_)
  refine zr_min S hl.1 zu_2 zu_3 zu_4 zu_5 (Nat.le_of_ble_eq_true rfl) (Nat.le_of_ble_eq_true rfl) (Nat.zero_le _) (Nat.zero_le _) dX5_copy_9 ?_
  refine lv_topi (fun x4 ex4 => ?_)
  have h := h x4 ex4
  refine lv_istore_n (lv' := [(2, .int x4), (0, .ref a0), (1, .ref a1)]) hx hb dX5_copy_12 rfl hl (by decide) rfl (fun ls hl => ?_)
  refine lv_aload_n hx hb dX5_copy_13 rfl (lv_at hl 2 rfl) ?_
  refine zr_ga (C := RX5) (T := TX5) (N := 2) (ci := 8) (k := 0) S hK hw zi_X5 rfl (by decide) zu_1 dX5_copy_14 h (fun row_5 h => ?_)
  refine lv_iconst (v := (0 : Int32)) hx hb dX5_copy_17 (by decide) ?_
  refine lv_aload_n hx hb dX5_copy_18 rfl (lv_at hl 1 rfl) ?_
  refine zr_ga (C := RX5) (T := TX5) (N := 2) (ci := 8) (k := 0) S hK hw zi_X5 rfl (by decide) zu_1 dX5_copy_19 h (fun row_6 h => ?_)
  refine lv_iconst (v := (0 : Int32)) hx hb dX5_copy_22 (by decide) ?_
  refine lv_iload_n hx hb dX5_copy_23 rfl (lv_at hl 0 rfl) ?_
  refine zr_cpy S hK hw hl.1 zu_30 zu_31 zu_32 zu_33 (Nat.le_of_ble_eq_true rfl) (Nat.le_of_ble_eq_true rfl) dX5_copy_24 h (fun M7 H locs hw h => ?_)
  refine lv_aload_n hx hb dX5_copy_27 rfl (lv_at hl 1 rfl) ?_
  refine lv_iload_n hx hb dX5_copy_28 rfl (lv_at hl 0 rfl) ?_
  obtain ⟨ho, h⟩ := h
  refine zr_Vv (As := [.int x4]) (rest := []) S hK hw (kX5_trim l lo g M7 a0 x4 _ h) (cwV 1 hts (zg_V zu_14 zu_15 zu_16 zu_12 zu_17) rfl rfl rfl (by decide +kernel) ⟨Nat.le_of_ble_eq_true rfl, Nat.le_of_ble_eq_true rfl⟩) (ci := 8) rfl ho rfl hl.1 rfl (Nat.le_of_ble_eq_true rfl) dX5_copy_29 ⟨Nat.le_of_ble_eq_true rfl, Nat.le_of_ble_eq_true rfl⟩ (fun M8 H locs hw h => ?_)
  exact zr_rv S hr hlocks hw h dX5_copy_32
set_option maxHeartbeats 4000000 in
set_option maxRecDepth 100000 in
theorem kX5_clear (l : Launch) (lo : Nat) (g : zg) (M : zm_M) (a0 : Nat) (post : zm_M → Prop) (h : pX5_clear g.2 a0 post M) : Met l yX5_clear (Cond.code yX5_clear cX5_clear 1 none :: zU) (({ frames := 1, cells := 0, slots := 0, locals := 40 } : Room)) (zc_P zNF zNM lo g M [.ref a0]) (va_Qv post (zc_B lo g) (zA lo)) 0 0 (zA lo) := by
  refine Met.ofW (cc := cX5_clear) (maxL := 1) (ret := none) (by decide) rfl ?_
  intro p e s m args below meth c s₁ B hml hv
  obtain ⟨rfl, hR, hK⟩ := hv
  have hts := atoms_spec (ws := Cond.code yX5_clear cX5_clear 1 none :: zU) B.pre
  have hts : ∀ w ∈ zU, w.before _ s = true := fun w hw => hts w (List.mem_cons_of_mem _ hw)
  have hown : s.vm.findClass RX5 = some m.cls := findClass_of_methodNamed B.named
  have hx := B.exec
  have hb := B.bytes
  have hr := B.returns
  have hlocks := B.notSynchronized
  have S : CallFix p m c cX5_clear 1 s ([.ref a0] : List Value).toArray zU RX5 := ⟨hx, hb, hml, hown, hts⟩
  have hw : zW lo g s s.heap [] M := ⟨hR, va_S.rf⟩
  have hl := lv_entry ([.ref a0]) (n := 1) (Nat.le_of_ble_eq_true rfl)
  rw [lg_entry_eq]
  generalize (lg_sl ([.ref a0]) ++ List.replicate (1 - (lg_sl ([.ref a0])).length) Slot.unset).toArray = ls at hl ⊢
  have hl : lv_has ls 1 [(0, .ref a0)] := hl
  unfold pX5_clear at h
  refine lv_aload_n hx hb dX5_clear_0 rfl (lv_at hl 0 rfl) ?_
  refine lv_iconst (v := (0 : Int32)) hx hb dX5_clear_1 (by decide) ?_
  refine zr_p (C := RX5) (T := TX5) (N := 2) (ci := 8) (k := 1) S hK hw zi_X5 tyX5 tyX5_ok nmX5 rfl (by decide) zu_0 rfl rfl rfl dX5_clear_2 h (fun M1 H locs hw h => ?_)
  exact zr_rv S hr hlocks hw h dX5_clear_5
set_option maxHeartbeats 4000000 in
set_option maxRecDepth 100000 in
theorem sX5_order_35 {p : Program} {l : Launch} {e : Env} {s : State} {m : MethodId} {args : Array Value} {below : List Frame} {meth : Method} {c : Code} {lo : Nat} {g : zg} {post : Int32 → zm_M → Prop} {k53 : Nat → Nat → Int32 → zm_M → Prop} (S : CallFix p m c cX5_order 3 s args zU RX5) (hr : meth.sig.returnType = (some .int)) (hlocks : meth.locks = false) (hK : zk_K zNF zNM g s) (hk53 : ∀ (v0 : Nat) (v1 : Nat) (v2 : Int32) (M : zm_M), k53 v0 v1 v2 M → ∀ (H : Heap) (locs : List Loc) (ls : Array Slot), zW lo g s H locs M → lv_has ls 3 [(0, .ref v0), (1, .ref v1), (2, .int v2)] → W p l e ({ frames := 2, cells := 0, slots := 0, locals := 61 } : Room) s m args below meth c H locs 0 0 (MQ below (va_Qi post (zc_B lo g) (zA lo)) args s 0 0 (zA lo)) (F0 m 53 ls [])) : ∀ (n : Nat) (v0 : Nat) (v1 : Nat) (v2 : Int32) (M : zm_M), pX5_order_35 g.2 post k53 n v0 v1 v2 M → ∀ (H : Heap) (locs : List Loc) (ls : Array Slot), zW lo g s H locs M → lv_has ls 3 [(0, .ref v0), (1, .ref v1), (2, .int v2)] → W p l e ({ frames := 2, cells := 0, slots := 0, locals := 61 } : Room) s m args below meth c H locs 0 0 (MQ below (va_Qi post (zc_B lo g) (zA lo)) args s 0 0 (zA lo)) (F0 m 35 ls []) := by
  obtain ⟨hx, hb, hml, hown, hts⟩ := id S
  intro n
  induction n with
  | zero =>
    intro v0 v1 v2 M h
    exact False.elim h
  | succ n35 ih =>
    intro v0 v1 v2 M h H locs ls hw hl
    rw [pX5_order_35] at h
    refine lv_iload_n hx hb dX5_order_35 rfl (lv_at hl 2 rfl) ?_
    refine lv_if_lt (tgt := 79) hx hb dX5_order_36 (by decide) (fun hc => ?_) (fun hc => ?_)
    · have h := h.1 hc
      refine lv_iconst (v := (0 : Int32)) hx hb dX5_order_79 (by decide) ?_
      exact zr_ri S hr hlocks hw h dX5_order_80
    · have h := h.2 hc
      refine lv_aload_n hx hb dX5_order_39 rfl (lv_at hl 0 rfl) ?_
      refine lv_iload_n hx hb dX5_order_40 rfl (lv_at hl 2 rfl) ?_
      obtain ⟨ho, h⟩ := h
      refine zr_Vl (As := [.int v2]) (rest := []) S hK hw (kX5_limbAt l lo g M v0 v2 _ h) (cwV 1 hts (zg_V zu_26 zu_27 zu_28 zu_12 zu_29) rfl rfl rfl (by decide +kernel) ⟨Nat.le_of_ble_eq_true rfl, Nat.le_of_ble_eq_true rfl⟩) (ci := 8) rfl ho rfl hl.1 rfl (Nat.le_of_ble_eq_true rfl) dX5_order_41 ⟨Nat.le_of_ble_eq_true rfl, Nat.le_of_ble_eq_true rfl⟩ (fun r6 M5 H locs hw h => ?_)
      refine lv_aload_n hx hb dX5_order_44 rfl (lv_at hl 1 rfl) ?_
      refine lv_iload_n hx hb dX5_order_45 rfl (lv_at hl 2 rfl) ?_
      obtain ⟨ho, h⟩ := h
      refine zr_Vl (As := [.int v2]) (rest := [.long r6]) S hK hw (kX5_limbAt l lo g M5 v1 v2 _ h) (cwV 1 hts (zg_V zu_26 zu_27 zu_28 zu_12 zu_29) rfl rfl rfl (by decide +kernel) ⟨Nat.le_of_ble_eq_true rfl, Nat.le_of_ble_eq_true rfl⟩) (ci := 8) rfl ho rfl hl.1 rfl (Nat.le_of_ble_eq_true rfl) dX5_order_46 ⟨Nat.le_of_ble_eq_true rfl, Nat.le_of_ble_eq_true rfl⟩ (fun r8 M7 H locs hw h => ?_)
      refine W.lcmp hx hb dX5_order_49 ?_
      refine lv_if_eq (tgt := 73) hx hb dX5_order_50 (by decide) (fun hc => ?_) (fun hc => ?_)
      · have h := h.1 (zc_eq.mp hc)
        obtain ⟨x9, ex9⟩ : ∃ z : Int32, z = v2 + (-1 : Int32) := ⟨_, rfl⟩
        have h := h x9 ex9
        refine lv_iinc (v := x9) (lv' := [(2, .int x9), (0, .ref v0), (1, .ref v1)]) hx hb dX5_order_73 hl (k := 2) rfl (by rw [ex9]; rfl) (by decide) rfl (fun ls hl => ?_)
        refine lv_goto (tgt := 35) hx hb dX5_order_76 (by decide) ?_
        exact ih v0 v1 x9 _ h _ _ _ hw (lv_sub hl [1, 2, 0] rfl)
      · have h := h.2 (fun q => hc (zc_eq.mpr q))
        exact hk53 v0 v1 v2 _ h _ _ _ hw (lv_sub hl [0, 1, 2] rfl)
set_option maxHeartbeats 4000000 in
set_option maxRecDepth 100000 in
theorem kX5_order (l : Launch) (lo : Nat) (g : zg) (M : zm_M) (a0 : Nat) (a1 : Nat) (post : Int32 → zm_M → Prop) (h : pX5_order g.2 a0 a1 post M) : Met l yX5_order (Cond.code yX5_order cX5_order 3 (some .int) :: zU) (({ frames := 2, cells := 0, slots := 0, locals := 61 } : Room)) (zc_P zNF zNM lo g M [.ref a0, .ref a1]) (va_Qi post (zc_B lo g) (zA lo)) 0 0 (zA lo) := by
  refine Met.ofW (cc := cX5_order) (maxL := 3) (ret := (some .int)) (by decide) rfl ?_
  intro p e s m args below meth c s₁ B hml hv
  obtain ⟨rfl, hR, hK⟩ := hv
  have hts := atoms_spec (ws := Cond.code yX5_order cX5_order 3 (some .int) :: zU) B.pre
  have hts : ∀ w ∈ zU, w.before _ s = true := fun w hw => hts w (List.mem_cons_of_mem _ hw)
  have hown : s.vm.findClass RX5 = some m.cls := findClass_of_methodNamed B.named
  have hx := B.exec
  have hb := B.bytes
  have hr := B.returns
  have hlocks := B.notSynchronized
  have S : CallFix p m c cX5_order 3 s ([.ref a0, .ref a1] : List Value).toArray zU RX5 := ⟨hx, hb, hml, hown, hts⟩
  have hw : zW lo g s s.heap [] M := ⟨hR, va_S.rf⟩
  have hl := lv_entry ([.ref a0, .ref a1]) (n := 3) (Nat.le_of_ble_eq_true rfl)
  rw [lg_entry_eq]
  generalize (lg_sl ([.ref a0, .ref a1]) ++ List.replicate (3 - (lg_sl ([.ref a0, .ref a1])).length) Slot.unset).toArray = ls at hl ⊢
  have hl : lv_has ls 3 [(0, .ref a0), (1, .ref a1)] := hl
  unfold pX5_order at h
  refine lv_aload_n hx hb dX5_order_0 rfl (lv_at hl 0 rfl) ?_
  refine zr_gi (C := RX5) (T := TX5) (N := 2) (ci := 8) (k := 1) S hK hw zi_X5 rfl (by decide) zu_0 dX5_order_1 h (fun used_1 h => ?_)
  refine lv_aload_n hx hb dX5_order_4 rfl (lv_at hl 1 rfl) ?_
  refine zr_gi (C := RX5) (T := TX5) (N := 2) (ci := 8) (k := 1) S hK hw zi_X5 rfl (by decide) zu_0 dX5_order_5 h (fun used_2 h => ?_)
  refine lv_icmp_eq (tgt := 28) hx hb dX5_order_8 (by decide) (fun hc => ?_) (fun hc => ?_)
  · have h := h.1 hc
    refine lv_aload_n hx hb dX5_order_28 rfl (lv_at hl 0 rfl) ?_
    refine zr_gi (C := RX5) (T := TX5) (N := 2) (ci := 8) (k := 1) S hK hw zi_X5 rfl (by decide) zu_0 dX5_order_29 h (fun used_3 h => ?_)
    refine lv_iconst (v := (1 : Int32)) hx hb dX5_order_32 (by decide) ?_
    refine lv_isub hx hb dX5_order_33 ?_
    refine lv_topi (fun x4 ex4 => ?_)
    have h := h x4 ex4
    refine lv_istore_n (lv' := [(2, .int x4), (0, .ref a0), (1, .ref a1)]) hx hb dX5_order_34 rfl hl (by decide) rfl (fun ls hl => ?_)
    obtain ⟨n35, h⟩ := h
    refine sX5_order_35 S hr hlocks hK (fun w10 w11 w12 M13 h H locs ls hw hl => ?_) n35 a0 a1 x4 _ h _ _ _ hw (lv_sub hl [1, 2, 0] rfl)
    refine lv_aload_n hx hb dX5_order_53 rfl (lv_at hl 0 rfl) ?_
    refine lv_iload_n hx hb dX5_order_54 rfl (lv_at hl 2 rfl) ?_
    obtain ⟨ho, h⟩ := h
    refine zr_Vl (As := [.int w12]) (rest := []) S hK hw (kX5_limbAt l lo g M13 w10 w12 _ h) (cwV 1 hts (zg_V zu_26 zu_27 zu_28 zu_12 zu_29) rfl rfl rfl (by decide +kernel) ⟨Nat.le_of_ble_eq_true rfl, Nat.le_of_ble_eq_true rfl⟩) (ci := 8) rfl ho rfl hl.1 rfl (Nat.le_of_ble_eq_true rfl) dX5_order_55 ⟨Nat.le_of_ble_eq_true rfl, Nat.le_of_ble_eq_true rfl⟩ (fun r15 M14 H locs hw h => ?_)
    refine lv_aload_n hx hb dX5_order_58 rfl (lv_at hl 1 rfl) ?_
    refine lv_iload_n hx hb dX5_order_59 rfl (lv_at hl 2 rfl) ?_
    obtain ⟨ho, h⟩ := h
    refine zr_Vl (As := [.int w12]) (rest := [.long r15]) S hK hw (kX5_limbAt l lo g M14 w11 w12 _ h) (cwV 1 hts (zg_V zu_26 zu_27 zu_28 zu_12 zu_29) rfl rfl rfl (by decide +kernel) ⟨Nat.le_of_ble_eq_true rfl, Nat.le_of_ble_eq_true rfl⟩) (ci := 8) rfl ho rfl hl.1 rfl (Nat.le_of_ble_eq_true rfl) dX5_order_60 ⟨Nat.le_of_ble_eq_true rfl, Nat.le_of_ble_eq_true rfl⟩ (fun r17 M16 H locs hw h => ?_)
    refine W.lcmp hx hb dX5_order_63 ?_
    refine lv_if_ge (tgt := 71) hx hb dX5_order_64 (by decide) (fun hc => ?_) (fun hc => ?_)
    · have h := h.1 (zc_ge.mp hc)
      refine lv_iconst (v := (1 : Int32)) hx hb dX5_order_71 (by decide) ?_
      exact zr_ri S hr hlocks hw h dX5_order_72
    · have h := h.2 (fun q => hc (zc_ge.mpr q))
      refine lv_iconst (v := (-1 : Int32)) hx hb dX5_order_67 (by decide) ?_
      refine lv_goto (tgt := 72) hx hb dX5_order_68 (by decide) ?_
      exact zr_ri S hr hlocks hw h dX5_order_72
  · have h := h.2 hc
    refine lv_aload_n hx hb dX5_order_11 rfl (lv_at hl 0 rfl) ?_
    refine zr_gi (C := RX5) (T := TX5) (N := 2) (ci := 8) (k := 1) S hK hw zi_X5 rfl (by decide) zu_0 dX5_order_12 h (fun used_18 h => ?_)
    refine lv_aload_n hx hb dX5_order_15 rfl (lv_at hl 1 rfl) ?_
    refine zr_gi (C := RX5) (T := TX5) (N := 2) (ci := 8) (k := 1) S hK hw zi_X5 rfl (by decide) zu_0 dX5_order_16 h (fun used_19 h => ?_)
    refine lv_icmp_ge (tgt := 26) hx hb dX5_order_19 (by decide) (fun hc => ?_) (fun hc => ?_)
    · have h := h.1 hc
      refine lv_iconst (v := (1 : Int32)) hx hb dX5_order_26 (by decide) ?_
      exact zr_ri S hr hlocks hw h dX5_order_27
    · have h := h.2 hc
      refine lv_iconst (v := (-1 : Int32)) hx hb dX5_order_22 (by decide) ?_
      refine lv_goto (tgt := 27) hx hb dX5_order_23 (by decide) ?_
      exact zr_ri S hr hlocks hw h dX5_order_27
set_option maxHeartbeats 4000000 in
set_option maxRecDepth 100000 in
theorem sJ6_numberOfLeadingZeros_0f7a4_61 {p : Program} {l : Launch} {e : Env} {s : State} {m : MethodId} {args : Array Value} {below : List Frame} {meth : Method} {c : Code} {lo : Nat} {g : zg} {post : Int32 → zm_M → Prop}  (S : CallFix p m c cJ6_numberOfLeadingZeros_0f7a4 2 s args zU RJ6) (hr : meth.sig.returnType = (some .int)) (hlocks : meth.locks = false) (hK : zk_K zNF zNM g s)  : ∀ (v0 : Int32) (v1 : Int32) (M : zm_M), pJ6_numberOfLeadingZeros_0f7a4_61 g.2 post  v0 v1 M → ∀ (H : Heap) (locs : List Loc) (ls : Array Slot), zW lo g s H locs M → lv_has ls 2 [(0, .int v0), (1, .int v1)] → W p l e ({ frames := 1, cells := 0, slots := 0, locals := 40 } : Room) s m args below meth c H locs 0 0 (MQ below (va_Qi post (zc_B lo g) (zA lo)) args s 0 0 (zA lo)) (F0 m 61 ls []) := by
  obtain ⟨hx, hb, hml, hown, hts⟩ := id S
  intro v0 v1 M h H locs ls hw hl
  unfold pJ6_numberOfLeadingZeros_0f7a4_61 at h
  refine lv_iload_n hx hb dJ6_numberOfLeadingZeros_0f7a4_61 rfl (lv_at hl 0 rfl) ?_
  refine lv_iconst (v := (4 : Int32)) hx hb dJ6_numberOfLeadingZeros_0f7a4_62 (by decide) ?_
  refine lv_icmp_lt (tgt := 73) hx hb dJ6_numberOfLeadingZeros_0f7a4_63 (by decide) (fun hc => ?_) (fun hc => ?_)
  · have h := h.1 hc
    refine lv_iload_n hx hb dJ6_numberOfLeadingZeros_0f7a4_73 rfl (lv_at hl 1 rfl) ?_
    refine lv_iload_n hx hb dJ6_numberOfLeadingZeros_0f7a4_74 rfl (lv_at hl 0 rfl) ?_
    refine lv_iconst (v := (1 : Int32)) hx hb dJ6_numberOfLeadingZeros_0f7a4_75 (by decide) ?_
    refine lv_iushr hx hb dJ6_numberOfLeadingZeros_0f7a4_76 rfl ?_
    refine lv_isub hx hb dJ6_numberOfLeadingZeros_0f7a4_77 ?_
    exact zr_ri S hr hlocks hw h dJ6_numberOfLeadingZeros_0f7a4_78
  · have h := h.2 hc
    obtain ⟨x2, ex2⟩ : ∃ z : Int32, z = v1 + (-2 : Int32) := ⟨_, rfl⟩
    have h := h x2 ex2
    refine lv_iinc (v := x2) (lv' := [(1, .int x2), (0, .int v0)]) hx hb dJ6_numberOfLeadingZeros_0f7a4_66 hl (k := 1) rfl (by rw [ex2]; rfl) (by decide) rfl (fun ls hl => ?_)
    refine lv_iload_n hx hb dJ6_numberOfLeadingZeros_0f7a4_69 rfl (lv_at hl 1 rfl) ?_
    refine lv_iconst (v := (2 : Int32)) hx hb dJ6_numberOfLeadingZeros_0f7a4_70 (by decide) ?_
    refine lv_iushr hx hb dJ6_numberOfLeadingZeros_0f7a4_71 rfl ?_
    refine lv_topi (fun x3 ex3 => ?_)
    have h := h x3 ex3
    refine lv_istore_n (lv' := [(0, .int x3), (1, .int x2)]) hx hb dJ6_numberOfLeadingZeros_0f7a4_72 rfl hl (by decide) rfl (fun ls hl => ?_)
    refine lv_iload_n hx hb dJ6_numberOfLeadingZeros_0f7a4_73 rfl (lv_at hl 1 rfl) ?_
    refine lv_iload_n hx hb dJ6_numberOfLeadingZeros_0f7a4_74 rfl (lv_at hl 0 rfl) ?_
    refine lv_iconst (v := (1 : Int32)) hx hb dJ6_numberOfLeadingZeros_0f7a4_75 (by decide) ?_
    refine lv_iushr hx hb dJ6_numberOfLeadingZeros_0f7a4_76 rfl ?_
    refine lv_isub hx hb dJ6_numberOfLeadingZeros_0f7a4_77 ?_
    exact zr_ri S hr hlocks hw h dJ6_numberOfLeadingZeros_0f7a4_78
set_option maxHeartbeats 4000000 in
set_option maxRecDepth 100000 in
theorem sJ6_numberOfLeadingZeros_0f7a4_48 {p : Program} {l : Launch} {e : Env} {s : State} {m : MethodId} {args : Array Value} {below : List Frame} {meth : Method} {c : Code} {lo : Nat} {g : zg} {post : Int32 → zm_M → Prop}  (S : CallFix p m c cJ6_numberOfLeadingZeros_0f7a4 2 s args zU RJ6) (hr : meth.sig.returnType = (some .int)) (hlocks : meth.locks = false) (hK : zk_K zNF zNM g s)  : ∀ (v0 : Int32) (v1 : Int32) (M : zm_M), pJ6_numberOfLeadingZeros_0f7a4_48 g.2 post  v0 v1 M → ∀ (H : Heap) (locs : List Loc) (ls : Array Slot), zW lo g s H locs M → lv_has ls 2 [(0, .int v0), (1, .int v1)] → W p l e ({ frames := 1, cells := 0, slots := 0, locals := 40 } : Room) s m args below meth c H locs 0 0 (MQ below (va_Qi post (zc_B lo g) (zA lo)) args s 0 0 (zA lo)) (F0 m 48 ls []) := by
  obtain ⟨hx, hb, hml, hown, hts⟩ := id S
  intro v0 v1 M h H locs ls hw hl
  unfold pJ6_numberOfLeadingZeros_0f7a4_48 at h
  refine lv_iload_n hx hb dJ6_numberOfLeadingZeros_0f7a4_48 rfl (lv_at hl 0 rfl) ?_
  refine lv_bipush (v := (16 : Int32)) hx hb dJ6_numberOfLeadingZeros_0f7a4_49 (by decide) ?_
  refine lv_icmp_lt (tgt := 61) hx hb dJ6_numberOfLeadingZeros_0f7a4_51 (by decide) (fun hc => ?_) (fun hc => ?_)
  · have h := h.1 hc
    exact sJ6_numberOfLeadingZeros_0f7a4_61 S hr hlocks hK  v0 v1 _ h _ _ _ hw (lv_sub hl [0, 1] rfl)
  · have h := h.2 hc
    obtain ⟨x4, ex4⟩ : ∃ z : Int32, z = v1 + (-4 : Int32) := ⟨_, rfl⟩
    have h := h x4 ex4
    refine lv_iinc (v := x4) (lv' := [(1, .int x4), (0, .int v0)]) hx hb dJ6_numberOfLeadingZeros_0f7a4_54 hl (k := 1) rfl (by rw [ex4]; rfl) (by decide) rfl (fun ls hl => ?_)
    refine lv_iload_n hx hb dJ6_numberOfLeadingZeros_0f7a4_57 rfl (lv_at hl 1 rfl) ?_
    refine lv_iconst (v := (4 : Int32)) hx hb dJ6_numberOfLeadingZeros_0f7a4_58 (by decide) ?_
    refine lv_iushr hx hb dJ6_numberOfLeadingZeros_0f7a4_59 rfl ?_
    refine lv_topi (fun x5 ex5 => ?_)
    have h := h x5 ex5
    refine lv_istore_n (lv' := [(0, .int x5), (1, .int x4)]) hx hb dJ6_numberOfLeadingZeros_0f7a4_60 rfl hl (by decide) rfl (fun ls hl => ?_)
    exact sJ6_numberOfLeadingZeros_0f7a4_61 S hr hlocks hK  x5 x4 _ h _ _ _ hw (lv_sub hl [0, 1] rfl)
set_option maxHeartbeats 4000000 in
set_option maxRecDepth 100000 in
theorem sJ6_numberOfLeadingZeros_0f7a4_33 {p : Program} {l : Launch} {e : Env} {s : State} {m : MethodId} {args : Array Value} {below : List Frame} {meth : Method} {c : Code} {lo : Nat} {g : zg} {post : Int32 → zm_M → Prop}  (S : CallFix p m c cJ6_numberOfLeadingZeros_0f7a4 2 s args zU RJ6) (hr : meth.sig.returnType = (some .int)) (hlocks : meth.locks = false) (hK : zk_K zNF zNM g s)  : ∀ (v0 : Int32) (v1 : Int32) (M : zm_M), pJ6_numberOfLeadingZeros_0f7a4_33 g.2 post  v0 v1 M → ∀ (H : Heap) (locs : List Loc) (ls : Array Slot), zW lo g s H locs M → lv_has ls 2 [(0, .int v0), (1, .int v1)] → W p l e ({ frames := 1, cells := 0, slots := 0, locals := 40 } : Room) s m args below meth c H locs 0 0 (MQ below (va_Qi post (zc_B lo g) (zA lo)) args s 0 0 (zA lo)) (F0 m 33 ls []) := by
  obtain ⟨hx, hb, hml, hown, hts⟩ := id S
  intro v0 v1 M h H locs ls hw hl
  unfold pJ6_numberOfLeadingZeros_0f7a4_33 at h
  refine lv_iload_n hx hb dJ6_numberOfLeadingZeros_0f7a4_33 rfl (lv_at hl 0 rfl) ?_
  refine lv_sipush (v := (256 : Int32)) hx hb dJ6_numberOfLeadingZeros_0f7a4_34 (by decide) ?_
  refine lv_icmp_lt (tgt := 48) hx hb dJ6_numberOfLeadingZeros_0f7a4_37 (by decide) (fun hc => ?_) (fun hc => ?_)
  · have h := h.1 hc
    exact sJ6_numberOfLeadingZeros_0f7a4_48 S hr hlocks hK  v0 v1 _ h _ _ _ hw (lv_sub hl [0, 1] rfl)
  · have h := h.2 hc
    obtain ⟨x6, ex6⟩ : ∃ z : Int32, z = v1 + (-8 : Int32) := ⟨_, rfl⟩
    have h := h x6 ex6
    refine lv_iinc (v := x6) (lv' := [(1, .int x6), (0, .int v0)]) hx hb dJ6_numberOfLeadingZeros_0f7a4_40 hl (k := 1) rfl (by rw [ex6]; rfl) (by decide) rfl (fun ls hl => ?_)
    refine lv_iload_n hx hb dJ6_numberOfLeadingZeros_0f7a4_43 rfl (lv_at hl 1 rfl) ?_
    refine lv_bipush (v := (8 : Int32)) hx hb dJ6_numberOfLeadingZeros_0f7a4_44 (by decide) ?_
    refine lv_iushr hx hb dJ6_numberOfLeadingZeros_0f7a4_46 rfl ?_
    refine lv_topi (fun x7 ex7 => ?_)
    have h := h x7 ex7
    refine lv_istore_n (lv' := [(0, .int x7), (1, .int x6)]) hx hb dJ6_numberOfLeadingZeros_0f7a4_47 rfl hl (by decide) rfl (fun ls hl => ?_)
    exact sJ6_numberOfLeadingZeros_0f7a4_48 S hr hlocks hK  x7 x6 _ h _ _ _ hw (lv_sub hl [0, 1] rfl)
set_option maxHeartbeats 4000000 in
set_option maxRecDepth 100000 in
theorem kJ6_numberOfLeadingZeros_0f7a4 (l : Launch) (lo : Nat) (g : zg) (M : zm_M) (a0 : Int32) (post : Int32 → zm_M → Prop) (h : pJ6_numberOfLeadingZeros_0f7a4 g.2 a0 post M) : Met l yJ6_numberOfLeadingZeros_0f7a4 (Cond.code yJ6_numberOfLeadingZeros_0f7a4 cJ6_numberOfLeadingZeros_0f7a4 2 (some .int) :: zU) (({ frames := 1, cells := 0, slots := 0, locals := 40 } : Room)) (zc_P zNF zNM lo g M [.int a0]) (va_Qi post (zc_B lo g) (zA lo)) 0 0 (zA lo) := by
  refine Met.ofW (cc := cJ6_numberOfLeadingZeros_0f7a4) (maxL := 2) (ret := (some .int)) (by decide) rfl ?_
  intro p e s m args below meth c s₁ B hml hv
  obtain ⟨rfl, hR, hK⟩ := hv
  have hts := atoms_spec (ws := Cond.code yJ6_numberOfLeadingZeros_0f7a4 cJ6_numberOfLeadingZeros_0f7a4 2 (some .int) :: zU) B.pre
  have hts : ∀ w ∈ zU, w.before _ s = true := fun w hw => hts w (List.mem_cons_of_mem _ hw)
  have hown : s.vm.findClass RJ6 = some m.cls := findClass_of_methodNamed B.named
  have hx := B.exec
  have hb := B.bytes
  have hr := B.returns
  have hlocks := B.notSynchronized
  have S : CallFix p m c cJ6_numberOfLeadingZeros_0f7a4 2 s ([.int a0] : List Value).toArray zU RJ6 := ⟨hx, hb, hml, hown, hts⟩
  have hw : zW lo g s s.heap [] M := ⟨hR, va_S.rf⟩
  have hl := lv_entry ([.int a0]) (n := 2) (Nat.le_of_ble_eq_true rfl)
  rw [lg_entry_eq]
  generalize (lg_sl ([.int a0]) ++ List.replicate (2 - (lg_sl ([.int a0])).length) Slot.unset).toArray = ls at hl ⊢
  have hl : lv_has ls 2 [(0, .int a0)] := hl
  unfold pJ6_numberOfLeadingZeros_0f7a4 at h
  refine lv_iload_n hx hb dJ6_numberOfLeadingZeros_0f7a4_0 rfl (lv_at hl 0 rfl) ?_
  refine lv_if_gt (tgt := 15) hx hb dJ6_numberOfLeadingZeros_0f7a4_1 (by decide) (fun hc => ?_) (fun hc => ?_)
  · have h := h.1 hc
    refine lv_bipush (v := (31 : Int32)) hx hb dJ6_numberOfLeadingZeros_0f7a4_15 (by decide) ?_
    refine lv_topi (fun x1 ex1 => ?_)
    have h := h x1 ex1
    refine lv_istore_n (lv' := [(1, .int x1), (0, .int a0)]) hx hb dJ6_numberOfLeadingZeros_0f7a4_17 rfl hl (by decide) rfl (fun ls hl => ?_)
    refine lv_iload_n hx hb dJ6_numberOfLeadingZeros_0f7a4_18 rfl (lv_at hl 1 rfl) ?_
    refine lv_ldcw (v := (65536 : Int32)) hx hb hown (hts _ zu_34) dJ6_numberOfLeadingZeros_0f7a4_19 ?_
    refine lv_icmp_lt (tgt := 33) hx hb dJ6_numberOfLeadingZeros_0f7a4_22 (by decide) (fun hc => ?_) (fun hc => ?_)
    · have h := h.1 hc
      exact sJ6_numberOfLeadingZeros_0f7a4_33 S hr hlocks hK  a0 x1 _ h _ _ _ hw (lv_sub hl [1, 0] rfl)
    · have h := h.2 hc
      obtain ⟨x8, ex8⟩ : ∃ z : Int32, z = x1 + (-16 : Int32) := ⟨_, rfl⟩
      have h := h x8 ex8
      refine lv_iinc (v := x8) (lv' := [(1, .int x8), (0, .int a0)]) hx hb dJ6_numberOfLeadingZeros_0f7a4_25 hl (k := 0) rfl (by rw [ex8]; rfl) (by decide) rfl (fun ls hl => ?_)
      refine lv_iload_n hx hb dJ6_numberOfLeadingZeros_0f7a4_28 rfl (lv_at hl 1 rfl) ?_
      refine lv_bipush (v := (16 : Int32)) hx hb dJ6_numberOfLeadingZeros_0f7a4_29 (by decide) ?_
      refine lv_iushr hx hb dJ6_numberOfLeadingZeros_0f7a4_31 rfl ?_
      refine lv_topi (fun x9 ex9 => ?_)
      have h := h x9 ex9
      refine lv_istore_n (lv' := [(0, .int x9), (1, .int x8)]) hx hb dJ6_numberOfLeadingZeros_0f7a4_32 rfl hl (by decide) rfl (fun ls hl => ?_)
      exact sJ6_numberOfLeadingZeros_0f7a4_33 S hr hlocks hK  x9 x8 _ h _ _ _ hw (lv_sub hl [0, 1] rfl)
  · have h := h.2 hc
    refine lv_iload_n hx hb dJ6_numberOfLeadingZeros_0f7a4_4 rfl (lv_at hl 0 rfl) ?_
    refine lv_if_ne (tgt := 13) hx hb dJ6_numberOfLeadingZeros_0f7a4_5 (by decide) (fun hc => ?_) (fun hc => ?_)
    · have h := h.1 hc
      refine lv_iconst (v := (0 : Int32)) hx hb dJ6_numberOfLeadingZeros_0f7a4_13 (by decide) ?_
      exact zr_ri S hr hlocks hw h dJ6_numberOfLeadingZeros_0f7a4_14
    · have h := h.2 hc
      refine lv_bipush (v := (32 : Int32)) hx hb dJ6_numberOfLeadingZeros_0f7a4_8 (by decide) ?_
      refine lv_goto (tgt := 14) hx hb dJ6_numberOfLeadingZeros_0f7a4_10 (by decide) ?_
      exact zr_ri S hr hlocks hw h dJ6_numberOfLeadingZeros_0f7a4_14
set_option maxHeartbeats 4000000 in
set_option maxRecDepth 100000 in
theorem kX5_pairAt (l : Launch) (lo : Nat) (g : zg) (M : zm_M) (a0 : Nat) (a1 : Int32) (a2 : Int32) (post : Int64 → zm_M → Prop) (h : pX5_pairAt g.2 a0 a1 a2 post M) : Met l yX5_pairAt (Cond.code yX5_pairAt cX5_pairAt 3 (some .long) :: zU) (({ frames := 2, cells := 0, slots := 0, locals := 61 } : Room)) (zc_P zNF zNM lo g M [.ref a0, .int a1, .int a2]) (va_Ql post (zc_B lo g) (zA lo)) 0 0 (zA lo) := by
  refine Met.ofW (cc := cX5_pairAt) (maxL := 3) (ret := (some .long)) (by decide) rfl ?_
  intro p e s m args below meth c s₁ B hml hv
  obtain ⟨rfl, hR, hK⟩ := hv
  have hts := atoms_spec (ws := Cond.code yX5_pairAt cX5_pairAt 3 (some .long) :: zU) B.pre
  have hts : ∀ w ∈ zU, w.before _ s = true := fun w hw => hts w (List.mem_cons_of_mem _ hw)
  have hown : s.vm.findClass RX5 = some m.cls := findClass_of_methodNamed B.named
  have hx := B.exec
  have hb := B.bytes
  have hr := B.returns
  have hlocks := B.notSynchronized
  have S : CallFix p m c cX5_pairAt 3 s ([.ref a0, .int a1, .int a2] : List Value).toArray zU RX5 := ⟨hx, hb, hml, hown, hts⟩
  have hw : zW lo g s s.heap [] M := ⟨hR, va_S.rf⟩
  have hl := lv_entry ([.ref a0, .int a1, .int a2]) (n := 3) (Nat.le_of_ble_eq_true rfl)
  rw [lg_entry_eq]
  generalize (lg_sl ([.ref a0, .int a1, .int a2]) ++ List.replicate (3 - (lg_sl ([.ref a0, .int a1, .int a2])).length) Slot.unset).toArray = ls at hl ⊢
  have hl : lv_has ls 3 [(0, .ref a0), (1, .int a1), (2, .int a2)] := hl
  unfold pX5_pairAt at h
  refine lv_aload_n hx hb dX5_pairAt_0 rfl (lv_at hl 0 rfl) ?_
  refine lv_iload_n hx hb dX5_pairAt_1 rfl (lv_at hl 1 rfl) ?_
  obtain ⟨ho, h⟩ := h
  refine zr_Vl (As := [.int a1]) (rest := []) S hK hw (kX5_limbAt l lo g M a0 a1 _ h) (cwV 1 hts (zg_V zu_26 zu_27 zu_28 zu_12 zu_29) rfl rfl rfl (by decide +kernel) ⟨Nat.le_of_ble_eq_true rfl, Nat.le_of_ble_eq_true rfl⟩) (ci := 8) rfl ho rfl hl.1 rfl (Nat.le_of_ble_eq_true rfl) dX5_pairAt_2 ⟨Nat.le_of_ble_eq_true rfl, Nat.le_of_ble_eq_true rfl⟩ (fun r2 M1 H locs hw h => ?_)
  refine lv_bipush (v := (32 : Int32)) hx hb dX5_pairAt_5 (by decide) ?_
  refine lv_lshl hx hb dX5_pairAt_7 rfl ?_
  refine lv_aload_n hx hb dX5_pairAt_8 rfl (lv_at hl 0 rfl) ?_
  refine lv_iload_n hx hb dX5_pairAt_9 rfl (lv_at hl 1 rfl) ?_
  refine lv_iconst (v := (1 : Int32)) hx hb dX5_pairAt_10 (by decide) ?_
  refine lv_isub hx hb dX5_pairAt_11 ?_
  obtain ⟨ho, h⟩ := h
  refine zr_Vl (As := [.int (a1 - (1 : Int32))]) (rest := [.long (r2 <<< ((32 : Int32).toInt64 &&& 63))]) S hK hw (kX5_limbAt l lo g M1 a0 (a1 - (1 : Int32)) _ h) (cwV 1 hts (zg_V zu_26 zu_27 zu_28 zu_12 zu_29) rfl rfl rfl (by decide +kernel) ⟨Nat.le_of_ble_eq_true rfl, Nat.le_of_ble_eq_true rfl⟩) (ci := 8) rfl ho rfl hl.1 rfl (Nat.le_of_ble_eq_true rfl) dX5_pairAt_12 ⟨Nat.le_of_ble_eq_true rfl, Nat.le_of_ble_eq_true rfl⟩ (fun r4 M3 H locs hw h => ?_)
  refine lv_lor hx hb dX5_pairAt_15 ?_
  refine lv_iload_n hx hb dX5_pairAt_16 rfl (lv_at hl 2 rfl) ?_
  refine lv_lshl hx hb dX5_pairAt_17 rfl ?_
  refine lv_aload_n hx hb dX5_pairAt_18 rfl (lv_at hl 0 rfl) ?_
  refine lv_iload_n hx hb dX5_pairAt_19 rfl (lv_at hl 1 rfl) ?_
  refine lv_iconst (v := (2 : Int32)) hx hb dX5_pairAt_20 (by decide) ?_
  refine lv_isub hx hb dX5_pairAt_21 ?_
  obtain ⟨ho, h⟩ := h
  refine zr_Vl (As := [.int (a1 - (2 : Int32))]) (rest := [.long (((r2 <<< ((32 : Int32).toInt64 &&& 63)) ||| r4) <<< (a2.toInt64 &&& 63))]) S hK hw (kX5_limbAt l lo g M3 a0 (a1 - (2 : Int32)) _ h) (cwV 1 hts (zg_V zu_26 zu_27 zu_28 zu_12 zu_29) rfl rfl rfl (by decide +kernel) ⟨Nat.le_of_ble_eq_true rfl, Nat.le_of_ble_eq_true rfl⟩) (ci := 8) rfl ho rfl hl.1 rfl (Nat.le_of_ble_eq_true rfl) dX5_pairAt_22 ⟨Nat.le_of_ble_eq_true rfl, Nat.le_of_ble_eq_true rfl⟩ (fun r6 M5 H locs hw h => ?_)
  refine lv_iload_n hx hb dX5_pairAt_25 rfl (lv_at hl 2 rfl) ?_
  refine lv_lshl hx hb dX5_pairAt_26 rfl ?_
  refine lv_bipush (v := (32 : Int32)) hx hb dX5_pairAt_27 (by decide) ?_
  refine lv_lushr hx hb dX5_pairAt_29 rfl ?_
  refine lv_lor hx hb dX5_pairAt_30 ?_
  exact zr_rl S hr hlocks hw h dX5_pairAt_31
set_option maxHeartbeats 4000000 in
set_option maxRecDepth 100000 in
theorem kX5_quotientOfUnsigned (l : Launch) (lo : Nat) (g : zg) (M : zm_M) (a0 : Int64) (a2 : Int64) (post : Int64 → zm_M → Prop) (h : pX5_quotientOfUnsigned g.2 a0 a2 post M) : Met l yX5_quotientOfUnsigned (Cond.code yX5_quotientOfUnsigned cX5_quotientOfUnsigned 6 (some .long) :: zU) (({ frames := 1, cells := 0, slots := 0, locals := 40 } : Room)) (zc_P zNF zNM lo g M [.long a0, .long a2]) (va_Ql post (zc_B lo g) (zA lo)) 0 0 (zA lo) := by
  refine Met.ofW (cc := cX5_quotientOfUnsigned) (maxL := 6) (ret := (some .long)) (by decide) rfl ?_
  intro p e s m args below meth c s₁ B hml hv
  obtain ⟨rfl, hR, hK⟩ := hv
  have hts := atoms_spec (ws := Cond.code yX5_quotientOfUnsigned cX5_quotientOfUnsigned 6 (some .long) :: zU) B.pre
  have hts : ∀ w ∈ zU, w.before _ s = true := fun w hw => hts w (List.mem_cons_of_mem _ hw)
  have hown : s.vm.findClass RX5 = some m.cls := findClass_of_methodNamed B.named
  have hx := B.exec
  have hb := B.bytes
  have hr := B.returns
  have hlocks := B.notSynchronized
  have S : CallFix p m c cX5_quotientOfUnsigned 6 s ([.long a0, .long a2] : List Value).toArray zU RX5 := ⟨hx, hb, hml, hown, hts⟩
  have hw : zW lo g s s.heap [] M := ⟨hR, va_S.rf⟩
  have hl := lv_entry ([.long a0, .long a2]) (n := 6) (Nat.le_of_ble_eq_true rfl)
  rw [lg_entry_eq]
  generalize (lg_sl ([.long a0, .long a2]) ++ List.replicate (6 - (lg_sl ([.long a0, .long a2])).length) Slot.unset).toArray = ls at hl ⊢
  have hl : lv_has ls 6 [(0, .long a0), (2, .long a2)] := hl
  unfold pX5_quotientOfUnsigned at h
  refine lv_lload_n hx hb dX5_quotientOfUnsigned_0 rfl (lv_at hl 1 rfl) ?_
  refine lv_lconst (v := (0 : Int64)) hx hb dX5_quotientOfUnsigned_1 (by decide) ?_
  refine W.lcmp hx hb dX5_quotientOfUnsigned_2 ?_
  refine lv_if_gt (tgt := 8) hx hb dX5_quotientOfUnsigned_3 (by decide) (fun hc => ?_) (fun hc => ?_)
  · have h := h.1 (zc_gt.mp hc)
    refine lv_lload_n hx hb dX5_quotientOfUnsigned_8 rfl (lv_at hl 0 rfl) ?_
    refine lv_iconst (v := (1 : Int32)) hx hb dX5_quotientOfUnsigned_9 (by decide) ?_
    refine lv_lushr hx hb dX5_quotientOfUnsigned_10 rfl ?_
    refine lv_lload_n hx hb dX5_quotientOfUnsigned_11 rfl (lv_at hl 1 rfl) ?_
    refine lv_ldiv hx hb dX5_quotientOfUnsigned_12 h.1 ?_
    have h := h.2
    refine lv_iconst (v := (1 : Int32)) hx hb dX5_quotientOfUnsigned_13 (by decide) ?_
    refine lv_lshl hx hb dX5_quotientOfUnsigned_14 rfl ?_
    refine lv_topl (fun x1 ex1 => ?_)
    have h := h x1 ex1
    refine lv_lstore (lv' := [(4, .long x1), (0, .long a0), (2, .long a2)]) hx hb dX5_quotientOfUnsigned_15 hl (by decide) rfl (fun ls hl => ?_)
    refine lv_lload_n hx hb dX5_quotientOfUnsigned_17 rfl (lv_at hl 1 rfl) ?_
    refine lv_lload hx hb dX5_quotientOfUnsigned_18 (lv_at hl 0 rfl) ?_
    refine lv_lload_n hx hb dX5_quotientOfUnsigned_20 rfl (lv_at hl 2 rfl) ?_
    refine lv_lmul hx hb dX5_quotientOfUnsigned_21 ?_
    refine lv_lsub hx hb dX5_quotientOfUnsigned_22 ?_
    refine lv_lload_n hx hb dX5_quotientOfUnsigned_23 rfl (lv_at hl 2 rfl) ?_
    refine W.lcmp hx hb dX5_quotientOfUnsigned_24 ?_
    refine lv_if_lt (tgt := 35) hx hb dX5_quotientOfUnsigned_25 (by decide) (fun hc => ?_) (fun hc => ?_)
    · have h := h.1 (zc_lt.mp hc)
      refine lv_lload hx hb dX5_quotientOfUnsigned_35 (lv_at hl 0 rfl) ?_
      exact zr_rl S hr hlocks hw h dX5_quotientOfUnsigned_37
    · have h := h.2 (fun q => hc (zc_lt.mpr q))
      refine lv_lload hx hb dX5_quotientOfUnsigned_28 (lv_at hl 0 rfl) ?_
      refine lv_lconst (v := (1 : Int64)) hx hb dX5_quotientOfUnsigned_30 (by decide) ?_
      refine lv_ladd hx hb dX5_quotientOfUnsigned_31 ?_
      refine lv_goto (tgt := 37) hx hb dX5_quotientOfUnsigned_32 (by decide) ?_
      exact zr_rl S hr hlocks hw h dX5_quotientOfUnsigned_37
  · have h := h.2 (fun q => hc (zc_gt.mpr q))
    refine lv_lconst (v := (0 : Int64)) hx hb dX5_quotientOfUnsigned_6 (by decide) ?_
    exact zr_rl S hr hlocks hw h dX5_quotientOfUnsigned_7
set_option maxHeartbeats 4000000 in
set_option maxRecDepth 100000 in
theorem sX5_guess_68 {p : Program} {l : Launch} {e : Env} {s : State} {m : MethodId} {args : Array Value} {below : List Frame} {meth : Method} {c : Code} {lo : Nat} {g : zg} {post : Int64 → zm_M → Prop} {k20 : Int64 → Int64 → Int64 → Int64 → Int64 → Int32 → zm_M → Prop} (S : CallFix p m c cX5_guess 13 s args zU RX5) (hr : meth.sig.returnType = (some .long)) (hlocks : meth.locks = false) (hK : zk_K zNF zNM g s) (hk20 : ∀ (v2 : Int64) (v4 : Int64) (v6 : Int64) (v8 : Int64) (v10 : Int64) (v12 : Int32) (M : zm_M), k20 v2 v4 v6 v8 v10 v12 M → ∀ (H : Heap) (locs : List Loc) (ls : Array Slot), zW lo g s H locs M → lv_has ls 13 [(2, .long v2), (4, .long v4), (6, .long v6), (8, .long v8), (10, .long v10), (12, .int v12)] → W p l e ({ frames := 2, cells := 0, slots := 0, locals := 65 } : Room) s m args below meth c H locs 0 0 (MQ below (va_Ql post (zc_B lo g) (zA lo)) args s 0 0 (zA lo)) (F0 m 20 ls [])) : ∀ (v2 : Int64) (v4 : Int64) (v6 : Int64) (v8 : Int64) (v10 : Int64) (v12 : Int32) (M : zm_M), pX5_guess_68 g.2 post k20 v2 v4 v6 v8 v10 v12 M → ∀ (H : Heap) (locs : List Loc) (ls : Array Slot), zW lo g s H locs M → lv_has ls 13 [(2, .long v2), (4, .long v4), (6, .long v6), (8, .long v8), (10, .long v10), (12, .int v12)] → W p l e ({ frames := 2, cells := 0, slots := 0, locals := 65 } : Room) s m args below meth c H locs 0 0 (MQ below (va_Ql post (zc_B lo g) (zA lo)) args s 0 0 (zA lo)) (F0 m 68 ls []) := by
  obtain ⟨hx, hb, hml, hown, hts⟩ := id S
  intro v2 v4 v6 v8 v10 v12 M h H locs ls hw hl
  unfold pX5_guess_68 at h
  refine lv_lload hx hb dX5_guess_68 (lv_at hl 3 rfl) ?_
  refine lv_lconst (v := (1 : Int64)) hx hb dX5_guess_70 (by decide) ?_
  refine lv_lsub hx hb dX5_guess_71 ?_
  refine lv_topl (fun x5 ex5 => ?_)
  have h := h x5 ex5
  refine lv_lstore (lv' := [(8, .long x5), (2, .long v2), (4, .long v4), (6, .long v6), (10, .long v10), (12, .int v12)]) hx hb dX5_guess_72 hl (by decide) rfl (fun ls hl => ?_)
  refine lv_lload hx hb dX5_guess_74 (lv_at hl 4 rfl) ?_
  refine lv_lload hx hb dX5_guess_76 (lv_at hl 2 rfl) ?_
  refine lv_ladd hx hb dX5_guess_78 ?_
  refine lv_topl (fun x6 ex6 => ?_)
  have h := h x6 ex6
  refine lv_lstore (lv' := [(10, .long x6), (8, .long x5), (2, .long v2), (4, .long v4), (6, .long v6), (12, .int v12)]) hx hb dX5_guess_79 hl (by decide) rfl (fun ls hl => ?_)
  obtain ⟨x7, ex7⟩ : ∃ z : Int32, z = v12 + (1 : Int32) := ⟨_, rfl⟩
  have h := h x7 ex7
  refine lv_iinc (v := x7) (lv' := [(12, .int x7), (10, .long x6), (8, .long x5), (2, .long v2), (4, .long v4), (6, .long v6)]) hx hb dX5_guess_81 hl (k := 5) rfl (by rw [ex7]; rfl) (by decide) rfl (fun ls hl => ?_)
  refine lv_goto (tgt := 20) hx hb dX5_guess_84 (by decide) ?_
  exact hk20 v2 v4 v6 x5 x6 x7 _ h _ _ _ hw (lv_sub hl [3, 4, 5, 2, 1, 0] rfl)
set_option maxHeartbeats 4000000 in
set_option maxRecDepth 100000 in
theorem sX5_guess_20 {p : Program} {l : Launch} {e : Env} {s : State} {m : MethodId} {args : Array Value} {below : List Frame} {meth : Method} {c : Code} {lo : Nat} {g : zg} {post : Int64 → zm_M → Prop}  (S : CallFix p m c cX5_guess 13 s args zU RX5) (hr : meth.sig.returnType = (some .long)) (hlocks : meth.locks = false) (hK : zk_K zNF zNM g s)  : ∀ (n : Nat) (v2 : Int64) (v4 : Int64) (v6 : Int64) (v8 : Int64) (v10 : Int64) (v12 : Int32) (M : zm_M), pX5_guess_20 g.2 post  n v2 v4 v6 v8 v10 v12 M → ∀ (H : Heap) (locs : List Loc) (ls : Array Slot), zW lo g s H locs M → lv_has ls 13 [(2, .long v2), (4, .long v4), (6, .long v6), (8, .long v8), (10, .long v10), (12, .int v12)] → W p l e ({ frames := 2, cells := 0, slots := 0, locals := 65 } : Room) s m args below meth c H locs 0 0 (MQ below (va_Ql post (zc_B lo g) (zA lo)) args s 0 0 (zA lo)) (F0 m 20 ls []) := by
  obtain ⟨hx, hb, hml, hown, hts⟩ := id S
  intro n
  induction n with
  | zero =>
    intro v2 v4 v6 v8 v10 v12 M h
    exact False.elim h
  | succ n20 ih =>
    intro v2 v4 v6 v8 v10 v12 M h H locs ls hw hl
    rw [pX5_guess_20] at h
    refine lv_iload hx hb dX5_guess_20 (lv_at hl 5 rfl) ?_
    refine lv_iconst (v := (2 : Int32)) hx hb dX5_guess_22 (by decide) ?_
    refine lv_icmp_ge (tgt := 87) hx hb dX5_guess_23 (by decide) (fun hc => ?_) (fun hc => ?_)
    · have h := h.1 hc
      refine lv_lload hx hb dX5_guess_87 (lv_at hl 3 rfl) ?_
      exact zr_rl S hr hlocks hw h dX5_guess_89
    · have h := h.2 hc
      refine lv_lload hx hb dX5_guess_26 (lv_at hl 4 rfl) ?_
      refine lv_ldc2 (v := (4294967295 : Int64)) hx hb hown (hts _ zu_25) dX5_guess_28 ?_
      refine W.lcmp hx hb dX5_guess_31 ?_
      refine lv_if_gt (tgt := 87) hx hb dX5_guess_32 (by decide) (fun hc => ?_) (fun hc => ?_)
      · have h := h.1 (zc_gt.mp hc)
        refine lv_lload hx hb dX5_guess_87 (lv_at hl 3 rfl) ?_
        exact zr_rl S hr hlocks hw h dX5_guess_89
      · have h := h.2 (fun q => hc (zc_gt.mpr q))
        refine lv_lload hx hb dX5_guess_35 (lv_at hl 3 rfl) ?_
        refine lv_ldc2 (v := (4294967295 : Int64)) hx hb hown (hts _ zu_25) dX5_guess_37 ?_
        refine W.lcmp hx hb dX5_guess_40 ?_
        refine lv_if_gt (tgt := 68) hx hb dX5_guess_41 (by decide) (fun hc => ?_) (fun hc => ?_)
        · have h := h.1 (zc_gt.mp hc)
          exact sX5_guess_68 S hr hlocks hK ih v2 v4 v6 v8 v10 v12 _ h _ _ _ hw (lv_sub hl [0, 1, 2, 3, 4, 5] rfl)
        · have h := h.2 (fun q => hc (zc_gt.mpr q))
          refine lv_lload hx hb dX5_guess_44 (lv_at hl 3 rfl) ?_
          refine lv_lload hx hb dX5_guess_46 (lv_at hl 2 rfl) ?_
          refine lv_lmul hx hb dX5_guess_48 ?_
          refine lv_ldc2 (v := (-9223372036854775808 : Int64)) hx hb hown (hts _ zu_38) dX5_guess_49 ?_
          refine lv_ladd hx hb dX5_guess_52 ?_
          refine lv_lload hx hb dX5_guess_53 (lv_at hl 4 rfl) ?_
          refine lv_bipush (v := (32 : Int32)) hx hb dX5_guess_55 (by decide) ?_
          refine lv_lshl hx hb dX5_guess_57 rfl ?_
          refine lv_lload_n hx hb dX5_guess_58 rfl (lv_at hl 0 rfl) ?_
          refine lv_lor hx hb dX5_guess_59 ?_
          refine lv_ldc2 (v := (-9223372036854775808 : Int64)) hx hb hown (hts _ zu_38) dX5_guess_60 ?_
          refine lv_ladd hx hb dX5_guess_63 ?_
          refine W.lcmp hx hb dX5_guess_64 ?_
          refine lv_if_le (tgt := 81) hx hb dX5_guess_65 (by decide) (fun hc => ?_) (fun hc => ?_)
          · have h := h.1 (zc_le.mp hc)
            obtain ⟨x8, ex8⟩ : ∃ z : Int32, z = v12 + (1 : Int32) := ⟨_, rfl⟩
            have h := h x8 ex8
            refine lv_iinc (v := x8) (lv' := [(12, .int x8), (2, .long v2), (4, .long v4), (6, .long v6), (8, .long v8), (10, .long v10)]) hx hb dX5_guess_81 hl (k := 5) rfl (by rw [ex8]; rfl) (by decide) rfl (fun ls hl => ?_)
            refine lv_goto (tgt := 20) hx hb dX5_guess_84 (by decide) ?_
            exact ih v2 v4 v6 v8 v10 x8 _ h _ _ _ hw (lv_sub hl [1, 2, 3, 4, 5, 0] rfl)
          · have h := h.2 (fun q => hc (zc_le.mpr q))
            exact sX5_guess_68 S hr hlocks hK ih v2 v4 v6 v8 v10 v12 _ h _ _ _ hw (lv_sub hl [0, 1, 2, 3, 4, 5] rfl)
set_option maxHeartbeats 4000000 in
set_option maxRecDepth 100000 in
theorem kX5_guess (l : Launch) (lo : Nat) (g : zg) (M : zm_M) (a0 : Int64) (a2 : Int64) (a4 : Int64) (a6 : Int64) (post : Int64 → zm_M → Prop) (h : pX5_guess g.2 a0 a2 a4 a6 post M) : Met l yX5_guess (Cond.code yX5_guess cX5_guess 13 (some .long) :: zU) (({ frames := 2, cells := 0, slots := 0, locals := 65 } : Room)) (zc_P zNF zNM lo g M [.long a0, .long a2, .long a4, .long a6]) (va_Ql post (zc_B lo g) (zA lo)) 0 0 (zA lo) := by
  refine Met.ofW (cc := cX5_guess) (maxL := 13) (ret := (some .long)) (by decide) rfl ?_
  intro p e s m args below meth c s₁ B hml hv
  obtain ⟨rfl, hR, hK⟩ := hv
  have hts := atoms_spec (ws := Cond.code yX5_guess cX5_guess 13 (some .long) :: zU) B.pre
  have hts : ∀ w ∈ zU, w.before _ s = true := fun w hw => hts w (List.mem_cons_of_mem _ hw)
  have hown : s.vm.findClass RX5 = some m.cls := findClass_of_methodNamed B.named
  have hx := B.exec
  have hb := B.bytes
  have hr := B.returns
  have hlocks := B.notSynchronized
  have S : CallFix p m c cX5_guess 13 s ([.long a0, .long a2, .long a4, .long a6] : List Value).toArray zU RX5 := ⟨hx, hb, hml, hown, hts⟩
  have hw : zW lo g s s.heap [] M := ⟨hR, va_S.rf⟩
  have hl := lv_entry ([.long a0, .long a2, .long a4, .long a6]) (n := 13) (Nat.le_of_ble_eq_true rfl)
  rw [lg_entry_eq]
  generalize (lg_sl ([.long a0, .long a2, .long a4, .long a6]) ++ List.replicate (13 - (lg_sl ([.long a0, .long a2, .long a4, .long a6])).length) Slot.unset).toArray = ls at hl ⊢
  have hl : lv_has ls 13 [(0, .long a0), (2, .long a2), (4, .long a4), (6, .long a6)] := hl
  unfold pX5_guess at h
  refine lv_lload_n hx hb dX5_guess_0 rfl (lv_at hl 0 rfl) ?_
  refine lv_lload hx hb dX5_guess_1 (lv_at hl 2 rfl) ?_
  refine zr_Sl (As := [.long a0, .long a4]) (rest := []) S hK hw (kX5_quotientOfUnsigned l lo g M a0 a4 _ h) (va_cwS 2 hts (zg_S zu_35 zu_36 zu_12 zu_37) rfl rfl rfl (by decide +kernel) ⟨Nat.le_of_ble_eq_true rfl, Nat.le_of_ble_eq_true rfl⟩) rfl hl.1 rfl (Nat.le_of_ble_eq_true rfl) dX5_guess_3 ⟨Nat.le_of_ble_eq_true rfl, Nat.le_of_ble_eq_true rfl⟩ (fun r2 M1 H locs hw h => ?_)
  refine lv_lstore (lv' := [(8, .long r2), (0, .long a0), (2, .long a2), (4, .long a4), (6, .long a6)]) hx hb dX5_guess_6 hl (by decide) rfl (fun ls hl => ?_)
  refine lv_lload_n hx hb dX5_guess_8 rfl (lv_at hl 1 rfl) ?_
  refine lv_lload hx hb dX5_guess_9 (lv_at hl 0 rfl) ?_
  refine lv_lload hx hb dX5_guess_11 (lv_at hl 3 rfl) ?_
  refine lv_lmul hx hb dX5_guess_13 ?_
  refine lv_lsub hx hb dX5_guess_14 ?_
  refine lv_topl (fun x3 ex3 => ?_)
  have h := h x3 ex3
  refine lv_lstore (lv' := [(10, .long x3), (8, .long r2), (0, .long a0), (2, .long a2), (4, .long a4), (6, .long a6)]) hx hb dX5_guess_15 hl (by decide) rfl (fun ls hl => ?_)
  refine lv_iconst (v := (0 : Int32)) hx hb dX5_guess_17 (by decide) ?_
  refine lv_topi (fun x4 ex4 => ?_)
  have h := h x4 ex4
  refine lv_istore (lv' := [(12, .int x4), (10, .long x3), (8, .long r2), (0, .long a0), (2, .long a2), (4, .long a4), (6, .long a6)]) hx hb dX5_guess_18 hl (by decide) rfl (fun ls hl => ?_)
  obtain ⟨n20, h⟩ := h
  refine sX5_guess_20 S hr hlocks hK  n20 a2 a4 a6 r2 x3 x4 _ h _ _ _ hw (lv_sub hl [4, 5, 6, 2, 1, 0] rfl)
set_option maxHeartbeats 4000000 in
set_option maxRecDepth 100000 in
theorem sX5_takeTimes_22 {p : Program} {l : Launch} {e : Env} {s : State} {m : MethodId} {args : Array Value} {below : List Frame} {meth : Method} {c : Code} {lo : Nat} {g : zg} {post : Int32 → zm_M → Prop} {k104 : Nat → Int32 → Int32 → Int64 → zm_M → Prop} (S : CallFix p m c cX5_takeTimes 13 s args zU RX5) (hr : meth.sig.returnType = (some .boolean)) (hlocks : meth.locks = false) (hK : zk_K zNF zNM g s) (hk104 : ∀ (v0 : Nat) (v4 : Int32) (v5 : Int32) (v6 : Int64) (M : zm_M), k104 v0 v4 v5 v6 M → ∀ (H : Heap) (locs : List Loc) (ls : Array Slot), zW lo g s H locs M → lv_has ls 13 [(0, .ref v0), (4, .int v4), (5, .int v5), (6, .long v6)] → W p l e ({ frames := 2, cells := 0, slots := 0, locals := 61 } : Room) s m args below meth c H locs 0 0 (MQ below (va_Qi post (zc_B lo g) (zA lo)) args s 0 0 (zA lo)) (F0 m 104 ls [])) : ∀ (n : Nat) (v0 : Nat) (v1 : Nat) (v2 : Int64) (v4 : Int32) (v5 : Int32) (v6 : Int64) (v8 : Int32) (M : zm_M), pX5_takeTimes_22 g.2 post k104 n v0 v1 v2 v4 v5 v6 v8 M → ∀ (H : Heap) (locs : List Loc) (ls : Array Slot), zW lo g s H locs M → lv_has ls 13 [(0, .ref v0), (1, .ref v1), (2, .long v2), (4, .int v4), (5, .int v5), (6, .long v6), (8, .int v8)] → W p l e ({ frames := 2, cells := 0, slots := 0, locals := 61 } : Room) s m args below meth c H locs 0 0 (MQ below (va_Qi post (zc_B lo g) (zA lo)) args s 0 0 (zA lo)) (F0 m 22 ls []) := by
  obtain ⟨hx, hb, hml, hown, hts⟩ := id S
  intro n
  induction n with
  | zero =>
    intro v0 v1 v2 v4 v5 v6 v8 M h
    exact False.elim h
  | succ n22 ih =>
    intro v0 v1 v2 v4 v5 v6 v8 M h H locs ls hw hl
    rw [pX5_takeTimes_22] at h
    refine lv_iload hx hb dX5_takeTimes_22 (lv_at hl 6 rfl) ?_
    refine lv_iload hx hb dX5_takeTimes_24 (lv_at hl 4 rfl) ?_
    refine lv_icmp_ge (tgt := 104) hx hb dX5_takeTimes_26 (by decide) (fun hc => ?_) (fun hc => ?_)
    · have h := h.1 hc
      exact hk104 v0 v4 v5 v6 _ h _ _ _ hw (lv_sub hl [0, 3, 4, 5] rfl)
    · have h := h.2 hc
      refine lv_lload_n hx hb dX5_takeTimes_29 rfl (lv_at hl 2 rfl) ?_
      refine lv_aload_n hx hb dX5_takeTimes_30 rfl (lv_at hl 1 rfl) ?_
      refine zr_ga (C := RX5) (T := TX5) (N := 2) (ci := 8) (k := 0) S hK hw zi_X5 rfl (by decide) zu_1 dX5_takeTimes_31 h (fun row_6 h => ?_)
      refine lv_iload hx hb dX5_takeTimes_34 (lv_at hl 6 rfl) ?_
      refine zr_iald S hK hw dX5_takeTimes_36 h (fun e7 h => ?_)
      refine lv_i2l hx hb dX5_takeTimes_37 rfl ?_
      refine lv_ldc2 (v := (4294967295 : Int64)) hx hb hown (hts _ zu_25) dX5_takeTimes_38 ?_
      refine lv_land hx hb dX5_takeTimes_41 ?_
      refine lv_lmul hx hb dX5_takeTimes_42 ?_
      refine lv_lload hx hb dX5_takeTimes_43 (lv_at hl 5 rfl) ?_
      refine lv_ladd hx hb dX5_takeTimes_45 ?_
      refine lv_topl (fun x8 ex8 => ?_)
      have h := h x8 ex8
      refine lv_lstore (lv' := [(9, .long x8), (0, .ref v0), (1, .ref v1), (2, .long v2), (4, .int v4), (5, .int v5), (6, .long v6), (8, .int v8)]) hx hb dX5_takeTimes_46 hl (by decide) rfl (fun ls hl => ?_)
      refine lv_aload_n hx hb dX5_takeTimes_48 rfl (lv_at hl 1 rfl) ?_
      refine zr_ga (C := RX5) (T := TX5) (N := 2) (ci := 8) (k := 0) S hK hw zi_X5 rfl (by decide) zu_1 dX5_takeTimes_49 h (fun row_9 h => ?_)
      refine lv_iload hx hb dX5_takeTimes_52 (lv_at hl 4 rfl) ?_
      refine lv_iload hx hb dX5_takeTimes_54 (lv_at hl 7 rfl) ?_
      refine lv_iadd hx hb dX5_takeTimes_56 ?_
      refine zr_iald S hK hw dX5_takeTimes_57 h (fun e10 h => ?_)
      refine lv_i2l hx hb dX5_takeTimes_58 rfl ?_
      refine lv_ldc2 (v := (4294967295 : Int64)) hx hb hown (hts _ zu_25) dX5_takeTimes_59 ?_
      refine lv_land hx hb dX5_takeTimes_62 ?_
      refine lv_lload hx hb dX5_takeTimes_63 (lv_at hl 0 rfl) ?_
      refine lv_ldc2 (v := (4294967295 : Int64)) hx hb hown (hts _ zu_25) dX5_takeTimes_65 ?_
      refine lv_land hx hb dX5_takeTimes_68 ?_
      refine lv_lsub hx hb dX5_takeTimes_69 ?_
      refine lv_topl (fun x11 ex11 => ?_)
      have h := h x11 ex11
      refine lv_lstore (lv' := [(11, .long x11), (9, .long x8), (0, .ref v0), (1, .ref v1), (2, .long v2), (4, .int v4), (5, .int v5), (6, .long v6), (8, .int v8)]) hx hb dX5_takeTimes_70 hl (by decide) rfl (fun ls hl => ?_)
      refine lv_aload_n hx hb dX5_takeTimes_72 rfl (lv_at hl 2 rfl) ?_
      refine zr_ga (C := RX5) (T := TX5) (N := 2) (ci := 8) (k := 0) S hK hw zi_X5 rfl (by decide) zu_1 dX5_takeTimes_73 h (fun row_12 h => ?_)
      refine lv_iload hx hb dX5_takeTimes_76 (lv_at hl 5 rfl) ?_
      refine lv_iload hx hb dX5_takeTimes_78 (lv_at hl 8 rfl) ?_
      refine lv_iadd hx hb dX5_takeTimes_80 ?_
      refine lv_lload hx hb dX5_takeTimes_81 (lv_at hl 0 rfl) ?_
      refine lv_l2i hx hb dX5_takeTimes_83 rfl ?_
      refine zr_iast S hK hw dX5_takeTimes_84 h (fun M13 H locs hw h => ?_)
      refine lv_lload hx hb dX5_takeTimes_85 (lv_at hl 1 rfl) ?_
      refine lv_bipush (v := (32 : Int32)) hx hb dX5_takeTimes_87 (by decide) ?_
      refine lv_lushr hx hb dX5_takeTimes_89 rfl ?_
      refine lv_lload hx hb dX5_takeTimes_90 (lv_at hl 0 rfl) ?_
      refine lv_bipush (v := (63 : Int32)) hx hb dX5_takeTimes_92 (by decide) ?_
      refine lv_lushr hx hb dX5_takeTimes_94 rfl ?_
      refine lv_ladd hx hb dX5_takeTimes_95 ?_
      refine lv_topl (fun x14 ex14 => ?_)
      have h := h x14 ex14
      refine lv_lstore (lv' := [(6, .long x14), (11, .long x11), (9, .long x8), (0, .ref v0), (1, .ref v1), (2, .long v2), (4, .int v4), (5, .int v5), (8, .int v8)]) hx hb dX5_takeTimes_96 hl (by decide) rfl (fun ls hl => ?_)
      obtain ⟨x15, ex15⟩ : ∃ z : Int32, z = v8 + (1 : Int32) := ⟨_, rfl⟩
      have h := h x15 ex15
      refine lv_iinc (v := x15) (lv' := [(8, .int x15), (6, .long x14), (11, .long x11), (9, .long x8), (0, .ref v0), (1, .ref v1), (2, .long v2), (4, .int v4), (5, .int v5)]) hx hb dX5_takeTimes_98 hl (k := 8) rfl (by rw [ex15]; rfl) (by decide) rfl (fun ls hl => ?_)
      refine lv_goto (tgt := 22) hx hb dX5_takeTimes_101 (by decide) ?_
      exact ih v0 v1 v2 v4 v5 x14 x15 _ h _ _ _ hw (lv_sub hl [4, 5, 6, 7, 8, 1, 0] rfl)
set_option maxHeartbeats 4000000 in
set_option maxRecDepth 100000 in
theorem kX5_takeTimes (l : Launch) (lo : Nat) (g : zg) (M : zm_M) (a0 : Nat) (a1 : Nat) (a2 : Int64) (a4 : Int32) (post : Int32 → zm_M → Prop) (h : pX5_takeTimes g.2 a0 a1 a2 a4 post M) : Met l yX5_takeTimes (Cond.code yX5_takeTimes cX5_takeTimes 13 (some .boolean) :: zU) (({ frames := 2, cells := 0, slots := 0, locals := 61 } : Room)) (zc_P zNF zNM lo g M [.ref a0, .ref a1, .long a2, .int a4]) (va_Qi post (zc_B lo g) (zA lo)) 0 0 (zA lo) := by
  refine Met.ofW (cc := cX5_takeTimes) (maxL := 13) (ret := (some .boolean)) (by decide) rfl ?_
  intro p e s m args below meth c s₁ B hml hv
  obtain ⟨rfl, hR, hK⟩ := hv
  have hts := atoms_spec (ws := Cond.code yX5_takeTimes cX5_takeTimes 13 (some .boolean) :: zU) B.pre
  have hts : ∀ w ∈ zU, w.before _ s = true := fun w hw => hts w (List.mem_cons_of_mem _ hw)
  have hown : s.vm.findClass RX5 = some m.cls := findClass_of_methodNamed B.named
  have hx := B.exec
  have hb := B.bytes
  have hr := B.returns
  have hlocks := B.notSynchronized
  have S : CallFix p m c cX5_takeTimes 13 s ([.ref a0, .ref a1, .long a2, .int a4] : List Value).toArray zU RX5 := ⟨hx, hb, hml, hown, hts⟩
  have hw : zW lo g s s.heap [] M := ⟨hR, va_S.rf⟩
  have hl := lv_entry ([.ref a0, .ref a1, .long a2, .int a4]) (n := 13) (Nat.le_of_ble_eq_true rfl)
  rw [lg_entry_eq]
  generalize (lg_sl ([.ref a0, .ref a1, .long a2, .int a4]) ++ List.replicate (13 - (lg_sl ([.ref a0, .ref a1, .long a2, .int a4])).length) Slot.unset).toArray = ls at hl ⊢
  have hl : lv_has ls 13 [(0, .ref a0), (1, .ref a1), (2, .long a2), (4, .int a4)] := hl
  unfold pX5_takeTimes at h
  refine lv_aload_n hx hb dX5_takeTimes_0 rfl (lv_at hl 1 rfl) ?_
  refine zr_gi (C := RX5) (T := TX5) (N := 2) (ci := 8) (k := 1) S hK hw zi_X5 rfl (by decide) zu_0 dX5_takeTimes_1 h (fun used_1 h => ?_)
  refine lv_aload_n hx hb dX5_takeTimes_4 rfl (lv_at hl 0 rfl) ?_
  refine zr_gi (C := RX5) (T := TX5) (N := 2) (ci := 8) (k := 1) S hK hw zi_X5 rfl (by decide) zu_0 dX5_takeTimes_5 h (fun used_2 h => ?_)
  refine lv_iload hx hb dX5_takeTimes_8 (lv_at hl 3 rfl) ?_
  refine lv_isub hx hb dX5_takeTimes_10 ?_
  refine zr_min S hl.1 zu_2 zu_3 zu_4 zu_5 (Nat.le_of_ble_eq_true rfl) (Nat.le_of_ble_eq_true rfl) (Nat.zero_le _) (Nat.zero_le _) dX5_takeTimes_11 ?_
  refine lv_topi (fun x3 ex3 => ?_)
  have h := h x3 ex3
  refine lv_istore (lv' := [(5, .int x3), (0, .ref a0), (1, .ref a1), (2, .long a2), (4, .int a4)]) hx hb dX5_takeTimes_14 hl (by decide) rfl (fun ls hl => ?_)
  refine lv_lconst (v := (0 : Int64)) hx hb dX5_takeTimes_16 (by decide) ?_
  refine lv_topl (fun x4 ex4 => ?_)
  have h := h x4 ex4
  refine lv_lstore (lv' := [(6, .long x4), (5, .int x3), (0, .ref a0), (1, .ref a1), (2, .long a2), (4, .int a4)]) hx hb dX5_takeTimes_17 hl (by decide) rfl (fun ls hl => ?_)
  refine lv_iconst (v := (0 : Int32)) hx hb dX5_takeTimes_19 (by decide) ?_
  refine lv_topi (fun x5 ex5 => ?_)
  have h := h x5 ex5
  refine lv_istore (lv' := [(8, .int x5), (6, .long x4), (5, .int x3), (0, .ref a0), (1, .ref a1), (2, .long a2), (4, .int a4)]) hx hb dX5_takeTimes_20 hl (by decide) rfl (fun ls hl => ?_)
  obtain ⟨n22, h⟩ := h
  refine sX5_takeTimes_22 S hr hlocks hK (fun w16 w17 w18 w19 M20 h H locs ls hw hl => ?_) n22 a0 a1 a2 a4 x3 x4 x5 _ h _ _ _ hw (lv_sub hl [3, 4, 5, 6, 2, 1, 0] rfl)
  refine lv_aload_n hx hb dX5_takeTimes_104 rfl (lv_at hl 0 rfl) ?_
  refine lv_iload hx hb dX5_takeTimes_105 (lv_at hl 1 rfl) ?_
  refine lv_iload hx hb dX5_takeTimes_107 (lv_at hl 2 rfl) ?_
  refine lv_iadd hx hb dX5_takeTimes_109 ?_
  obtain ⟨ho, h⟩ := h
  refine zr_Vl (As := [.int (w17 + w18)]) (rest := []) S hK hw (kX5_limbAt l lo g M20 w16 (w17 + w18) _ h) (cwV 1 hts (zg_V zu_26 zu_27 zu_28 zu_12 zu_29) rfl rfl rfl (by decide +kernel) ⟨Nat.le_of_ble_eq_true rfl, Nat.le_of_ble_eq_true rfl⟩) (ci := 8) rfl ho rfl hl.1 rfl (Nat.le_of_ble_eq_true rfl) dX5_takeTimes_110 ⟨Nat.le_of_ble_eq_true rfl, Nat.le_of_ble_eq_true rfl⟩ (fun r22 M21 H locs hw h => ?_)
  refine lv_lload hx hb dX5_takeTimes_113 (lv_at hl 3 rfl) ?_
  refine W.lcmp hx hb dX5_takeTimes_115 ?_
  refine lv_if_lt (tgt := 123) hx hb dX5_takeTimes_116 (by decide) (fun hc => ?_) (fun hc => ?_)
  · have h := h.1 (zc_lt.mp hc)
    refine lv_iconst (v := (0 : Int32)) hx hb dX5_takeTimes_123 (by decide) ?_
    exact zr_rz S hr hlocks hw h dX5_takeTimes_124
  · have h := h.2 (fun q => hc (zc_lt.mpr q))
    refine lv_iconst (v := (1 : Int32)) hx hb dX5_takeTimes_119 (by decide) ?_
    refine lv_goto (tgt := 124) hx hb dX5_takeTimes_120 (by decide) ?_
    exact zr_rz S hr hlocks hw h dX5_takeTimes_124
set_option maxHeartbeats 4000000 in
set_option maxRecDepth 100000 in
theorem sX5_putBack_5 {p : Program} {l : Launch} {e : Env} {s : State} {m : MethodId} {args : Array Value} {below : List Frame} {meth : Method} {c : Code} {lo : Nat} {g : zg} {post : zm_M → Prop}  (S : CallFix p m c cX5_putBack 8 s args zU RX5) (hr : meth.sig.returnType = none) (hlocks : meth.locks = false) (hK : zk_K zNF zNM g s)  : ∀ (n : Nat) (v0 : Nat) (v1 : Nat) (v2 : Int32) (v3 : Int64) (v5 : Int32) (M : zm_M), pX5_putBack_5 g.2 post  n v0 v1 v2 v3 v5 M → ∀ (H : Heap) (locs : List Loc) (ls : Array Slot), zW lo g s H locs M → lv_has ls 8 [(0, .ref v0), (1, .ref v1), (2, .int v2), (3, .long v3), (5, .int v5)] → W p l e ({ frames := 2, cells := 0, slots := 0, locals := 63 } : Room) s m args below meth c H locs 0 0 (MQ below (va_Qv post (zc_B lo g) (zA lo)) args s 0 0 (zA lo)) (F0 m 5 ls []) := by
  obtain ⟨hx, hb, hml, hown, hts⟩ := id S
  intro n
  induction n with
  | zero =>
    intro v0 v1 v2 v3 v5 M h
    exact False.elim h
  | succ n5 ih =>
    intro v0 v1 v2 v3 v5 M h H locs ls hw hl
    rw [pX5_putBack_5] at h
    refine lv_iload hx hb dX5_putBack_5 (lv_at hl 4 rfl) ?_
    refine lv_aload_n hx hb dX5_putBack_7 rfl (lv_at hl 1 rfl) ?_
    refine zr_gi (C := RX5) (T := TX5) (N := 2) (ci := 8) (k := 1) S hK hw zi_X5 rfl (by decide) zu_0 dX5_putBack_8 h (fun used_3 h => ?_)
    refine lv_icmp_ge (tgt := 55) hx hb dX5_putBack_11 (by decide) (fun hc => ?_) (fun hc => ?_)
    · have h := h.1 hc
      exact zr_rv S hr hlocks hw h dX5_putBack_55
    · have h := h.2 hc
      refine lv_aload_n hx hb dX5_putBack_14 rfl (lv_at hl 0 rfl) ?_
      refine lv_iload_n hx hb dX5_putBack_15 rfl (lv_at hl 2 rfl) ?_
      refine lv_iload hx hb dX5_putBack_16 (lv_at hl 4 rfl) ?_
      refine lv_iadd hx hb dX5_putBack_18 ?_
      obtain ⟨ho, h⟩ := h
      refine zr_Vl (As := [.int (v2 + v5)]) (rest := []) S hK hw (kX5_limbAt l lo g M v0 (v2 + v5) _ h) (cwV 1 hts (zg_V zu_26 zu_27 zu_28 zu_12 zu_29) rfl rfl rfl (by decide +kernel) ⟨Nat.le_of_ble_eq_true rfl, Nat.le_of_ble_eq_true rfl⟩) (ci := 8) rfl ho rfl hl.1 rfl (Nat.le_of_ble_eq_true rfl) dX5_putBack_19 ⟨Nat.le_of_ble_eq_true rfl, Nat.le_of_ble_eq_true rfl⟩ (fun r5 M4 H locs hw h => ?_)
      refine lv_aload_n hx hb dX5_putBack_22 rfl (lv_at hl 1 rfl) ?_
      refine lv_iload hx hb dX5_putBack_23 (lv_at hl 4 rfl) ?_
      obtain ⟨ho, h⟩ := h
      refine zr_Vl (As := [.int v5]) (rest := [.long r5]) S hK hw (kX5_limbAt l lo g M4 v1 v5 _ h) (cwV 1 hts (zg_V zu_26 zu_27 zu_28 zu_12 zu_29) rfl rfl rfl (by decide +kernel) ⟨Nat.le_of_ble_eq_true rfl, Nat.le_of_ble_eq_true rfl⟩) (ci := 8) rfl ho rfl hl.1 rfl (Nat.le_of_ble_eq_true rfl) dX5_putBack_25 ⟨Nat.le_of_ble_eq_true rfl, Nat.le_of_ble_eq_true rfl⟩ (fun r7 M6 H locs hw h => ?_)
      refine lv_ladd hx hb dX5_putBack_28 ?_
      refine lv_lload_n hx hb dX5_putBack_29 rfl (lv_at hl 3 rfl) ?_
      refine lv_ladd hx hb dX5_putBack_30 ?_
      refine lv_topl (fun x8 ex8 => ?_)
      have h := h x8 ex8
      refine lv_lstore (lv' := [(6, .long x8), (0, .ref v0), (1, .ref v1), (2, .int v2), (3, .long v3), (5, .int v5)]) hx hb dX5_putBack_31 hl (by decide) rfl (fun ls hl => ?_)
      refine lv_aload_n hx hb dX5_putBack_33 rfl (lv_at hl 1 rfl) ?_
      refine lv_iload_n hx hb dX5_putBack_34 rfl (lv_at hl 3 rfl) ?_
      refine lv_iload hx hb dX5_putBack_35 (lv_at hl 5 rfl) ?_
      refine lv_iadd hx hb dX5_putBack_37 ?_
      refine lv_lload hx hb dX5_putBack_38 (lv_at hl 0 rfl) ?_
      obtain ⟨ho, h⟩ := h
      refine zr_Vv (As := [.int (v2 + v5), .long x8]) (rest := []) S hK hw (kX5_put l lo g M6 v0 (v2 + v5) x8 _ h) (cwV 2 hts (zg_V zu_9 zu_10 zu_11 zu_12 zu_13) rfl rfl rfl (by decide +kernel) ⟨Nat.le_of_ble_eq_true rfl, Nat.le_of_ble_eq_true rfl⟩) (ci := 8) rfl ho rfl hl.1 rfl (Nat.le_of_ble_eq_true rfl) dX5_putBack_40 ⟨Nat.le_of_ble_eq_true rfl, Nat.le_of_ble_eq_true rfl⟩ (fun M9 H locs hw h => ?_)
      refine lv_lload hx hb dX5_putBack_43 (lv_at hl 0 rfl) ?_
      refine lv_bipush (v := (32 : Int32)) hx hb dX5_putBack_45 (by decide) ?_
      refine lv_lushr hx hb dX5_putBack_47 rfl ?_
      refine lv_topl (fun x10 ex10 => ?_)
      have h := h x10 ex10
      refine lv_lstore_n (lv' := [(3, .long x10), (6, .long x8), (0, .ref v0), (1, .ref v1), (2, .int v2), (5, .int v5)]) hx hb dX5_putBack_48 rfl hl (by decide) rfl (fun ls hl => ?_)
      obtain ⟨x11, ex11⟩ : ∃ z : Int32, z = v5 + (1 : Int32) := ⟨_, rfl⟩
      have h := h x11 ex11
      refine lv_iinc (v := x11) (lv' := [(5, .int x11), (3, .long x10), (6, .long x8), (0, .ref v0), (1, .ref v1), (2, .int v2)]) hx hb dX5_putBack_49 hl (k := 5) rfl (by rw [ex11]; rfl) (by decide) rfl (fun ls hl => ?_)
      refine lv_goto (tgt := 5) hx hb dX5_putBack_52 (by decide) ?_
      exact ih v0 v1 v2 x10 x11 _ h _ _ _ hw (lv_sub hl [3, 4, 5, 1, 0] rfl)
set_option maxHeartbeats 4000000 in
set_option maxRecDepth 100000 in
theorem kX5_putBack (l : Launch) (lo : Nat) (g : zg) (M : zm_M) (a0 : Nat) (a1 : Nat) (a2 : Int32) (post : zm_M → Prop) (h : pX5_putBack g.2 a0 a1 a2 post M) : Met l yX5_putBack (Cond.code yX5_putBack cX5_putBack 8 none :: zU) (({ frames := 2, cells := 0, slots := 0, locals := 63 } : Room)) (zc_P zNF zNM lo g M [.ref a0, .ref a1, .int a2]) (va_Qv post (zc_B lo g) (zA lo)) 0 0 (zA lo) := by
  refine Met.ofW (cc := cX5_putBack) (maxL := 8) (ret := none) (by decide) rfl ?_
  intro p e s m args below meth c s₁ B hml hv
  obtain ⟨rfl, hR, hK⟩ := hv
  have hts := atoms_spec (ws := Cond.code yX5_putBack cX5_putBack 8 none :: zU) B.pre
  have hts : ∀ w ∈ zU, w.before _ s = true := fun w hw => hts w (List.mem_cons_of_mem _ hw)
  have hown : s.vm.findClass RX5 = some m.cls := findClass_of_methodNamed B.named
  have hx := B.exec
  have hb := B.bytes
  have hr := B.returns
  have hlocks := B.notSynchronized
  have S : CallFix p m c cX5_putBack 8 s ([.ref a0, .ref a1, .int a2] : List Value).toArray zU RX5 := ⟨hx, hb, hml, hown, hts⟩
  have hw : zW lo g s s.heap [] M := ⟨hR, va_S.rf⟩
  have hl := lv_entry ([.ref a0, .ref a1, .int a2]) (n := 8) (Nat.le_of_ble_eq_true rfl)
  rw [lg_entry_eq]
  generalize (lg_sl ([.ref a0, .ref a1, .int a2]) ++ List.replicate (8 - (lg_sl ([.ref a0, .ref a1, .int a2])).length) Slot.unset).toArray = ls at hl ⊢
  have hl : lv_has ls 8 [(0, .ref a0), (1, .ref a1), (2, .int a2)] := hl
  unfold pX5_putBack at h
  refine lv_lconst (v := (0 : Int64)) hx hb dX5_putBack_0 (by decide) ?_
  refine lv_topl (fun x1 ex1 => ?_)
  have h := h x1 ex1
  refine lv_lstore_n (lv' := [(3, .long x1), (0, .ref a0), (1, .ref a1), (2, .int a2)]) hx hb dX5_putBack_1 rfl hl (by decide) rfl (fun ls hl => ?_)
  refine lv_iconst (v := (0 : Int32)) hx hb dX5_putBack_2 (by decide) ?_
  refine lv_topi (fun x2 ex2 => ?_)
  have h := h x2 ex2
  refine lv_istore (lv' := [(5, .int x2), (3, .long x1), (0, .ref a0), (1, .ref a1), (2, .int a2)]) hx hb dX5_putBack_3 hl (by decide) rfl (fun ls hl => ?_)
  obtain ⟨n5, h⟩ := h
  refine sX5_putBack_5 S hr hlocks hK  n5 a0 a1 a2 x1 x2 _ h _ _ _ hw (lv_sub hl [2, 3, 4, 1, 0] rfl)
set_option maxHeartbeats 4000000 in
set_option maxRecDepth 100000 in
theorem sX5_divide_133 {p : Program} {l : Launch} {e : Env} {s : State} {m : MethodId} {args : Array Value} {below : List Frame} {meth : Method} {c : Code} {lo : Nat} {g : zg} {post : zm_M → Prop} {k58 : Nat → Nat → Nat → Int32 → Int32 → Int64 → Int32 → Int32 → zm_M → Prop} (S : CallFix p m c cX5_divide 13 s args zU RX5) (hr : meth.sig.returnType = none) (hlocks : meth.locks = false) (hK : zk_K zNF zNM g s) (hk58 : ∀ (v0 : Nat) (v1 : Nat) (v2 : Nat) (v3 : Int32) (v4 : Int32) (v5 : Int64) (v7 : Int32) (v8 : Int32) (M : zm_M), k58 v0 v1 v2 v3 v4 v5 v7 v8 M → ∀ (H : Heap) (locs : List Loc) (ls : Array Slot), zW lo g s H locs M → lv_has ls 13 [(0, .ref v0), (1, .ref v1), (2, .ref v2), (3, .int v3), (4, .int v4), (5, .long v5), (7, .int v7), (8, .int v8)] → W p l e ({ frames := 3, cells := 0, slots := 0, locals := 97 } : Room) s m args below meth c H locs 0 0 (MQ below (va_Qv post (zc_B lo g) (zA lo)) args s 0 0 (zA lo)) (F0 m 58 ls [])) : ∀ (v0 : Nat) (v1 : Nat) (v2 : Nat) (v3 : Int32) (v4 : Int32) (v5 : Int64) (v7 : Int32) (v8 : Int32) (v11 : Int64) (M : zm_M), pX5_divide_133 g.2 post k58 v0 v1 v2 v3 v4 v5 v7 v8 v11 M → ∀ (H : Heap) (locs : List Loc) (ls : Array Slot), zW lo g s H locs M → lv_has ls 13 [(0, .ref v0), (1, .ref v1), (2, .ref v2), (3, .int v3), (4, .int v4), (5, .long v5), (7, .int v7), (8, .int v8), (11, .long v11)] → W p l e ({ frames := 3, cells := 0, slots := 0, locals := 97 } : Room) s m args below meth c H locs 0 0 (MQ below (va_Qv post (zc_B lo g) (zA lo)) args s 0 0 (zA lo)) (F0 m 133 ls []) := by
  obtain ⟨hx, hb, hml, hown, hts⟩ := id S
  intro v0 v1 v2 v3 v4 v5 v7 v8 v11 M h H locs ls hw hl
  unfold pX5_divide_133 at h
  refine lv_aload_n hx hb dX5_divide_133 rfl (lv_at hl 0 rfl) ?_
  refine lv_iload hx hb dX5_divide_134 (lv_at hl 7 rfl) ?_
  refine lv_iload_n hx hb dX5_divide_136 rfl (lv_at hl 3 rfl) ?_
  refine lv_iadd hx hb dX5_divide_137 ?_
  refine lv_lconst (v := (0 : Int64)) hx hb dX5_divide_138 (by decide) ?_
  obtain ⟨ho, h⟩ := h
  refine zr_Vv (As := [.int (v8 + v3), .long (0 : Int64)]) (rest := []) S hK hw (kX5_put l lo g M v0 (v8 + v3) (0 : Int64) _ h) (cwV 2 hts (zg_V zu_9 zu_10 zu_11 zu_12 zu_13) rfl rfl rfl (by decide +kernel) ⟨Nat.le_of_ble_eq_true rfl, Nat.le_of_ble_eq_true rfl⟩) (ci := 8) rfl ho rfl hl.1 rfl (Nat.le_of_ble_eq_true rfl) dX5_divide_139 ⟨Nat.le_of_ble_eq_true rfl, Nat.le_of_ble_eq_true rfl⟩ (fun M22 H locs hw h => ?_)
  refine lv_aload_n hx hb dX5_divide_142 rfl (lv_at hl 2 rfl) ?_
  refine lv_iload hx hb dX5_divide_143 (lv_at hl 7 rfl) ?_
  refine lv_lload hx hb dX5_divide_145 (lv_at hl 8 rfl) ?_
  obtain ⟨ho, h⟩ := h
  refine zr_Vv (As := [.int v8, .long v11]) (rest := []) S hK hw (kX5_put l lo g M22 v2 v8 v11 _ h) (cwV 2 hts (zg_V zu_9 zu_10 zu_11 zu_12 zu_13) rfl rfl rfl (by decide +kernel) ⟨Nat.le_of_ble_eq_true rfl, Nat.le_of_ble_eq_true rfl⟩) (ci := 8) rfl ho rfl hl.1 rfl (Nat.le_of_ble_eq_true rfl) dX5_divide_147 ⟨Nat.le_of_ble_eq_true rfl, Nat.le_of_ble_eq_true rfl⟩ (fun M23 H locs hw h => ?_)
  obtain ⟨x24, ex24⟩ : ∃ z : Int32, z = v8 + (-1 : Int32) := ⟨_, rfl⟩
  have h := h x24 ex24
  refine lv_iinc (v := x24) (lv' := [(8, .int x24), (0, .ref v0), (1, .ref v1), (2, .ref v2), (3, .int v3), (4, .int v4), (5, .long v5), (7, .int v7), (11, .long v11)]) hx hb dX5_divide_150 hl (k := 7) rfl (by rw [ex24]; rfl) (by decide) rfl (fun ls hl => ?_)
  refine lv_goto (tgt := 58) hx hb dX5_divide_153 (by decide) ?_
  exact hk58 v0 v1 v2 v3 v4 v5 v7 x24 _ h _ _ _ hw (lv_sub hl [1, 2, 3, 4, 5, 6, 7, 0] rfl)
set_option maxHeartbeats 4000000 in
set_option maxRecDepth 100000 in
theorem sX5_divide_58 {p : Program} {l : Launch} {e : Env} {s : State} {m : MethodId} {args : Array Value} {below : List Frame} {meth : Method} {c : Code} {lo : Nat} {g : zg} {post : zm_M → Prop} {k156 : Nat → Nat → Int32 → zm_M → Prop} (S : CallFix p m c cX5_divide 13 s args zU RX5) (hr : meth.sig.returnType = none) (hlocks : meth.locks = false) (hK : zk_K zNF zNM g s) (hk156 : ∀ (v0 : Nat) (v2 : Nat) (v7 : Int32) (M : zm_M), k156 v0 v2 v7 M → ∀ (H : Heap) (locs : List Loc) (ls : Array Slot), zW lo g s H locs M → lv_has ls 13 [(0, .ref v0), (2, .ref v2), (7, .int v7)] → W p l e ({ frames := 3, cells := 0, slots := 0, locals := 97 } : Room) s m args below meth c H locs 0 0 (MQ below (va_Qv post (zc_B lo g) (zA lo)) args s 0 0 (zA lo)) (F0 m 156 ls [])) : ∀ (n : Nat) (v0 : Nat) (v1 : Nat) (v2 : Nat) (v3 : Int32) (v4 : Int32) (v5 : Int64) (v7 : Int32) (v8 : Int32) (M : zm_M), pX5_divide_58 g.2 post k156 n v0 v1 v2 v3 v4 v5 v7 v8 M → ∀ (H : Heap) (locs : List Loc) (ls : Array Slot), zW lo g s H locs M → lv_has ls 13 [(0, .ref v0), (1, .ref v1), (2, .ref v2), (3, .int v3), (4, .int v4), (5, .long v5), (7, .int v7), (8, .int v8)] → W p l e ({ frames := 3, cells := 0, slots := 0, locals := 97 } : Room) s m args below meth c H locs 0 0 (MQ below (va_Qv post (zc_B lo g) (zA lo)) args s 0 0 (zA lo)) (F0 m 58 ls []) := by
  obtain ⟨hx, hb, hml, hown, hts⟩ := id S
  intro n
  induction n with
  | zero =>
    intro v0 v1 v2 v3 v4 v5 v7 v8 M h
    exact False.elim h
  | succ n58 ih =>
    intro v0 v1 v2 v3 v4 v5 v7 v8 M h H locs ls hw hl
    rw [pX5_divide_58] at h
    refine lv_iload hx hb dX5_divide_58 (lv_at hl 7 rfl) ?_
    refine lv_if_lt (tgt := 156) hx hb dX5_divide_60 (by decide) (fun hc => ?_) (fun hc => ?_)
    · have h := h.1 hc
      exact hk156 v0 v2 v7 _ h _ _ _ hw (lv_sub hl [0, 2, 6] rfl)
    · have h := h.2 hc
      refine lv_aload_n hx hb dX5_divide_63 rfl (lv_at hl 0 rfl) ?_
      refine lv_iload hx hb dX5_divide_64 (lv_at hl 7 rfl) ?_
      refine lv_iload_n hx hb dX5_divide_66 rfl (lv_at hl 3 rfl) ?_
      refine lv_iadd hx hb dX5_divide_67 ?_
      refine lv_iconst (v := (2 : Int32)) hx hb dX5_divide_68 (by decide) ?_
      refine lv_isub hx hb dX5_divide_69 ?_
      refine lv_iload hx hb dX5_divide_70 (lv_at hl 4 rfl) ?_
      obtain ⟨ho, h⟩ := h
      refine zr_Vl (As := [.int ((v8 + v3) - (2 : Int32)), .int v4]) (rest := []) S hK hw (kX5_pairAt l lo g M v0 ((v8 + v3) - (2 : Int32)) v4 _ h) (cwV 2 hts (zg_V zu_51 zu_52 zu_53 zu_12 zu_54) rfl rfl rfl (by decide +kernel) ⟨Nat.le_of_ble_eq_true rfl, Nat.le_of_ble_eq_true rfl⟩) (ci := 8) rfl ho rfl hl.1 rfl (Nat.le_of_ble_eq_true rfl) dX5_divide_72 ⟨Nat.le_of_ble_eq_true rfl, Nat.le_of_ble_eq_true rfl⟩ (fun r14 M13 H locs hw h => ?_)
      refine lv_bipush (v := (32 : Int32)) hx hb dX5_divide_75 (by decide) ?_
      refine lv_lushr hx hb dX5_divide_77 rfl ?_
      refine lv_topl (fun x15 ex15 => ?_)
      have h := h x15 ex15
      refine lv_lstore (lv' := [(9, .long x15), (0, .ref v0), (1, .ref v1), (2, .ref v2), (3, .int v3), (4, .int v4), (5, .long v5), (7, .int v7), (8, .int v8)]) hx hb dX5_divide_78 hl (by decide) rfl (fun ls hl => ?_)
      refine lv_aload_n hx hb dX5_divide_80 rfl (lv_at hl 1 rfl) ?_
      refine lv_iload hx hb dX5_divide_81 (lv_at hl 8 rfl) ?_
      refine lv_iload_n hx hb dX5_divide_83 rfl (lv_at hl 4 rfl) ?_
      refine lv_iadd hx hb dX5_divide_84 ?_
      refine lv_iload hx hb dX5_divide_85 (lv_at hl 5 rfl) ?_
      obtain ⟨ho, h⟩ := h
      refine zr_Vl (As := [.int (v8 + v3), .int v4]) (rest := []) S hK hw (kX5_pairAt l lo g M13 v0 (v8 + v3) v4 _ h) (cwV 2 hts (zg_V zu_51 zu_52 zu_53 zu_12 zu_54) rfl rfl rfl (by decide +kernel) ⟨Nat.le_of_ble_eq_true rfl, Nat.le_of_ble_eq_true rfl⟩) (ci := 8) rfl ho rfl hl.1 rfl (Nat.le_of_ble_eq_true rfl) dX5_divide_87 ⟨Nat.le_of_ble_eq_true rfl, Nat.le_of_ble_eq_true rfl⟩ (fun r17 M16 H locs hw h => ?_)
      refine lv_lload hx hb dX5_divide_90 (lv_at hl 0 rfl) ?_
      refine lv_lload hx hb dX5_divide_92 (lv_at hl 6 rfl) ?_
      refine lv_bipush (v := (32 : Int32)) hx hb dX5_divide_94 (by decide) ?_
      refine lv_lushr hx hb dX5_divide_96 rfl ?_
      refine lv_lload hx hb dX5_divide_97 (lv_at hl 6 rfl) ?_
      refine lv_ldc2 (v := (4294967295 : Int64)) hx hb hown (hts _ zu_25) dX5_divide_99 ?_
      refine lv_land hx hb dX5_divide_102 ?_
      refine zr_Sl (As := [.long r17, .long x15, .long ((v5.toUInt64 >>> ((32 : Int32).toInt64.toUInt64 &&& Int64.toUInt64 63)).toInt64), .long (v5 &&& (4294967295 : Int64))]) (rest := []) S hK hw (kX5_guess l lo g M16 r17 x15 ((v5.toUInt64 >>> ((32 : Int32).toInt64.toUInt64 &&& Int64.toUInt64 63)).toInt64) (v5 &&& (4294967295 : Int64)) _ h) (va_cwS 4 hts (zg_S zu_55 zu_56 zu_12 zu_57) rfl rfl rfl (by decide +kernel) ⟨Nat.le_of_ble_eq_true rfl, Nat.le_of_ble_eq_true rfl⟩) rfl hl.1 rfl (Nat.le_of_ble_eq_true rfl) dX5_divide_103 ⟨Nat.le_of_ble_eq_true rfl, Nat.le_of_ble_eq_true rfl⟩ (fun r19 M18 H locs hw h => ?_)
      refine lv_lstore (lv' := [(11, .long r19), (9, .long x15), (0, .ref v0), (1, .ref v1), (2, .ref v2), (3, .int v3), (4, .int v4), (5, .long v5), (7, .int v7), (8, .int v8)]) hx hb dX5_divide_106 hl (by decide) rfl (fun ls hl => ?_)
      refine lv_aload_n hx hb dX5_divide_108 rfl (lv_at hl 2 rfl) ?_
      refine lv_aload_n hx hb dX5_divide_109 rfl (lv_at hl 3 rfl) ?_
      refine lv_lload hx hb dX5_divide_110 (lv_at hl 0 rfl) ?_
      refine lv_iload hx hb dX5_divide_112 (lv_at hl 9 rfl) ?_
      obtain ⟨ho, h⟩ := h
      refine zr_Vi (As := [.ref v1, .long r19, .int v8]) (rest := []) S hK hw (kX5_takeTimes l lo g M18 v0 v1 r19 v8 _ h) (cwV 3 hts (zg_V zu_58 zu_59 zu_60 zu_12 zu_61) rfl rfl rfl (by decide +kernel) ⟨Nat.le_of_ble_eq_true rfl, Nat.le_of_ble_eq_true rfl⟩) (ci := 8) rfl ho rfl hl.1 rfl (Nat.le_of_ble_eq_true rfl) dX5_divide_114 ⟨Nat.le_of_ble_eq_true rfl, Nat.le_of_ble_eq_true rfl⟩ (fun r21 M20 H locs hw h => ?_)
      refine lv_if_ne (tgt := 133) hx hb dX5_divide_117 (by decide) (fun hc => ?_) (fun hc => ?_)
      · have h := h.1 hc
        exact sX5_divide_133 S hr hlocks hK ih v0 v1 v2 v3 v4 v5 v7 v8 r19 _ h _ _ _ hw (lv_sub hl [2, 3, 4, 5, 6, 7, 8, 9, 0] rfl)
      · have h := h.2 hc
        refine lv_aload_n hx hb dX5_divide_120 rfl (lv_at hl 2 rfl) ?_
        refine lv_aload_n hx hb dX5_divide_121 rfl (lv_at hl 3 rfl) ?_
        refine lv_iload hx hb dX5_divide_122 (lv_at hl 9 rfl) ?_
        obtain ⟨ho, h⟩ := h
        refine zr_Vv (As := [.ref v1, .int v8]) (rest := []) S hK hw (kX5_putBack l lo g M20 v0 v1 v8 _ h) (cwV 2 hts (zg_V zu_62 zu_63 zu_64 zu_12 zu_65) rfl rfl rfl (by decide +kernel) ⟨Nat.le_of_ble_eq_true rfl, Nat.le_of_ble_eq_true rfl⟩) (ci := 8) rfl ho rfl hl.1 rfl (Nat.le_of_ble_eq_true rfl) dX5_divide_124 ⟨Nat.le_of_ble_eq_true rfl, Nat.le_of_ble_eq_true rfl⟩ (fun M25 H locs hw h => ?_)
        refine lv_lload hx hb dX5_divide_127 (lv_at hl 0 rfl) ?_
        refine lv_lconst (v := (1 : Int64)) hx hb dX5_divide_129 (by decide) ?_
        refine lv_lsub hx hb dX5_divide_130 ?_
        refine lv_topl (fun x26 ex26 => ?_)
        have h := h x26 ex26
        refine lv_lstore (lv' := [(11, .long x26), (9, .long x15), (0, .ref v0), (1, .ref v1), (2, .ref v2), (3, .int v3), (4, .int v4), (5, .long v5), (7, .int v7), (8, .int v8)]) hx hb dX5_divide_131 hl (by decide) rfl (fun ls hl => ?_)
        exact sX5_divide_133 S hr hlocks hK ih v0 v1 v2 v3 v4 v5 v7 v8 x26 _ h _ _ _ hw (lv_sub hl [2, 3, 4, 5, 6, 7, 8, 9, 0] rfl)
set_option maxHeartbeats 4000000 in
set_option maxRecDepth 100000 in
theorem kX5_divide (l : Launch) (lo : Nat) (g : zg) (M : zm_M) (a0 : Nat) (a1 : Nat) (a2 : Nat) (post : zm_M → Prop) (h : pX5_divide g.2 a0 a1 a2 post M) : Met l yX5_divide (Cond.code yX5_divide cX5_divide 13 none :: zU) (({ frames := 3, cells := 0, slots := 0, locals := 97 } : Room)) (zc_P zNF zNM lo g M [.ref a0, .ref a1, .ref a2]) (va_Qv post (zc_B lo g) (zA lo)) 0 0 (zA lo) := by
  refine Met.ofW (cc := cX5_divide) (maxL := 13) (ret := none) (by decide) rfl ?_
  intro p e s m args below meth c s₁ B hml hv
  obtain ⟨rfl, hR, hK⟩ := hv
  have hts := atoms_spec (ws := Cond.code yX5_divide cX5_divide 13 none :: zU) B.pre
  have hts : ∀ w ∈ zU, w.before _ s = true := fun w hw => hts w (List.mem_cons_of_mem _ hw)
  have hown : s.vm.findClass RX5 = some m.cls := findClass_of_methodNamed B.named
  have hx := B.exec
  have hb := B.bytes
  have hr := B.returns
  have hlocks := B.notSynchronized
  have S : CallFix p m c cX5_divide 13 s ([.ref a0, .ref a1, .ref a2] : List Value).toArray zU RX5 := ⟨hx, hb, hml, hown, hts⟩
  have hw : zW lo g s s.heap [] M := ⟨hR, va_S.rf⟩
  have hl := lv_entry ([.ref a0, .ref a1, .ref a2]) (n := 13) (Nat.le_of_ble_eq_true rfl)
  rw [lg_entry_eq]
  generalize (lg_sl ([.ref a0, .ref a1, .ref a2]) ++ List.replicate (13 - (lg_sl ([.ref a0, .ref a1, .ref a2])).length) Slot.unset).toArray = ls at hl ⊢
  have hl : lv_has ls 13 [(0, .ref a0), (1, .ref a1), (2, .ref a2)] := hl
  unfold pX5_divide at h
  refine lv_aload_n hx hb dX5_divide_0 rfl (lv_at hl 2 rfl) ?_
  obtain ⟨ho, h⟩ := h
  refine zr_Vv (As := []) (rest := []) S hK hw (kX5_clear l lo g M a2  _ h) (cwV 0 hts (zg_V zu_39 zu_40 zu_41 zu_12 zu_42) rfl rfl rfl (by decide +kernel) ⟨Nat.le_of_ble_eq_true rfl, Nat.le_of_ble_eq_true rfl⟩) (ci := 8) rfl ho rfl hl.1 rfl (Nat.le_of_ble_eq_true rfl) dX5_divide_1 ⟨Nat.le_of_ble_eq_true rfl, Nat.le_of_ble_eq_true rfl⟩ (fun M1 H locs hw h => ?_)
  refine lv_aload_n hx hb dX5_divide_4 rfl (lv_at hl 1 rfl) ?_
  refine zr_gi (C := RX5) (T := TX5) (N := 2) (ci := 8) (k := 1) S hK hw zi_X5 rfl (by decide) zu_0 dX5_divide_5 h (fun used_2 h => ?_)
  refine lv_istore_n (lv' := [(3, .int used_2), (0, .ref a0), (1, .ref a1), (2, .ref a2)]) hx hb dX5_divide_8 rfl hl (by decide) rfl (fun ls hl => ?_)
  refine lv_iload_n hx hb dX5_divide_9 rfl (lv_at hl 0 rfl) ?_
  refine lv_if_eq (tgt := 21) hx hb dX5_divide_10 (by decide) (fun hc => ?_) (fun hc => ?_)
  · have h := h.1 hc
    exact zr_rv S hr hlocks hw h dX5_divide_21
  · have h := h.2 hc
    refine lv_aload_n hx hb dX5_divide_13 rfl (lv_at hl 1 rfl) ?_
    refine lv_aload_n hx hb dX5_divide_14 rfl (lv_at hl 2 rfl) ?_
    obtain ⟨ho, h⟩ := h
    refine zr_Vi (As := [.ref a1]) (rest := []) S hK hw (kX5_order l lo g M1 a0 a1 _ h) (cwV 1 hts (zg_V zu_43 zu_44 zu_45 zu_12 zu_46) rfl rfl rfl (by decide +kernel) ⟨Nat.le_of_ble_eq_true rfl, Nat.le_of_ble_eq_true rfl⟩) (ci := 8) rfl ho rfl hl.1 rfl (Nat.le_of_ble_eq_true rfl) dX5_divide_15 ⟨Nat.le_of_ble_eq_true rfl, Nat.le_of_ble_eq_true rfl⟩ (fun r4 M3 H locs hw h => ?_)
    refine lv_if_ge (tgt := 22) hx hb dX5_divide_18 (by decide) (fun hc => ?_) (fun hc => ?_)
    · have h := h.1 hc
      refine lv_aload_n hx hb dX5_divide_22 rfl (lv_at hl 2 rfl) ?_
      refine lv_iload_n hx hb dX5_divide_23 rfl (lv_at hl 0 rfl) ?_
      refine lv_iconst (v := (1 : Int32)) hx hb dX5_divide_24 (by decide) ?_
      refine lv_isub hx hb dX5_divide_25 ?_
      obtain ⟨ho, h⟩ := h
      refine zr_Vl (As := [.int (used_2 - (1 : Int32))]) (rest := []) S hK hw (kX5_limbAt l lo g M3 a1 (used_2 - (1 : Int32)) _ h) (cwV 1 hts (zg_V zu_26 zu_27 zu_28 zu_12 zu_29) rfl rfl rfl (by decide +kernel) ⟨Nat.le_of_ble_eq_true rfl, Nat.le_of_ble_eq_true rfl⟩) (ci := 8) rfl ho rfl hl.1 rfl (Nat.le_of_ble_eq_true rfl) dX5_divide_26 ⟨Nat.le_of_ble_eq_true rfl, Nat.le_of_ble_eq_true rfl⟩ (fun r6 M5 H locs hw h => ?_)
      refine lv_l2i hx hb dX5_divide_29 rfl ?_
      refine zr_Si (As := [.int (r6.toInt32)]) (rest := []) S hK hw (kJ6_numberOfLeadingZeros_0f7a4 l lo g M5 (r6.toInt32) _ h) (va_cwS 1 hts (zg_S zu_47 zu_48 zu_49 zu_50) rfl rfl rfl (by decide +kernel) ⟨Nat.le_of_ble_eq_true rfl, Nat.le_of_ble_eq_true rfl⟩) rfl hl.1 rfl (Nat.le_of_ble_eq_true rfl) dX5_divide_30 ⟨Nat.le_of_ble_eq_true rfl, Nat.le_of_ble_eq_true rfl⟩ (fun r8 M7 H locs hw h => ?_)
      refine lv_istore (lv' := [(4, .int r8), (3, .int used_2), (0, .ref a0), (1, .ref a1), (2, .ref a2)]) hx hb dX5_divide_33 hl (by decide) rfl (fun ls hl => ?_)
      refine lv_aload_n hx hb dX5_divide_35 rfl (lv_at hl 3 rfl) ?_
      refine lv_iload_n hx hb dX5_divide_36 rfl (lv_at hl 1 rfl) ?_
      refine lv_iconst (v := (1 : Int32)) hx hb dX5_divide_37 (by decide) ?_
      refine lv_isub hx hb dX5_divide_38 ?_
      refine lv_iload hx hb dX5_divide_39 (lv_at hl 0 rfl) ?_
      obtain ⟨ho, h⟩ := h
      refine zr_Vl (As := [.int (used_2 - (1 : Int32)), .int r8]) (rest := []) S hK hw (kX5_pairAt l lo g M7 a1 (used_2 - (1 : Int32)) r8 _ h) (cwV 2 hts (zg_V zu_51 zu_52 zu_53 zu_12 zu_54) rfl rfl rfl (by decide +kernel) ⟨Nat.le_of_ble_eq_true rfl, Nat.le_of_ble_eq_true rfl⟩) (ci := 8) rfl ho rfl hl.1 rfl (Nat.le_of_ble_eq_true rfl) dX5_divide_41 ⟨Nat.le_of_ble_eq_true rfl, Nat.le_of_ble_eq_true rfl⟩ (fun r10 M9 H locs hw h => ?_)
      refine lv_lstore (lv' := [(5, .long r10), (4, .int r8), (3, .int used_2), (0, .ref a0), (1, .ref a1), (2, .ref a2)]) hx hb dX5_divide_44 hl (by decide) rfl (fun ls hl => ?_)
      refine lv_aload_n hx hb dX5_divide_46 rfl (lv_at hl 3 rfl) ?_
      refine zr_gi (C := RX5) (T := TX5) (N := 2) (ci := 8) (k := 1) S hK hw zi_X5 rfl (by decide) zu_0 dX5_divide_47 h (fun used_11 h => ?_)
      refine lv_iload_n hx hb dX5_divide_50 rfl (lv_at hl 2 rfl) ?_
      refine lv_isub hx hb dX5_divide_51 ?_
      refine lv_topi (fun x12 ex12 => ?_)
      have h := h x12 ex12
      refine lv_istore (lv' := [(7, .int x12), (5, .long r10), (4, .int r8), (3, .int used_2), (0, .ref a0), (1, .ref a1), (2, .ref a2)]) hx hb dX5_divide_52 hl (by decide) rfl (fun ls hl => ?_)
      refine lv_iload hx hb dX5_divide_54 (lv_at hl 0 rfl) ?_
      refine lv_istore (lv' := [(8, .int x12), (7, .int x12), (5, .long r10), (4, .int r8), (3, .int used_2), (0, .ref a0), (1, .ref a1), (2, .ref a2)]) hx hb dX5_divide_56 hl (by decide) rfl (fun ls hl => ?_)
      obtain ⟨n58, h⟩ := h
      refine sX5_divide_58 S hr hlocks hK (fun w27 w28 w29 M30 h H locs ls hw hl => ?_) n58 a0 a1 a2 used_2 r8 r10 x12 x12 _ h _ _ _ hw (lv_sub hl [5, 6, 7, 4, 3, 2, 1, 0] rfl)
      refine lv_aload_n hx hb dX5_divide_156 rfl (lv_at hl 0 rfl) ?_
      refine lv_aload_n hx hb dX5_divide_157 rfl (lv_at hl 0 rfl) ?_
      refine zr_gi (C := RX5) (T := TX5) (N := 2) (ci := 8) (k := 1) S hK hw zi_X5 rfl (by decide) zu_0 dX5_divide_158 h (fun used_31 h => ?_)
      obtain ⟨ho, h⟩ := h
      refine zr_Vv (As := [.int used_31]) (rest := []) S hK hw (kX5_trim l lo g M30 w27 used_31 _ h) (cwV 1 hts (zg_V zu_14 zu_15 zu_16 zu_12 zu_17) rfl rfl rfl (by decide +kernel) ⟨Nat.le_of_ble_eq_true rfl, Nat.le_of_ble_eq_true rfl⟩) (ci := 8) rfl ho rfl hl.1 rfl (Nat.le_of_ble_eq_true rfl) dX5_divide_161 ⟨Nat.le_of_ble_eq_true rfl, Nat.le_of_ble_eq_true rfl⟩ (fun M32 H locs hw h => ?_)
      refine lv_aload_n hx hb dX5_divide_164 rfl (lv_at hl 1 rfl) ?_
      refine lv_iload hx hb dX5_divide_165 (lv_at hl 2 rfl) ?_
      refine lv_iconst (v := (1 : Int32)) hx hb dX5_divide_167 (by decide) ?_
      refine lv_iadd hx hb dX5_divide_168 ?_
      obtain ⟨ho, h⟩ := h
      refine zr_Vv (As := [.int (w29 + (1 : Int32))]) (rest := []) S hK hw (kX5_trim l lo g M32 w28 (w29 + (1 : Int32)) _ h) (cwV 1 hts (zg_V zu_14 zu_15 zu_16 zu_12 zu_17) rfl rfl rfl (by decide +kernel) ⟨Nat.le_of_ble_eq_true rfl, Nat.le_of_ble_eq_true rfl⟩) (ci := 8) rfl ho rfl hl.1 rfl (Nat.le_of_ble_eq_true rfl) dX5_divide_169 ⟨Nat.le_of_ble_eq_true rfl, Nat.le_of_ble_eq_true rfl⟩ (fun M33 H locs hw h => ?_)
      exact zr_rv S hr hlocks hw h dX5_divide_172
    · have h := h.2 hc
      exact zr_rv S hr hlocks hw h dX5_divide_21
set_option maxHeartbeats 4000000 in
set_option maxRecDepth 100000 in
theorem sX0_greatestDivisor_25 {p : Program} {l : Launch} {e : Env} {s : State} {m : MethodId} {args : Array Value} {below : List Frame} {meth : Method} {c : Code} {lo : Nat} {g : zg} {post : Option Nat → zm_M → Prop}  (S : CallFix p m c cX0_greatestDivisor 7 s args zU RX0) (hr : meth.sig.returnType = (some (.object "LeastTerms$Wide"))) (hlocks : meth.locks = false) (hK : zk_K zNF zNM g s)  : ∀ (n : Nat) (v0 : Nat) (v3 : Nat) (v4 : Nat) (v5 : Int32) (M : zm_M), pX0_greatestDivisor_25 g.2 post  n v0 v3 v4 v5 M → ∀ (H : Heap) (locs : List Loc) (ls : Array Slot), zW lo g s H locs M → lv_has ls 7 [(0, .ref v0), (3, .ref v3), (4, .ref v4), (5, .int v5)] → W p l e ({ frames := 4, cells := 0, slots := 0, locals := 129 } : Room) s m args below meth c H locs 0 0 (MQ below (va_Qq post (zc_B lo g) (zA lo)) args s 0 0 (zA lo)) (F0 m 25 ls []) := by
  obtain ⟨hx, hb, hml, hown, hts⟩ := id S
  intro n
  induction n with
  | zero =>
    intro v0 v3 v4 v5 M h
    exact False.elim h
  | succ n25 ih =>
    intro v0 v3 v4 v5 M h H locs ls hw hl
    rw [pX0_greatestDivisor_25] at h
    refine lv_iload hx hb dX0_greatestDivisor_25 (lv_at hl 3 rfl) ?_
    refine lv_sipush (v := (4000 : Int32)) hx hb dX0_greatestDivisor_27 (by decide) ?_
    refine lv_icmp_ge (tgt := 67) hx hb dX0_greatestDivisor_30 (by decide) (fun hc => ?_) (fun hc => ?_)
    · have h := h.1 hc
      refine lv_aload_n hx hb dX0_greatestDivisor_67 rfl (lv_at hl 1 rfl) ?_
      exact zr_rq (v := (some v3)) S hr hlocks hw h dX0_greatestDivisor_68
    · have h := h.2 hc
      refine lv_aload hx hb dX0_greatestDivisor_33 (lv_at hl 2 rfl) ?_
      obtain ⟨ho, h⟩ := h
      refine zr_Vi (As := []) (rest := []) S hK hw (kX5_isZero l lo g M v4  _ h) (cwV 0 hts (zg_V zu_72 zu_73 zu_74 zu_12 zu_75) rfl rfl rfl (by decide +kernel) ⟨Nat.le_of_ble_eq_true rfl, Nat.le_of_ble_eq_true rfl⟩) (ci := 8) rfl ho rfl hl.1 rfl (Nat.le_of_ble_eq_true rfl) dX0_greatestDivisor_35 ⟨Nat.le_of_ble_eq_true rfl, Nat.le_of_ble_eq_true rfl⟩ (fun r7 M6 H locs hw h => ?_)
      refine lv_if_ne (tgt := 67) hx hb dX0_greatestDivisor_38 (by decide) (fun hc => ?_) (fun hc => ?_)
      · have h := h.1 hc
        refine lv_aload_n hx hb dX0_greatestDivisor_67 rfl (lv_at hl 1 rfl) ?_
        exact zr_rq (v := (some v3)) S hr hlocks hw h dX0_greatestDivisor_68
      · have h := h.2 hc
        refine lv_aload_n hx hb dX0_greatestDivisor_41 rfl (lv_at hl 1 rfl) ?_
        refine lv_aload hx hb dX0_greatestDivisor_42 (lv_at hl 2 rfl) ?_
        refine lv_aload_n hx hb dX0_greatestDivisor_44 rfl (lv_at hl 0 rfl) ?_
        refine zr_ga (C := RX0) (T := TX0) (N := 5) (ci := 3) (k := 3) S hK hw zi_X0 rfl (by decide) zu_76 dX0_greatestDivisor_45 h (fun quotient_8 h => ?_)
        obtain ⟨ho, h⟩ := h
        refine zr_Vv (As := [.ref v4, .ref quotient_8]) (rest := []) S hK hw (kX5_divide l lo g M6 v3 v4 quotient_8 _ h) (cwV 2 hts (zg_V zu_77 zu_78 zu_79 zu_12 zu_80) rfl rfl rfl (by decide +kernel) ⟨Nat.le_of_ble_eq_true rfl, Nat.le_of_ble_eq_true rfl⟩) (ci := 8) rfl ho rfl hl.1 rfl (Nat.le_of_ble_eq_true rfl) dX0_greatestDivisor_48 ⟨Nat.le_of_ble_eq_true rfl, Nat.le_of_ble_eq_true rfl⟩ (fun M9 H locs hw h => ?_)
        refine lv_aload_n hx hb dX0_greatestDivisor_51 rfl (lv_at hl 1 rfl) ?_
        refine lv_astore (lv' := [(6, .ref v3), (0, .ref v0), (3, .ref v3), (4, .ref v4), (5, .int v5)]) hx hb dX0_greatestDivisor_52 hl (by decide) rfl (fun ls hl => ?_)
        refine lv_aload hx hb dX0_greatestDivisor_54 (lv_at hl 3 rfl) ?_
        refine lv_astore_n (lv' := [(3, .ref v4), (6, .ref v3), (0, .ref v0), (4, .ref v4), (5, .int v5)]) hx hb dX0_greatestDivisor_56 rfl hl (by decide) rfl (fun ls hl => ?_)
        refine lv_aload hx hb dX0_greatestDivisor_57 (lv_at hl 1 rfl) ?_
        refine lv_astore (lv' := [(4, .ref v3), (3, .ref v4), (6, .ref v3), (0, .ref v0), (5, .int v5)]) hx hb dX0_greatestDivisor_59 hl (by decide) rfl (fun ls hl => ?_)
        obtain ⟨x10, ex10⟩ : ∃ z : Int32, z = v5 + (1 : Int32) := ⟨_, rfl⟩
        have h := h x10 ex10
        refine lv_iinc (v := x10) (lv' := [(5, .int x10), (4, .ref v3), (3, .ref v4), (6, .ref v3), (0, .ref v0)]) hx hb dX0_greatestDivisor_61 hl (k := 4) rfl (by rw [ex10]; rfl) (by decide) rfl (fun ls hl => ?_)
        refine lv_goto (tgt := 25) hx hb dX0_greatestDivisor_64 (by decide) ?_
        exact ih v0 v4 v3 x10 _ h _ _ _ hw (lv_sub hl [4, 2, 1, 0] rfl)
set_option maxHeartbeats 4000000 in
set_option maxRecDepth 100000 in
theorem kX0_greatestDivisor (l : Launch) (lo : Nat) (g : zg) (M : zm_M) (a0 : Nat) (a1 : Nat) (a2 : Nat) (post : Option Nat → zm_M → Prop) (h : pX0_greatestDivisor g.2 a0 a1 a2 post M) : Met l yX0_greatestDivisor (Cond.code yX0_greatestDivisor cX0_greatestDivisor 7 (some (.object "LeastTerms$Wide")) :: zU) (({ frames := 4, cells := 0, slots := 0, locals := 129 } : Room)) (zc_P zNF zNM lo g M [.ref a0, .ref a1, .ref a2]) (va_Qq post (zc_B lo g) (zA lo)) 0 0 (zA lo) := by
  refine Met.ofW (cc := cX0_greatestDivisor) (maxL := 7) (ret := (some (.object "LeastTerms$Wide"))) (by decide) rfl ?_
  intro p e s m args below meth c s₁ B hml hv
  obtain ⟨rfl, hR, hK⟩ := hv
  have hts := atoms_spec (ws := Cond.code yX0_greatestDivisor cX0_greatestDivisor 7 (some (.object "LeastTerms$Wide")) :: zU) B.pre
  have hts : ∀ w ∈ zU, w.before _ s = true := fun w hw => hts w (List.mem_cons_of_mem _ hw)
  have hown : s.vm.findClass RX0 = some m.cls := findClass_of_methodNamed B.named
  have hx := B.exec
  have hb := B.bytes
  have hr := B.returns
  have hlocks := B.notSynchronized
  have S : CallFix p m c cX0_greatestDivisor 7 s ([.ref a0, .ref a1, .ref a2] : List Value).toArray zU RX0 := ⟨hx, hb, hml, hown, hts⟩
  have hw : zW lo g s s.heap [] M := ⟨hR, va_S.rf⟩
  have hl := lv_entry ([.ref a0, .ref a1, .ref a2]) (n := 7) (Nat.le_of_ble_eq_true rfl)
  rw [lg_entry_eq]
  generalize (lg_sl ([.ref a0, .ref a1, .ref a2]) ++ List.replicate (7 - (lg_sl ([.ref a0, .ref a1, .ref a2])).length) Slot.unset).toArray = ls at hl ⊢
  have hl : lv_has ls 7 [(0, .ref a0), (1, .ref a1), (2, .ref a2)] := hl
  unfold pX0_greatestDivisor at h
  refine lv_aload_n hx hb dX0_greatestDivisor_0 rfl (lv_at hl 0 rfl) ?_
  refine zr_ga (C := RX0) (T := TX0) (N := 5) (ci := 3) (k := 1) S hK hw zi_X0 rfl (by decide) zu_66 dX0_greatestDivisor_1 h (fun left_1 h => ?_)
  refine lv_astore_n (lv' := [(3, .ref left_1), (0, .ref a0), (1, .ref a1), (2, .ref a2)]) hx hb dX0_greatestDivisor_4 rfl hl (by decide) rfl (fun ls hl => ?_)
  refine lv_aload_n hx hb dX0_greatestDivisor_5 rfl (lv_at hl 1 rfl) ?_
  refine zr_ga (C := RX0) (T := TX0) (N := 5) (ci := 3) (k := 2) S hK hw zi_X0 rfl (by decide) zu_67 dX0_greatestDivisor_6 h (fun right_2 h => ?_)
  refine lv_astore (lv' := [(4, .ref right_2), (3, .ref left_1), (0, .ref a0), (1, .ref a1), (2, .ref a2)]) hx hb dX0_greatestDivisor_9 hl (by decide) rfl (fun ls hl => ?_)
  refine lv_aload_n hx hb dX0_greatestDivisor_11 rfl (lv_at hl 1 rfl) ?_
  refine lv_aload_n hx hb dX0_greatestDivisor_12 rfl (lv_at hl 3 rfl) ?_
  obtain ⟨ho, h⟩ := h
  refine zr_Vv (As := [.ref a1]) (rest := []) S hK hw (kX5_copy l lo g M left_1 a1 _ h) (cwV 1 hts (zg_V zu_68 zu_69 zu_70 zu_12 zu_71) rfl rfl rfl (by decide +kernel) ⟨Nat.le_of_ble_eq_true rfl, Nat.le_of_ble_eq_true rfl⟩) (ci := 8) rfl ho rfl hl.1 rfl (Nat.le_of_ble_eq_true rfl) dX0_greatestDivisor_13 ⟨Nat.le_of_ble_eq_true rfl, Nat.le_of_ble_eq_true rfl⟩ (fun M3 H locs hw h => ?_)
  refine lv_aload hx hb dX0_greatestDivisor_16 (lv_at hl 0 rfl) ?_
  refine lv_aload_n hx hb dX0_greatestDivisor_18 rfl (lv_at hl 4 rfl) ?_
  obtain ⟨ho, h⟩ := h
  refine zr_Vv (As := [.ref a2]) (rest := []) S hK hw (kX5_copy l lo g M3 right_2 a2 _ h) (cwV 1 hts (zg_V zu_68 zu_69 zu_70 zu_12 zu_71) rfl rfl rfl (by decide +kernel) ⟨Nat.le_of_ble_eq_true rfl, Nat.le_of_ble_eq_true rfl⟩) (ci := 8) rfl ho rfl hl.1 rfl (Nat.le_of_ble_eq_true rfl) dX0_greatestDivisor_19 ⟨Nat.le_of_ble_eq_true rfl, Nat.le_of_ble_eq_true rfl⟩ (fun M4 H locs hw h => ?_)
  refine lv_iconst (v := (0 : Int32)) hx hb dX0_greatestDivisor_22 (by decide) ?_
  refine lv_topi (fun x5 ex5 => ?_)
  have h := h x5 ex5
  refine lv_istore (lv' := [(5, .int x5), (4, .ref right_2), (3, .ref left_1), (0, .ref a0), (1, .ref a1), (2, .ref a2)]) hx hb dX0_greatestDivisor_23 hl (by decide) rfl (fun ls hl => ?_)
  obtain ⟨n25, h⟩ := h
  refine sX0_greatestDivisor_25 S hr hlocks hK  n25 a0 left_1 right_2 x5 _ h _ _ _ hw (lv_sub hl [3, 2, 1, 0] rfl)
set_option maxHeartbeats 4000000 in
set_option maxRecDepth 100000 in
theorem kX0_divideOut (l : Launch) (lo : Nat) (g : zg) (M : zm_M) (a0 : Nat) (a1 : Nat) (a2 : Nat) (post : zm_M → Prop) (h : pX0_divideOut g.2 a0 a1 a2 post M) : Met l yX0_divideOut (Cond.code yX0_divideOut cX0_divideOut 3 none :: zU) (({ frames := 4, cells := 0, slots := 0, locals := 129 } : Room)) (zc_P zNF zNM lo g M [.ref a0, .ref a1, .ref a2]) (va_Qv post (zc_B lo g) (zA lo)) 0 0 (zA lo) := by
  refine Met.ofW (cc := cX0_divideOut) (maxL := 3) (ret := none) (by decide) rfl ?_
  intro p e s m args below meth c s₁ B hml hv
  obtain ⟨rfl, hR, hK⟩ := hv
  have hts := atoms_spec (ws := Cond.code yX0_divideOut cX0_divideOut 3 none :: zU) B.pre
  have hts : ∀ w ∈ zU, w.before _ s = true := fun w hw => hts w (List.mem_cons_of_mem _ hw)
  have hown : s.vm.findClass RX0 = some m.cls := findClass_of_methodNamed B.named
  have hx := B.exec
  have hb := B.bytes
  have hr := B.returns
  have hlocks := B.notSynchronized
  have S : CallFix p m c cX0_divideOut 3 s ([.ref a0, .ref a1, .ref a2] : List Value).toArray zU RX0 := ⟨hx, hb, hml, hown, hts⟩
  have hw : zW lo g s s.heap [] M := ⟨hR, va_S.rf⟩
  have hl := lv_entry ([.ref a0, .ref a1, .ref a2]) (n := 3) (Nat.le_of_ble_eq_true rfl)
  rw [lg_entry_eq]
  generalize (lg_sl ([.ref a0, .ref a1, .ref a2]) ++ List.replicate (3 - (lg_sl ([.ref a0, .ref a1, .ref a2])).length) Slot.unset).toArray = ls at hl ⊢
  have hl : lv_has ls 3 [(0, .ref a0), (1, .ref a1), (2, .ref a2)] := hl
  unfold pX0_divideOut at h
  refine lv_aload_n hx hb dX0_divideOut_0 rfl (lv_at hl 0 rfl) ?_
  refine zr_ga (C := RX0) (T := TX0) (N := 5) (ci := 3) (k := 4) S hK hw zi_X0 rfl (by decide) zu_81 dX0_divideOut_1 h (fun spare_1 h => ?_)
  refine lv_aload_n hx hb dX0_divideOut_4 rfl (lv_at hl 1 rfl) ?_
  obtain ⟨ho, h⟩ := h
  refine zr_Vv (As := [.ref a1]) (rest := []) S hK hw (kX5_copy l lo g M spare_1 a1 _ h) (cwV 1 hts (zg_V zu_68 zu_69 zu_70 zu_12 zu_71) rfl rfl rfl (by decide +kernel) ⟨Nat.le_of_ble_eq_true rfl, Nat.le_of_ble_eq_true rfl⟩) (ci := 8) rfl ho rfl hl.1 rfl (Nat.le_of_ble_eq_true rfl) dX0_divideOut_5 ⟨Nat.le_of_ble_eq_true rfl, Nat.le_of_ble_eq_true rfl⟩ (fun M2 H locs hw h => ?_)
  refine lv_aload_n hx hb dX0_divideOut_8 rfl (lv_at hl 0 rfl) ?_
  refine zr_ga (C := RX0) (T := TX0) (N := 5) (ci := 3) (k := 4) S hK hw zi_X0 rfl (by decide) zu_81 dX0_divideOut_9 h (fun spare_3 h => ?_)
  refine lv_aload_n hx hb dX0_divideOut_12 rfl (lv_at hl 2 rfl) ?_
  refine lv_aload_n hx hb dX0_divideOut_13 rfl (lv_at hl 1 rfl) ?_
  obtain ⟨ho, h⟩ := h
  refine zr_Vv (As := [.ref a2, .ref a1]) (rest := []) S hK hw (kX5_divide l lo g M2 spare_3 a2 a1 _ h) (cwV 2 hts (zg_V zu_77 zu_78 zu_79 zu_12 zu_80) rfl rfl rfl (by decide +kernel) ⟨Nat.le_of_ble_eq_true rfl, Nat.le_of_ble_eq_true rfl⟩) (ci := 8) rfl ho rfl hl.1 rfl (Nat.le_of_ble_eq_true rfl) dX0_divideOut_14 ⟨Nat.le_of_ble_eq_true rfl, Nat.le_of_ble_eq_true rfl⟩ (fun M4 H locs hw h => ?_)
  exact zr_rv S hr hlocks hw h dX0_divideOut_17
set_option maxHeartbeats 4000000 in
set_option maxRecDepth 100000 in
theorem kX0_reduce (l : Launch) (lo : Nat) (g : zg) (M : zm_M) (a0 : Nat) (post : zm_M → Prop) (h : pX0_reduce g.2 a0 post M) : Met l yX0_reduce (Cond.code yX0_reduce cX0_reduce 2 none :: zU) (({ frames := 5, cells := 0, slots := 0, locals := 155 } : Room)) (zc_P zNF zNM lo g M [.ref a0]) (va_Qv post (zc_B lo g) (zA lo)) 0 0 (zA lo) := by
  refine Met.ofW (cc := cX0_reduce) (maxL := 2) (ret := none) (by decide) rfl ?_
  intro p e s m args below meth c s₁ B hml hv
  obtain ⟨rfl, hR, hK⟩ := hv
  have hts := atoms_spec (ws := Cond.code yX0_reduce cX0_reduce 2 none :: zU) B.pre
  have hts : ∀ w ∈ zU, w.before _ s = true := fun w hw => hts w (List.mem_cons_of_mem _ hw)
  have hown : s.vm.findClass RX0 = some m.cls := findClass_of_methodNamed B.named
  have hx := B.exec
  have hb := B.bytes
  have hr := B.returns
  have hlocks := B.notSynchronized
  have S : CallFix p m c cX0_reduce 2 s ([.ref a0] : List Value).toArray zU RX0 := ⟨hx, hb, hml, hown, hts⟩
  have hw : zW lo g s s.heap [] M := ⟨hR, va_S.rf⟩
  have hl := lv_entry ([.ref a0]) (n := 2) (Nat.le_of_ble_eq_true rfl)
  rw [lg_entry_eq]
  generalize (lg_sl ([.ref a0]) ++ List.replicate (2 - (lg_sl ([.ref a0])).length) Slot.unset).toArray = ls at hl ⊢
  have hl : lv_has ls 2 [(0, .ref a0)] := hl
  unfold pX0_reduce at h
  refine lv_aload_n hx hb dX0_reduce_0 rfl (lv_at hl 0 rfl) ?_
  refine zr_ga (C := RX0) (T := TX0) (N := 5) (ci := 3) (k := 0) S hK hw zi_X0 rfl (by decide) zu_82 dX0_reduce_1 h (fun result_1 h => ?_)
  refine zr_gaN (C := RX2) (T := TX2) (N := 3) (ci := 5) (k := 1) (host := "LeastTerms") S hK hw zi_X2 rfl (by decide) (by decide +kernel) dX0_reduce_4 h (fun top_2 h => ?_)
  obtain ⟨ho, h⟩ := h
  refine zr_Vi (As := []) (rest := []) S hK hw (kX5_isZero l lo g M top_2  _ h) (cwV 0 hts (zg_V zu_72 zu_73 zu_74 zu_12 zu_75) rfl rfl rfl (by decide +kernel) ⟨Nat.le_of_ble_eq_true rfl, Nat.le_of_ble_eq_true rfl⟩) (ci := 8) rfl ho rfl hl.1 rfl (Nat.le_of_ble_eq_true rfl) dX0_reduce_7 ⟨Nat.le_of_ble_eq_true rfl, Nat.le_of_ble_eq_true rfl⟩ (fun r4 M3 H locs hw h => ?_)
  refine lv_if_eq (tgt := 23) hx hb dX0_reduce_10 (by decide) (fun hc => ?_) (fun hc => ?_)
  · have h := h.1 hc
    refine lv_aload_n hx hb dX0_reduce_23 rfl (lv_at hl 0 rfl) ?_
    refine zr_ga (C := RX0) (T := TX0) (N := 5) (ci := 3) (k := 0) S hK hw zi_X0 rfl (by decide) zu_82 dX0_reduce_24 h (fun result_5 h => ?_)
    refine zr_gaN (C := RX2) (T := TX2) (N := 3) (ci := 5) (k := 2) (host := "LeastTerms") S hK hw zi_X2 rfl (by decide) (by decide +kernel) dX0_reduce_27 h (fun bottom_6 h => ?_)
    obtain ⟨ho, h⟩ := h
    refine zr_Vi (As := []) (rest := []) S hK hw (kX5_isOne l lo g M3 bottom_6  _ h) (cwV 0 hts (zg_V zu_83 zu_84 zu_85 zu_12 zu_86) rfl rfl rfl (by decide +kernel) ⟨Nat.le_of_ble_eq_true rfl, Nat.le_of_ble_eq_true rfl⟩) (ci := 8) rfl ho rfl hl.1 rfl (Nat.le_of_ble_eq_true rfl) dX0_reduce_30 ⟨Nat.le_of_ble_eq_true rfl, Nat.le_of_ble_eq_true rfl⟩ (fun r8 M7 H locs hw h => ?_)
    refine lv_if_eq (tgt := 37) hx hb dX0_reduce_33 (by decide) (fun hc => ?_) (fun hc => ?_)
    · have h := h.1 hc
      refine lv_aload_n hx hb dX0_reduce_37 rfl (lv_at hl 0 rfl) ?_
      refine lv_aload_n hx hb dX0_reduce_38 rfl (lv_at hl 0 rfl) ?_
      refine zr_ga (C := RX0) (T := TX0) (N := 5) (ci := 3) (k := 0) S hK hw zi_X0 rfl (by decide) zu_82 dX0_reduce_39 h (fun result_9 h => ?_)
      refine zr_gaN (C := RX2) (T := TX2) (N := 3) (ci := 5) (k := 1) (host := "LeastTerms") S hK hw zi_X2 rfl (by decide) (by decide +kernel) dX0_reduce_42 h (fun top_10 h => ?_)
      refine lv_aload_n hx hb dX0_reduce_45 rfl (lv_at hl 0 rfl) ?_
      refine zr_ga (C := RX0) (T := TX0) (N := 5) (ci := 3) (k := 0) S hK hw zi_X0 rfl (by decide) zu_82 dX0_reduce_46 h (fun result_11 h => ?_)
      refine zr_gaN (C := RX2) (T := TX2) (N := 3) (ci := 5) (k := 2) (host := "LeastTerms") S hK hw zi_X2 rfl (by decide) (by decide +kernel) dX0_reduce_49 h (fun bottom_12 h => ?_)
      obtain ⟨ho, h⟩ := h
      refine zr_Vq (As := [.ref top_10, .ref bottom_12]) (rest := []) S hK hw (kX0_greatestDivisor l lo g M7 a0 top_10 bottom_12 _ h) (cwV 2 hts (zg_V zu_87 zu_88 zu_89 zu_90 zu_91) rfl rfl rfl (by decide +kernel) ⟨Nat.le_of_ble_eq_true rfl, Nat.le_of_ble_eq_true rfl⟩) (ci := 3) rfl ho rfl hl.1 rfl (Nat.le_of_ble_eq_true rfl) dX0_reduce_52 ⟨Nat.le_of_ble_eq_true rfl, Nat.le_of_ble_eq_true rfl⟩ (fun r14 M13 H locs hw h => ?_)
      obtain ⟨a15, rfl, h⟩ := h
      refine lv_astore_n (lv' := [(1, .ref a15), (0, .ref a0)]) hx hb dX0_reduce_55 rfl hl (by decide) rfl (fun ls hl => ?_)
      refine lv_aload_n hx hb dX0_reduce_56 rfl (lv_at hl 0 rfl) ?_
      obtain ⟨ho, h⟩ := h
      refine zr_Vi (As := []) (rest := []) S hK hw (kX5_isOne l lo g M13 a15  _ h) (cwV 0 hts (zg_V zu_83 zu_84 zu_85 zu_12 zu_86) rfl rfl rfl (by decide +kernel) ⟨Nat.le_of_ble_eq_true rfl, Nat.le_of_ble_eq_true rfl⟩) (ci := 8) rfl ho rfl hl.1 rfl (Nat.le_of_ble_eq_true rfl) dX0_reduce_57 ⟨Nat.le_of_ble_eq_true rfl, Nat.le_of_ble_eq_true rfl⟩ (fun r17 M16 H locs hw h => ?_)
      refine lv_if_ne (tgt := 87) hx hb dX0_reduce_60 (by decide) (fun hc => ?_) (fun hc => ?_)
      · have h := h.1 hc
        exact zr_rv S hr hlocks hw h dX0_reduce_87
      · have h := h.2 hc
        refine lv_aload_n hx hb dX0_reduce_63 rfl (lv_at hl 1 rfl) ?_
        refine lv_aload_n hx hb dX0_reduce_64 rfl (lv_at hl 1 rfl) ?_
        refine zr_ga (C := RX0) (T := TX0) (N := 5) (ci := 3) (k := 0) S hK hw zi_X0 rfl (by decide) zu_82 dX0_reduce_65 h (fun result_18 h => ?_)
        refine zr_gaN (C := RX2) (T := TX2) (N := 3) (ci := 5) (k := 1) (host := "LeastTerms") S hK hw zi_X2 rfl (by decide) (by decide +kernel) dX0_reduce_68 h (fun top_19 h => ?_)
        refine lv_aload_n hx hb dX0_reduce_71 rfl (lv_at hl 0 rfl) ?_
        obtain ⟨ho, h⟩ := h
        refine zr_Vv (As := [.ref top_19, .ref a15]) (rest := []) S hK hw (kX0_divideOut l lo g M16 a0 top_19 a15 _ h) (cwV 2 hts (zg_V zu_92 zu_93 zu_94 zu_90 zu_95) rfl rfl rfl (by decide +kernel) ⟨Nat.le_of_ble_eq_true rfl, Nat.le_of_ble_eq_true rfl⟩) (ci := 3) rfl ho rfl hl.1 rfl (Nat.le_of_ble_eq_true rfl) dX0_reduce_72 ⟨Nat.le_of_ble_eq_true rfl, Nat.le_of_ble_eq_true rfl⟩ (fun M20 H locs hw h => ?_)
        refine lv_aload_n hx hb dX0_reduce_75 rfl (lv_at hl 1 rfl) ?_
        refine lv_aload_n hx hb dX0_reduce_76 rfl (lv_at hl 1 rfl) ?_
        refine zr_ga (C := RX0) (T := TX0) (N := 5) (ci := 3) (k := 0) S hK hw zi_X0 rfl (by decide) zu_82 dX0_reduce_77 h (fun result_21 h => ?_)
        refine zr_gaN (C := RX2) (T := TX2) (N := 3) (ci := 5) (k := 2) (host := "LeastTerms") S hK hw zi_X2 rfl (by decide) (by decide +kernel) dX0_reduce_80 h (fun bottom_22 h => ?_)
        refine lv_aload_n hx hb dX0_reduce_83 rfl (lv_at hl 0 rfl) ?_
        obtain ⟨ho, h⟩ := h
        refine zr_Vv (As := [.ref bottom_22, .ref a15]) (rest := []) S hK hw (kX0_divideOut l lo g M20 a0 bottom_22 a15 _ h) (cwV 2 hts (zg_V zu_92 zu_93 zu_94 zu_90 zu_95) rfl rfl rfl (by decide +kernel) ⟨Nat.le_of_ble_eq_true rfl, Nat.le_of_ble_eq_true rfl⟩) (ci := 3) rfl ho rfl hl.1 rfl (Nat.le_of_ble_eq_true rfl) dX0_reduce_84 ⟨Nat.le_of_ble_eq_true rfl, Nat.le_of_ble_eq_true rfl⟩ (fun M23 H locs hw h => ?_)
        exact zr_rv S hr hlocks hw h dX0_reduce_87
    · have h := h.2 hc
      exact zr_rv S hr hlocks hw h dX0_reduce_36
  · have h := h.2 hc
    refine lv_aload_n hx hb dX0_reduce_13 rfl (lv_at hl 0 rfl) ?_
    refine zr_ga (C := RX0) (T := TX0) (N := 5) (ci := 3) (k := 0) S hK hw zi_X0 rfl (by decide) zu_82 dX0_reduce_14 h (fun result_24 h => ?_)
    refine lv_iconst (v := (0 : Int32)) hx hb dX0_reduce_17 (by decide) ?_
    refine lv_lconst (v := (0 : Int64)) hx hb dX0_reduce_18 (by decide) ?_
    obtain ⟨ho, h⟩ := h
    refine zr_Vv (As := [.int (0 : Int32), .long (0 : Int64)]) (rest := []) S hK hw (kX2_become l lo g M3 result_24 (0 : Int32) (0 : Int64) _ h) (cwV 2 hts (zg_V zu_96 zu_97 zu_98 zu_99 zu_100) rfl rfl rfl (by decide +kernel) ⟨Nat.le_of_ble_eq_true rfl, Nat.le_of_ble_eq_true rfl⟩) (ci := 5) rfl ho rfl hl.1 rfl (Nat.le_of_ble_eq_true rfl) dX0_reduce_19 ⟨Nat.le_of_ble_eq_true rfl, Nat.le_of_ble_eq_true rfl⟩ (fun M25 H locs hw h => ?_)
    exact zr_rv S hr hlocks hw h dX0_reduce_22
set_option maxHeartbeats 4000000 in
set_option maxRecDepth 100000 in
theorem sX5_addTimes_22 {p : Program} {l : Launch} {e : Env} {s : State} {m : MethodId} {args : Array Value} {below : List Frame} {meth : Method} {c : Code} {lo : Nat} {g : zg} {post : zm_M → Prop} {k90 : Nat → Int32 → Int32 → Int64 → zm_M → Prop} (S : CallFix p m c cX5_addTimes 11 s args zU RX5) (hr : meth.sig.returnType = none) (hlocks : meth.locks = false) (hK : zk_K zNF zNM g s) (hk90 : ∀ (v0 : Nat) (v4 : Int32) (v5 : Int32) (v6 : Int64) (M : zm_M), k90 v0 v4 v5 v6 M → ∀ (H : Heap) (locs : List Loc) (ls : Array Slot), zW lo g s H locs M → lv_has ls 11 [(0, .ref v0), (4, .int v4), (5, .int v5), (6, .long v6)] → W p l e ({ frames := 1, cells := 0, slots := 0, locals := 40 } : Room) s m args below meth c H locs 0 0 (MQ below (va_Qv post (zc_B lo g) (zA lo)) args s 0 0 (zA lo)) (F0 m 90 ls [])) : ∀ (n : Nat) (v0 : Nat) (v1 : Nat) (v2 : Int64) (v4 : Int32) (v5 : Int32) (v6 : Int64) (v8 : Int32) (M : zm_M), pX5_addTimes_22 g.2 post k90 n v0 v1 v2 v4 v5 v6 v8 M → ∀ (H : Heap) (locs : List Loc) (ls : Array Slot), zW lo g s H locs M → lv_has ls 11 [(0, .ref v0), (1, .ref v1), (2, .long v2), (4, .int v4), (5, .int v5), (6, .long v6), (8, .int v8)] → W p l e ({ frames := 1, cells := 0, slots := 0, locals := 40 } : Room) s m args below meth c H locs 0 0 (MQ below (va_Qv post (zc_B lo g) (zA lo)) args s 0 0 (zA lo)) (F0 m 22 ls []) := by
  obtain ⟨hx, hb, hml, hown, hts⟩ := id S
  intro n
  induction n with
  | zero =>
    intro v0 v1 v2 v4 v5 v6 v8 M h
    exact False.elim h
  | succ n22 ih =>
    intro v0 v1 v2 v4 v5 v6 v8 M h H locs ls hw hl
    rw [pX5_addTimes_22] at h
    refine lv_iload hx hb dX5_addTimes_22 (lv_at hl 6 rfl) ?_
    refine lv_iload hx hb dX5_addTimes_24 (lv_at hl 4 rfl) ?_
    refine lv_icmp_ge (tgt := 90) hx hb dX5_addTimes_26 (by decide) (fun hc => ?_) (fun hc => ?_)
    · have h := h.1 hc
      exact hk90 v0 v4 v5 v6 _ h _ _ _ hw (lv_sub hl [0, 3, 4, 5] rfl)
    · have h := h.2 hc
      refine lv_lload_n hx hb dX5_addTimes_29 rfl (lv_at hl 2 rfl) ?_
      refine lv_aload_n hx hb dX5_addTimes_30 rfl (lv_at hl 1 rfl) ?_
      refine zr_ga (C := RX5) (T := TX5) (N := 2) (ci := 8) (k := 0) S hK hw zi_X5 rfl (by decide) zu_1 dX5_addTimes_31 h (fun row_6 h => ?_)
      refine lv_iload hx hb dX5_addTimes_34 (lv_at hl 6 rfl) ?_
      refine zr_iald S hK hw dX5_addTimes_36 h (fun e7 h => ?_)
      refine lv_i2l hx hb dX5_addTimes_37 rfl ?_
      refine lv_ldc2 (v := (4294967295 : Int64)) hx hb hown (hts _ zu_25) dX5_addTimes_38 ?_
      refine lv_land hx hb dX5_addTimes_41 ?_
      refine lv_lmul hx hb dX5_addTimes_42 ?_
      refine lv_aload_n hx hb dX5_addTimes_43 rfl (lv_at hl 0 rfl) ?_
      refine zr_ga (C := RX5) (T := TX5) (N := 2) (ci := 8) (k := 0) S hK hw zi_X5 rfl (by decide) zu_1 dX5_addTimes_44 h (fun row_8 h => ?_)
      refine lv_iload hx hb dX5_addTimes_47 (lv_at hl 3 rfl) ?_
      refine lv_iload hx hb dX5_addTimes_49 (lv_at hl 6 rfl) ?_
      refine lv_iadd hx hb dX5_addTimes_51 ?_
      refine zr_iald S hK hw dX5_addTimes_52 h (fun e9 h => ?_)
      refine lv_i2l hx hb dX5_addTimes_53 rfl ?_
      refine lv_ldc2 (v := (4294967295 : Int64)) hx hb hown (hts _ zu_25) dX5_addTimes_54 ?_
      refine lv_land hx hb dX5_addTimes_57 ?_
      refine lv_ladd hx hb dX5_addTimes_58 ?_
      refine lv_lload hx hb dX5_addTimes_59 (lv_at hl 5 rfl) ?_
      refine lv_ladd hx hb dX5_addTimes_61 ?_
      refine lv_topl (fun x10 ex10 => ?_)
      have h := h x10 ex10
      refine lv_lstore (lv' := [(9, .long x10), (0, .ref v0), (1, .ref v1), (2, .long v2), (4, .int v4), (5, .int v5), (6, .long v6), (8, .int v8)]) hx hb dX5_addTimes_62 hl (by decide) rfl (fun ls hl => ?_)
      refine lv_aload_n hx hb dX5_addTimes_64 rfl (lv_at hl 1 rfl) ?_
      refine zr_ga (C := RX5) (T := TX5) (N := 2) (ci := 8) (k := 0) S hK hw zi_X5 rfl (by decide) zu_1 dX5_addTimes_65 h (fun row_11 h => ?_)
      refine lv_iload hx hb dX5_addTimes_68 (lv_at hl 4 rfl) ?_
      refine lv_iload hx hb dX5_addTimes_70 (lv_at hl 7 rfl) ?_
      refine lv_iadd hx hb dX5_addTimes_72 ?_
      refine lv_lload hx hb dX5_addTimes_73 (lv_at hl 0 rfl) ?_
      refine lv_l2i hx hb dX5_addTimes_75 rfl ?_
      refine zr_iast S hK hw dX5_addTimes_76 h (fun M12 H locs hw h => ?_)
      refine lv_lload hx hb dX5_addTimes_77 (lv_at hl 0 rfl) ?_
      refine lv_bipush (v := (32 : Int32)) hx hb dX5_addTimes_79 (by decide) ?_
      refine lv_lushr hx hb dX5_addTimes_81 rfl ?_
      refine lv_topl (fun x13 ex13 => ?_)
      have h := h x13 ex13
      refine lv_lstore (lv' := [(6, .long x13), (9, .long x10), (0, .ref v0), (1, .ref v1), (2, .long v2), (4, .int v4), (5, .int v5), (8, .int v8)]) hx hb dX5_addTimes_82 hl (by decide) rfl (fun ls hl => ?_)
      obtain ⟨x14, ex14⟩ : ∃ z : Int32, z = v8 + (1 : Int32) := ⟨_, rfl⟩
      have h := h x14 ex14
      refine lv_iinc (v := x14) (lv' := [(8, .int x14), (6, .long x13), (9, .long x10), (0, .ref v0), (1, .ref v1), (2, .long v2), (4, .int v4), (5, .int v5)]) hx hb dX5_addTimes_84 hl (k := 7) rfl (by rw [ex14]; rfl) (by decide) rfl (fun ls hl => ?_)
      refine lv_goto (tgt := 22) hx hb dX5_addTimes_87 (by decide) ?_
      exact ih v0 v1 v2 v4 v5 x13 x14 _ h _ _ _ hw (lv_sub hl [3, 4, 5, 6, 7, 1, 0] rfl)
set_option maxHeartbeats 4000000 in
set_option maxRecDepth 100000 in
theorem sX5_addTimes_97 {p : Program} {l : Launch} {e : Env} {s : State} {m : MethodId} {args : Array Value} {below : List Frame} {meth : Method} {c : Code} {lo : Nat} {g : zg} {post : zm_M → Prop}  (S : CallFix p m c cX5_addTimes 11 s args zU RX5) (hr : meth.sig.returnType = none) (hlocks : meth.locks = false) (hK : zk_K zNF zNM g s)  : ∀ (n : Nat) (v0 : Nat) (v6 : Int64) (v8 : Int32) (M : zm_M), pX5_addTimes_97 g.2 post  n v0 v6 v8 M → ∀ (H : Heap) (locs : List Loc) (ls : Array Slot), zW lo g s H locs M → lv_has ls 11 [(0, .ref v0), (6, .long v6), (8, .int v8)] → W p l e ({ frames := 1, cells := 0, slots := 0, locals := 40 } : Room) s m args below meth c H locs 0 0 (MQ below (va_Qv post (zc_B lo g) (zA lo)) args s 0 0 (zA lo)) (F0 m 97 ls []) := by
  obtain ⟨hx, hb, hml, hown, hts⟩ := id S
  intro n
  induction n with
  | zero =>
    intro v0 v6 v8 M h
    exact False.elim h
  | succ n97 ih =>
    intro v0 v6 v8 M h H locs ls hw hl
    rw [pX5_addTimes_97] at h
    refine lv_iload hx hb dX5_addTimes_97 (lv_at hl 2 rfl) ?_
    refine lv_aload_n hx hb dX5_addTimes_99 rfl (lv_at hl 0 rfl) ?_
    refine zr_gi (C := RX5) (T := TX5) (N := 2) (ci := 8) (k := 1) S hK hw zi_X5 rfl (by decide) zu_0 dX5_addTimes_100 h (fun used_21 h => ?_)
    refine lv_icmp_ge (tgt := 153) hx hb dX5_addTimes_103 (by decide) (fun hc => ?_) (fun hc => ?_)
    · have h := h.1 hc
      exact zr_rv S hr hlocks hw h dX5_addTimes_153
    · have h := h.2 hc
      refine lv_lload hx hb dX5_addTimes_106 (lv_at hl 1 rfl) ?_
      refine lv_lconst (v := (0 : Int64)) hx hb dX5_addTimes_108 (by decide) ?_
      refine W.lcmp hx hb dX5_addTimes_109 ?_
      refine lv_if_eq (tgt := 153) hx hb dX5_addTimes_110 (by decide) (fun hc => ?_) (fun hc => ?_)
      · have h := h.1 (zc_eq.mp hc)
        exact zr_rv S hr hlocks hw h dX5_addTimes_153
      · have h := h.2 (fun q => hc (zc_eq.mpr q))
        refine lv_aload_n hx hb dX5_addTimes_113 rfl (lv_at hl 0 rfl) ?_
        refine zr_ga (C := RX5) (T := TX5) (N := 2) (ci := 8) (k := 0) S hK hw zi_X5 rfl (by decide) zu_1 dX5_addTimes_114 h (fun row_22 h => ?_)
        refine lv_iload hx hb dX5_addTimes_117 (lv_at hl 2 rfl) ?_
        refine zr_iald S hK hw dX5_addTimes_119 h (fun e23 h => ?_)
        refine lv_i2l hx hb dX5_addTimes_120 rfl ?_
        refine lv_ldc2 (v := (4294967295 : Int64)) hx hb hown (hts _ zu_25) dX5_addTimes_121 ?_
        refine lv_land hx hb dX5_addTimes_124 ?_
        refine lv_lload hx hb dX5_addTimes_125 (lv_at hl 1 rfl) ?_
        refine lv_ladd hx hb dX5_addTimes_127 ?_
        refine lv_topl (fun x24 ex24 => ?_)
        have h := h x24 ex24
        refine lv_lstore (lv' := [(9, .long x24), (0, .ref v0), (6, .long v6), (8, .int v8)]) hx hb dX5_addTimes_128 hl (by decide) rfl (fun ls hl => ?_)
        refine lv_aload_n hx hb dX5_addTimes_130 rfl (lv_at hl 1 rfl) ?_
        refine zr_ga (C := RX5) (T := TX5) (N := 2) (ci := 8) (k := 0) S hK hw zi_X5 rfl (by decide) zu_1 dX5_addTimes_131 h (fun row_25 h => ?_)
        refine lv_iload hx hb dX5_addTimes_134 (lv_at hl 3 rfl) ?_
        refine lv_lload hx hb dX5_addTimes_136 (lv_at hl 0 rfl) ?_
        refine lv_l2i hx hb dX5_addTimes_138 rfl ?_
        refine zr_iast S hK hw dX5_addTimes_139 h (fun M26 H locs hw h => ?_)
        refine lv_lload hx hb dX5_addTimes_140 (lv_at hl 0 rfl) ?_
        refine lv_bipush (v := (32 : Int32)) hx hb dX5_addTimes_142 (by decide) ?_
        refine lv_lushr hx hb dX5_addTimes_144 rfl ?_
        refine lv_topl (fun x27 ex27 => ?_)
        have h := h x27 ex27
        refine lv_lstore (lv' := [(6, .long x27), (9, .long x24), (0, .ref v0), (8, .int v8)]) hx hb dX5_addTimes_145 hl (by decide) rfl (fun ls hl => ?_)
        obtain ⟨x28, ex28⟩ : ∃ z : Int32, z = v8 + (1 : Int32) := ⟨_, rfl⟩
        have h := h x28 ex28
        refine lv_iinc (v := x28) (lv' := [(8, .int x28), (6, .long x27), (9, .long x24), (0, .ref v0)]) hx hb dX5_addTimes_147 hl (k := 3) rfl (by rw [ex28]; rfl) (by decide) rfl (fun ls hl => ?_)
        refine lv_goto (tgt := 97) hx hb dX5_addTimes_150 (by decide) ?_
        exact ih v0 x27 x28 _ h _ _ _ hw (lv_sub hl [3, 1, 0] rfl)
set_option maxHeartbeats 4000000 in
set_option maxRecDepth 100000 in
theorem kX5_addTimes (l : Launch) (lo : Nat) (g : zg) (M : zm_M) (a0 : Nat) (a1 : Nat) (a2 : Int64) (a4 : Int32) (post : zm_M → Prop) (h : pX5_addTimes g.2 a0 a1 a2 a4 post M) : Met l yX5_addTimes (Cond.code yX5_addTimes cX5_addTimes 11 none :: zU) (({ frames := 1, cells := 0, slots := 0, locals := 40 } : Room)) (zc_P zNF zNM lo g M [.ref a0, .ref a1, .long a2, .int a4]) (va_Qv post (zc_B lo g) (zA lo)) 0 0 (zA lo) := by
  refine Met.ofW (cc := cX5_addTimes) (maxL := 11) (ret := none) (by decide) rfl ?_
  intro p e s m args below meth c s₁ B hml hv
  obtain ⟨rfl, hR, hK⟩ := hv
  have hts := atoms_spec (ws := Cond.code yX5_addTimes cX5_addTimes 11 none :: zU) B.pre
  have hts : ∀ w ∈ zU, w.before _ s = true := fun w hw => hts w (List.mem_cons_of_mem _ hw)
  have hown : s.vm.findClass RX5 = some m.cls := findClass_of_methodNamed B.named
  have hx := B.exec
  have hb := B.bytes
  have hr := B.returns
  have hlocks := B.notSynchronized
  have S : CallFix p m c cX5_addTimes 11 s ([.ref a0, .ref a1, .long a2, .int a4] : List Value).toArray zU RX5 := ⟨hx, hb, hml, hown, hts⟩
  have hw : zW lo g s s.heap [] M := ⟨hR, va_S.rf⟩
  have hl := lv_entry ([.ref a0, .ref a1, .long a2, .int a4]) (n := 11) (Nat.le_of_ble_eq_true rfl)
  rw [lg_entry_eq]
  generalize (lg_sl ([.ref a0, .ref a1, .long a2, .int a4]) ++ List.replicate (11 - (lg_sl ([.ref a0, .ref a1, .long a2, .int a4])).length) Slot.unset).toArray = ls at hl ⊢
  have hl : lv_has ls 11 [(0, .ref a0), (1, .ref a1), (2, .long a2), (4, .int a4)] := hl
  unfold pX5_addTimes at h
  refine lv_aload_n hx hb dX5_addTimes_0 rfl (lv_at hl 1 rfl) ?_
  refine zr_gi (C := RX5) (T := TX5) (N := 2) (ci := 8) (k := 1) S hK hw zi_X5 rfl (by decide) zu_0 dX5_addTimes_1 h (fun used_1 h => ?_)
  refine lv_aload_n hx hb dX5_addTimes_4 rfl (lv_at hl 0 rfl) ?_
  refine zr_gi (C := RX5) (T := TX5) (N := 2) (ci := 8) (k := 1) S hK hw zi_X5 rfl (by decide) zu_0 dX5_addTimes_5 h (fun used_2 h => ?_)
  refine lv_iload hx hb dX5_addTimes_8 (lv_at hl 3 rfl) ?_
  refine lv_isub hx hb dX5_addTimes_10 ?_
  refine zr_min S hl.1 zu_2 zu_3 zu_4 zu_5 (Nat.le_of_ble_eq_true rfl) (Nat.le_of_ble_eq_true rfl) (Nat.zero_le _) (Nat.zero_le _) dX5_addTimes_11 ?_
  refine lv_topi (fun x3 ex3 => ?_)
  have h := h x3 ex3
  refine lv_istore (lv' := [(5, .int x3), (0, .ref a0), (1, .ref a1), (2, .long a2), (4, .int a4)]) hx hb dX5_addTimes_14 hl (by decide) rfl (fun ls hl => ?_)
  refine lv_lconst (v := (0 : Int64)) hx hb dX5_addTimes_16 (by decide) ?_
  refine lv_topl (fun x4 ex4 => ?_)
  have h := h x4 ex4
  refine lv_lstore (lv' := [(6, .long x4), (5, .int x3), (0, .ref a0), (1, .ref a1), (2, .long a2), (4, .int a4)]) hx hb dX5_addTimes_17 hl (by decide) rfl (fun ls hl => ?_)
  refine lv_iconst (v := (0 : Int32)) hx hb dX5_addTimes_19 (by decide) ?_
  refine lv_topi (fun x5 ex5 => ?_)
  have h := h x5 ex5
  refine lv_istore (lv' := [(8, .int x5), (6, .long x4), (5, .int x3), (0, .ref a0), (1, .ref a1), (2, .long a2), (4, .int a4)]) hx hb dX5_addTimes_20 hl (by decide) rfl (fun ls hl => ?_)
  obtain ⟨n22, h⟩ := h
  refine sX5_addTimes_22 S hr hlocks hK (fun w15 w16 w17 w18 M19 h H locs ls hw hl => ?_) n22 a0 a1 a2 a4 x3 x4 x5 _ h _ _ _ hw (lv_sub hl [3, 4, 5, 6, 2, 1, 0] rfl)
  refine lv_iload hx hb dX5_addTimes_90 (lv_at hl 1 rfl) ?_
  refine lv_iload hx hb dX5_addTimes_92 (lv_at hl 2 rfl) ?_
  refine lv_iadd hx hb dX5_addTimes_94 ?_
  refine lv_topi (fun x20 ex20 => ?_)
  have h := h x20 ex20
  refine lv_istore (lv' := [(8, .int x20), (0, .ref w15), (4, .int w16), (5, .int w17), (6, .long w18)]) hx hb dX5_addTimes_95 hl (by decide) rfl (fun ls hl => ?_)
  obtain ⟨n97, h⟩ := h
  refine sX5_addTimes_97 S hr hlocks hK  n97 w15 w18 x20 _ h _ _ _ hw (lv_sub hl [1, 4, 0] rfl)
