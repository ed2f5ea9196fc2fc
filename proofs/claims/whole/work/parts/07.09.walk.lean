set_option maxHeartbeats 4000000 in
set_option maxRecDepth 100000 in
theorem sX7_write_2 {p : Program} {l : Launch} {e : Env} {s : State} {m : MethodId} {args : Array Value} {below : List Frame} {meth : Method} {c : Code} {lo : Nat} {g : zg} {post : zm_M → Prop} {k32 : Nat → Int32 → zm_M → Prop} (S : CallFix p m c cX7_write 4 s args zU RX7) (hr : meth.sig.returnType = none) (hlocks : meth.locks = false) (hK : zk_K zNF zNM g s) (hk32 : ∀ (v0 : Nat) (v2 : Int32) (M : zm_M), k32 v0 v2 M → ∀ (H : Heap) (locs : List Loc) (ls : Array Slot), zW lo g s H locs M → lv_has ls 4 [(0, .ref v0), (2, .int v2)] → W p l e ({ frames := 3, cells := 0, slots := 0, locals := 87 } : Room) s m args below meth c H locs 0 0 (MQ below (va_Qv post (zc_B lo g) (zA lo)) args s 0 0 (zA lo)) (F0 m 32 ls [])) : ∀ (n : Nat) (v0 : Nat) (v1 : Int32) (v2 : Int32) (M : zm_M), pX7_write_2 g.2 post k32 n v0 v1 v2 M → ∀ (H : Heap) (locs : List Loc) (ls : Array Slot), zW lo g s H locs M → lv_has ls 4 [(0, .ref v0), (1, .int v1), (2, .int v2)] → W p l e ({ frames := 3, cells := 0, slots := 0, locals := 87 } : Room) s m args below meth c H locs 0 0 (MQ below (va_Qv post (zc_B lo g) (zA lo)) args s 0 0 (zA lo)) (F0 m 2 ls []) := by
  obtain ⟨hx, hb, hml, hown, hts⟩ := id S
  intro n
  induction n with
  | zero =>
    intro v0 v1 v2 M h
    exact False.elim h
  | succ n2 ih =>
    intro v0 v1 v2 M h H locs ls hw hl
    rw [pX7_write_2] at h
    refine lv_aload_n hx hb dX7_write_2 rfl (lv_at hl 0 rfl) ?_
    refine zr_ga (C := RX7) (T := TX7) (N := 14) (ci := 10) (k := 13) S hK hw zi_X7 rfl (by decide) zu_613 dX7_write_3 h (fun figure_2 h => ?_)
    refine lv_iload_n hx hb dX7_write_6 rfl (lv_at hl 2 rfl) ?_
    refine lv_bipush (v := (48 : Int32)) hx hb dX7_write_7 (by decide) ?_
    refine lv_aload_n hx hb dX7_write_9 rfl (lv_at hl 0 rfl) ?_
    refine lv_iload_n hx hb dX7_write_10 rfl (lv_at hl 1 rfl) ?_
    refine lv_ldc2 (v := (10 : Int64)) hx hb hown (hts _ zu_602) dX7_write_11 ?_
    obtain ⟨ho, h⟩ := h
    refine zr_Vl (As := [.int v1, .long (10 : Int64)]) (rest := [.int (48 : Int32), .int v2, .ref figure_2]) S hK hw (kX7_bySmall l lo g M v0 v1 (10 : Int64) _ h) (cwV 2 hts (zg_V zu_614 zu_615 zu_616 zu_450 zu_617) rfl rfl rfl (by decide +kernel) ⟨Nat.le_of_ble_eq_true rfl, Nat.le_of_ble_eq_true rfl⟩) (ci := 10) rfl ho rfl hl.1 rfl (Nat.le_of_ble_eq_true rfl) dX7_write_14 ⟨Nat.le_of_ble_eq_true rfl, Nat.le_of_ble_eq_true rfl⟩ (fun r4 M3 H locs hw h => ?_)
    refine lv_l2i hx hb dX7_write_17 rfl ?_
    refine lv_iadd hx hb dX7_write_18 ?_
    refine zr_iast S hK hw dX7_write_19 h (fun M5 H locs hw h => ?_)
    obtain ⟨x6, ex6⟩ : ∃ z : Int32, z = v2 + (1 : Int32) := ⟨_, rfl⟩
    have h := h x6 ex6
    refine lv_iinc (v := x6) (lv' := [(2, .int x6), (0, .ref v0), (1, .int v1)]) hx hb dX7_write_20 hl (k := 2) rfl (by rw [ex6]; rfl) (by decide) rfl (fun ls hl => ?_)
    refine lv_aload_n hx hb dX7_write_23 rfl (lv_at hl 1 rfl) ?_
    refine zr_ga (C := RX7) (T := TX7) (N := 14) (ci := 10) (k := 10) S hK hw zi_X7 rfl (by decide) zu_444 dX7_write_24 h (fun n_7 h => ?_)
    refine lv_iload_n hx hb dX7_write_27 rfl (lv_at hl 2 rfl) ?_
    refine zr_iald S hK hw dX7_write_28 h (fun e8 h => ?_)
    refine lv_if_gt (tgt := 2) hx hb dX7_write_29 (by decide) (fun hc => ?_) (fun hc => ?_)
    · have h := h.1 hc
      exact ih v0 v1 x6 _ h _ _ _ hw (lv_sub hl [1, 2, 0] rfl)
    · have h := h.2 hc
      exact hk32 v0 x6 _ h _ _ _ hw (lv_sub hl [1, 0] rfl)
set_option maxHeartbeats 4000000 in
set_option maxRecDepth 100000 in
theorem sX7_write_36 {p : Program} {l : Launch} {e : Env} {s : State} {m : MethodId} {args : Array Value} {below : List Frame} {meth : Method} {c : Code} {lo : Nat} {g : zg} {post : zm_M → Prop}  (S : CallFix p m c cX7_write 4 s args zU RX7) (hr : meth.sig.returnType = none) (hlocks : meth.locks = false) (hK : zk_K zNF zNM g s)  : ∀ (n : Nat) (v0 : Nat) (v3 : Int32) (M : zm_M), pX7_write_36 g.2 post  n v0 v3 M → ∀ (H : Heap) (locs : List Loc) (ls : Array Slot), zW lo g s H locs M → lv_has ls 4 [(0, .ref v0), (3, .int v3)] → W p l e ({ frames := 3, cells := 0, slots := 0, locals := 87 } : Room) s m args below meth c H locs 0 0 (MQ below (va_Qv post (zc_B lo g) (zA lo)) args s 0 0 (zA lo)) (F0 m 36 ls []) := by
  obtain ⟨hx, hb, hml, hown, hts⟩ := id S
  intro n
  induction n with
  | zero =>
    intro v0 v3 M h
    exact False.elim h
  | succ n36 ih =>
    intro v0 v3 M h H locs ls hw hl
    rw [pX7_write_36] at h
    refine lv_iload_n hx hb dX7_write_36 rfl (lv_at hl 1 rfl) ?_
    refine lv_if_lt (tgt := 56) hx hb dX7_write_37 (by decide) (fun hc => ?_) (fun hc => ?_)
    · have h := h.1 hc
      exact zr_rv S hr hlocks hw h dX7_write_56
    · have h := h.2 hc
      refine lv_aload_n hx hb dX7_write_40 rfl (lv_at hl 0 rfl) ?_
      refine lv_aload_n hx hb dX7_write_41 rfl (lv_at hl 0 rfl) ?_
      refine zr_ga (C := RX7) (T := TX7) (N := 14) (ci := 10) (k := 13) S hK hw zi_X7 rfl (by decide) zu_613 dX7_write_42 h (fun figure_13 h => ?_)
      refine lv_iload_n hx hb dX7_write_45 rfl (lv_at hl 1 rfl) ?_
      refine zr_iald S hK hw dX7_write_46 h (fun e14 h => ?_)
      obtain ⟨ho, h⟩ := h
      refine zr_Vv (As := [.int e14]) (rest := []) S hK hw (kX7_say l lo g M v0 e14 _ h) (cwV 1 hts (zg_V zu_618 zu_619 zu_620 zu_450 zu_621) rfl rfl rfl (by decide +kernel) ⟨Nat.le_of_ble_eq_true rfl, Nat.le_of_ble_eq_true rfl⟩) (ci := 10) rfl ho rfl hl.1 rfl (Nat.le_of_ble_eq_true rfl) dX7_write_47 ⟨Nat.le_of_ble_eq_true rfl, Nat.le_of_ble_eq_true rfl⟩ (fun M15 H locs hw h => ?_)
      obtain ⟨x16, ex16⟩ : ∃ z : Int32, z = v3 + (-1 : Int32) := ⟨_, rfl⟩
      have h := h x16 ex16
      refine lv_iinc (v := x16) (lv' := [(3, .int x16), (0, .ref v0)]) hx hb dX7_write_50 hl (k := 1) rfl (by rw [ex16]; rfl) (by decide) rfl (fun ls hl => ?_)
      refine lv_goto (tgt := 36) hx hb dX7_write_53 (by decide) ?_
      exact ih v0 x16 _ h _ _ _ hw (lv_sub hl [1, 0] rfl)
set_option maxHeartbeats 4000000 in
set_option maxRecDepth 100000 in
theorem kX7_write (l : Launch) (lo : Nat) (g : zg) (M : zm_M) (a0 : Nat) (a1 : Int32) (post : zm_M → Prop) (h : pX7_write g.2 a0 a1 post M) : Met l yX7_write (Cond.code yX7_write cX7_write 4 none :: zU) (({ frames := 3, cells := 0, slots := 0, locals := 87 } : Room)) (zc_P zNF zNM lo g M [.ref a0, .int a1]) (va_Qv post (zc_B lo g) (zA lo)) 0 0 (zA lo) := by
  refine Met.ofW (cc := cX7_write) (maxL := 4) (ret := none) (by decide) rfl ?_
  intro p e s m args below meth c s₁ B hml hv
  obtain ⟨rfl, hR, hK⟩ := hv
  have hts := atoms_spec (ws := Cond.code yX7_write cX7_write 4 none :: zU) B.pre
  have hts : ∀ w ∈ zU, w.before _ s = true := fun w hw => hts w (List.mem_cons_of_mem _ hw)
  have hown : s.vm.findClass RX7 = some m.cls := findClass_of_methodNamed B.named
  have hx := B.exec
  have hb := B.bytes
  have hr := B.returns
  have hlocks := B.notSynchronized
  have S : CallFix p m c cX7_write 4 s ([.ref a0, .int a1] : List Value).toArray zU RX7 := ⟨hx, hb, hml, hown, hts⟩
  have hw : zW lo g s s.heap [] M := ⟨hR, va_S.rf⟩
  have hl := lv_entry ([.ref a0, .int a1]) (n := 4) (Nat.le_of_ble_eq_true rfl)
  rw [lg_entry_eq]
  generalize (lg_sl ([.ref a0, .int a1]) ++ List.replicate (4 - (lg_sl ([.ref a0, .int a1])).length) Slot.unset).toArray = ls at hl ⊢
  have hl : lv_has ls 4 [(0, .ref a0), (1, .int a1)] := hl
  unfold pX7_write at h
  refine lv_iconst (v := (0 : Int32)) hx hb dX7_write_0 (by decide) ?_
  refine lv_topi (fun x1 ex1 => ?_)
  have h := h x1 ex1
  refine lv_istore_n (lv' := [(2, .int x1), (0, .ref a0), (1, .int a1)]) hx hb dX7_write_1 rfl hl (by decide) rfl (fun ls hl => ?_)
  obtain ⟨n2, h⟩ := h
  refine sX7_write_2 S hr hlocks hK (fun w9 w10 M11 h H locs ls hw hl => ?_) n2 a0 a1 x1 _ h _ _ _ hw (lv_sub hl [1, 2, 0] rfl)
  refine lv_iload_n hx hb dX7_write_32 rfl (lv_at hl 1 rfl) ?_
  refine lv_iconst (v := (1 : Int32)) hx hb dX7_write_33 (by decide) ?_
  refine lv_isub hx hb dX7_write_34 ?_
  refine lv_topi (fun x12 ex12 => ?_)
  have h := h x12 ex12
  refine lv_istore_n (lv' := [(3, .int x12), (0, .ref w9), (2, .int w10)]) hx hb dX7_write_35 rfl hl (by decide) rfl (fun ls hl => ?_)
  obtain ⟨n36, h⟩ := h
  refine sX7_write_36 S hr hlocks hK  n36 w9 x12 _ h _ _ _ hw (lv_sub hl [1, 0] rfl)
set_option maxHeartbeats 4000000 in
set_option maxRecDepth 100000 in
theorem sX7_text_35 {p : Program} {l : Launch} {e : Env} {s : State} {m : MethodId} {args : Array Value} {below : List Frame} {meth : Method} {c : Code} {lo : Nat} {g : zg} {post : Int32 → zm_M → Prop}  (S : CallFix p m c cX7_text 2 s args zU RX7) (hr : meth.sig.returnType = (some .int)) (hlocks : meth.locks = false) (hK : zk_K zNF zNM g s)  : ∀ (v0 : Nat) (v1 : Int32) (M : zm_M), pX7_text_35 g.2 post  v0 v1 M → ∀ (H : Heap) (locs : List Loc) (ls : Array Slot), zW lo g s H locs M → lv_has ls 2 [(0, .ref v0), (1, .int v1)] → W p l e ({ frames := 4, cells := 0, slots := 0, locals := 110 } : Room) s m args below meth c H locs 0 0 (MQ below (va_Qi post (zc_B lo g) (zA lo)) args s 0 0 (zA lo)) (F0 m 35 ls []) := by
  obtain ⟨hx, hb, hml, hown, hts⟩ := id S
  intro v0 v1 M h H locs ls hw hl
  unfold pX7_text_35 at h
  refine lv_aload_n hx hb dX7_text_35 rfl (lv_at hl 0 rfl) ?_
  refine lv_iconst (v := (2 : Int32)) hx hb dX7_text_36 (by decide) ?_
  refine lv_iload_n hx hb dX7_text_37 rfl (lv_at hl 1 rfl) ?_
  refine lv_iconst (v := (0 : Int32)) hx hb dX7_text_38 (by decide) ?_
  obtain ⟨ho, h⟩ := h
  refine zr_Vv (As := [.int (2 : Int32), .int v1, .int (0 : Int32)]) (rest := []) S hK hw (kX7_take l lo g M v0 (2 : Int32) v1 (0 : Int32) _ h) (cwV 3 hts (zg_V zu_521 zu_522 zu_523 zu_450 zu_524) rfl rfl rfl (by decide +kernel) ⟨Nat.le_of_ble_eq_true rfl, Nat.le_of_ble_eq_true rfl⟩) (ci := 10) rfl ho rfl hl.1 rfl (Nat.le_of_ble_eq_true rfl) dX7_text_39 ⟨Nat.le_of_ble_eq_true rfl, Nat.le_of_ble_eq_true rfl⟩ (fun M7 H locs hw h => ?_)
  refine lv_aload_n hx hb dX7_text_42 rfl (lv_at hl 0 rfl) ?_
  refine lv_iconst (v := (2 : Int32)) hx hb dX7_text_43 (by decide) ?_
  obtain ⟨ho, h⟩ := h
  refine zr_Vv (As := [.int (2 : Int32)]) (rest := []) S hK hw (kX7_write l lo g M7 v0 (2 : Int32) _ h) (cwV 1 hts (zg_V zu_622 zu_623 zu_624 zu_450 zu_625) rfl rfl rfl (by decide +kernel) ⟨Nat.le_of_ble_eq_true rfl, Nat.le_of_ble_eq_true rfl⟩) (ci := 10) rfl ho rfl hl.1 rfl (Nat.le_of_ble_eq_true rfl) dX7_text_44 ⟨Nat.le_of_ble_eq_true rfl, Nat.le_of_ble_eq_true rfl⟩ (fun M8 H locs hw h => ?_)
  refine lv_aload_n hx hb dX7_text_47 rfl (lv_at hl 0 rfl) ?_
  refine lv_iload_n hx hb dX7_text_48 rfl (lv_at hl 1 rfl) ?_
  obtain ⟨ho, h⟩ := h
  refine zr_Vi (As := [.int v1]) (rest := []) S hK hw (kX7_isWhole l lo g M8 v0 v1 _ h) (cwV 1 hts (zg_V zu_548 zu_549 zu_550 zu_450 zu_551) rfl rfl rfl (by decide +kernel) ⟨Nat.le_of_ble_eq_true rfl, Nat.le_of_ble_eq_true rfl⟩) (ci := 10) rfl ho rfl hl.1 rfl (Nat.le_of_ble_eq_true rfl) dX7_text_49 ⟨Nat.le_of_ble_eq_true rfl, Nat.le_of_ble_eq_true rfl⟩ (fun r10 M9 H locs hw h => ?_)
  refine lv_if_ne (tgt := 73) hx hb dX7_text_52 (by decide) (fun hc => ?_) (fun hc => ?_)
  · have h := h.1 hc
    refine lv_aload_n hx hb dX7_text_73 rfl (lv_at hl 0 rfl) ?_
    refine zr_gi (C := RX7) (T := TX7) (N := 14) (ci := 10) (k := 8) S hK hw zi_X7 rfl (by decide) zu_612 dX7_text_74 h (fun outMany_11 h => ?_)
    exact zr_ri S hr hlocks hw h dX7_text_77
  · have h := h.2 hc
    refine lv_aload_n hx hb dX7_text_55 rfl (lv_at hl 0 rfl) ?_
    refine lv_bipush (v := (47 : Int32)) hx hb dX7_text_56 (by decide) ?_
    obtain ⟨ho, h⟩ := h
    refine zr_Vv (As := [.int (47 : Int32)]) (rest := []) S hK hw (kX7_say l lo g M9 v0 (47 : Int32) _ h) (cwV 1 hts (zg_V zu_618 zu_619 zu_620 zu_450 zu_621) rfl rfl rfl (by decide +kernel) ⟨Nat.le_of_ble_eq_true rfl, Nat.le_of_ble_eq_true rfl⟩) (ci := 10) rfl ho rfl hl.1 rfl (Nat.le_of_ble_eq_true rfl) dX7_text_58 ⟨Nat.le_of_ble_eq_true rfl, Nat.le_of_ble_eq_true rfl⟩ (fun M12 H locs hw h => ?_)
    refine lv_aload_n hx hb dX7_text_61 rfl (lv_at hl 0 rfl) ?_
    refine lv_iconst (v := (2 : Int32)) hx hb dX7_text_62 (by decide) ?_
    refine lv_iload_n hx hb dX7_text_63 rfl (lv_at hl 1 rfl) ?_
    refine lv_iconst (v := (1 : Int32)) hx hb dX7_text_64 (by decide) ?_
    obtain ⟨ho, h⟩ := h
    refine zr_Vv (As := [.int (2 : Int32), .int v1, .int (1 : Int32)]) (rest := []) S hK hw (kX7_take l lo g M12 v0 (2 : Int32) v1 (1 : Int32) _ h) (cwV 3 hts (zg_V zu_521 zu_522 zu_523 zu_450 zu_524) rfl rfl rfl (by decide +kernel) ⟨Nat.le_of_ble_eq_true rfl, Nat.le_of_ble_eq_true rfl⟩) (ci := 10) rfl ho rfl hl.1 rfl (Nat.le_of_ble_eq_true rfl) dX7_text_65 ⟨Nat.le_of_ble_eq_true rfl, Nat.le_of_ble_eq_true rfl⟩ (fun M13 H locs hw h => ?_)
    refine lv_aload_n hx hb dX7_text_68 rfl (lv_at hl 0 rfl) ?_
    refine lv_iconst (v := (2 : Int32)) hx hb dX7_text_69 (by decide) ?_
    obtain ⟨ho, h⟩ := h
    refine zr_Vv (As := [.int (2 : Int32)]) (rest := []) S hK hw (kX7_write l lo g M13 v0 (2 : Int32) _ h) (cwV 1 hts (zg_V zu_622 zu_623 zu_624 zu_450 zu_625) rfl rfl rfl (by decide +kernel) ⟨Nat.le_of_ble_eq_true rfl, Nat.le_of_ble_eq_true rfl⟩) (ci := 10) rfl ho rfl hl.1 rfl (Nat.le_of_ble_eq_true rfl) dX7_text_70 ⟨Nat.le_of_ble_eq_true rfl, Nat.le_of_ble_eq_true rfl⟩ (fun M14 H locs hw h => ?_)
    refine lv_aload_n hx hb dX7_text_73 rfl (lv_at hl 0 rfl) ?_
    refine zr_gi (C := RX7) (T := TX7) (N := 14) (ci := 10) (k := 8) S hK hw zi_X7 rfl (by decide) zu_612 dX7_text_74 h (fun outMany_15 h => ?_)
    exact zr_ri S hr hlocks hw h dX7_text_77
set_option maxHeartbeats 4000000 in
set_option maxRecDepth 100000 in
theorem kX7_text (l : Launch) (lo : Nat) (g : zg) (M : zm_M) (a0 : Nat) (a1 : Int32) (post : Int32 → zm_M → Prop) (h : pX7_text g.2 a0 a1 post M) : Met l yX7_text (Cond.code yX7_text cX7_text 2 (some .int) :: zU) (({ frames := 4, cells := 0, slots := 0, locals := 110 } : Room)) (zc_P zNF zNM lo g M [.ref a0, .int a1]) (va_Qi post (zc_B lo g) (zA lo)) 0 0 (zA lo) := by
  refine Met.ofW (cc := cX7_text) (maxL := 2) (ret := (some .int)) (by decide) rfl ?_
  intro p e s m args below meth c s₁ B hml hv
  obtain ⟨rfl, hR, hK⟩ := hv
  have hts := atoms_spec (ws := Cond.code yX7_text cX7_text 2 (some .int) :: zU) B.pre
  have hts : ∀ w ∈ zU, w.before _ s = true := fun w hw => hts w (List.mem_cons_of_mem _ hw)
  have hown : s.vm.findClass RX7 = some m.cls := findClass_of_methodNamed B.named
  have hx := B.exec
  have hb := B.bytes
  have hr := B.returns
  have hlocks := B.notSynchronized
  have S : CallFix p m c cX7_text 2 s ([.ref a0, .int a1] : List Value).toArray zU RX7 := ⟨hx, hb, hml, hown, hts⟩
  have hw : zW lo g s s.heap [] M := ⟨hR, va_S.rf⟩
  have hl := lv_entry ([.ref a0, .int a1]) (n := 2) (Nat.le_of_ble_eq_true rfl)
  rw [lg_entry_eq]
  generalize (lg_sl ([.ref a0, .int a1]) ++ List.replicate (2 - (lg_sl ([.ref a0, .int a1])).length) Slot.unset).toArray = ls at hl ⊢
  have hl : lv_has ls 2 [(0, .ref a0), (1, .int a1)] := hl
  unfold pX7_text at h
  refine lv_aload_n hx hb dX7_text_0 rfl (lv_at hl 0 rfl) ?_
  refine lv_iconst (v := (0 : Int32)) hx hb dX7_text_1 (by decide) ?_
  refine zr_p (C := RX7) (T := TX7) (N := 14) (ci := 10) (k := 0) S hK hw zi_X7 tyX7 tyX7_ok nmX7 rfl (by decide) zu_443 rfl rfl rfl dX7_text_2 h (fun M1 H locs hw h => ?_)
  refine lv_aload_n hx hb dX7_text_5 rfl (lv_at hl 0 rfl) ?_
  refine lv_iload_n hx hb dX7_text_6 rfl (lv_at hl 1 rfl) ?_
  obtain ⟨ho, h⟩ := h
  refine zr_Vi (As := [.int a1]) (rest := []) S hK hw (kX7_isNumber l lo g M1 a0 a1 _ h) (cwV 1 hts (zg_V zu_517 zu_518 zu_519 zu_450 zu_520) rfl rfl rfl (by decide +kernel) ⟨Nat.le_of_ble_eq_true rfl, Nat.le_of_ble_eq_true rfl⟩) (ci := 10) rfl ho rfl hl.1 rfl (Nat.le_of_ble_eq_true rfl) dX7_text_7 ⟨Nat.le_of_ble_eq_true rfl, Nat.le_of_ble_eq_true rfl⟩ (fun r3 M2 H locs hw h => ?_)
  refine lv_if_ne (tgt := 15) hx hb dX7_text_10 (by decide) (fun hc => ?_) (fun hc => ?_)
  · have h := h.1 hc
    refine lv_aload_n hx hb dX7_text_15 rfl (lv_at hl 0 rfl) ?_
    refine lv_iconst (v := (0 : Int32)) hx hb dX7_text_16 (by decide) ?_
    refine zr_p (C := RX7) (T := TX7) (N := 14) (ci := 10) (k := 8) S hK hw zi_X7 tyX7 tyX7_ok nmX7 rfl (by decide) zu_612 rfl rfl rfl dX7_text_17 h (fun M4 H locs hw h => ?_)
    refine lv_aload_n hx hb dX7_text_20 rfl (lv_at hl 0 rfl) ?_
    refine zr_ga (C := RX7) (T := TX7) (N := 14) (ci := 10) (k := 2) S hK hw zi_X7 rfl (by decide) zu_496 dX7_text_21 h (fun sign_5 h => ?_)
    refine lv_iload_n hx hb dX7_text_24 rfl (lv_at hl 1 rfl) ?_
    refine zr_iald S hK hw dX7_text_25 h (fun e6 h => ?_)
    refine lv_if_ge (tgt := 35) hx hb dX7_text_26 (by decide) (fun hc => ?_) (fun hc => ?_)
    · have h := h.1 hc
      exact sX7_text_35 S hr hlocks hK  a0 a1 _ h _ _ _ hw (lv_sub hl [0, 1] rfl)
    · have h := h.2 hc
      refine lv_aload_n hx hb dX7_text_29 rfl (lv_at hl 0 rfl) ?_
      refine lv_bipush (v := (45 : Int32)) hx hb dX7_text_30 (by decide) ?_
      obtain ⟨ho, h⟩ := h
      refine zr_Vv (As := [.int (45 : Int32)]) (rest := []) S hK hw (kX7_say l lo g M4 a0 (45 : Int32) _ h) (cwV 1 hts (zg_V zu_618 zu_619 zu_620 zu_450 zu_621) rfl rfl rfl (by decide +kernel) ⟨Nat.le_of_ble_eq_true rfl, Nat.le_of_ble_eq_true rfl⟩) (ci := 10) rfl ho rfl hl.1 rfl (Nat.le_of_ble_eq_true rfl) dX7_text_32 ⟨Nat.le_of_ble_eq_true rfl, Nat.le_of_ble_eq_true rfl⟩ (fun M16 H locs hw h => ?_)
      exact sX7_text_35 S hr hlocks hK  a0 a1 _ h _ _ _ hw (lv_sub hl [0, 1] rfl)
  · have h := h.2 hc
    refine lv_iconst (v := (-1 : Int32)) hx hb dX7_text_13 (by decide) ?_
    exact zr_ri S hr hlocks hw h dX7_text_14
set_option maxHeartbeats 4000000 in
set_option maxRecDepth 100000 in
theorem sX7_figures_86 {p : Program} {l : Launch} {e : Env} {s : State} {m : MethodId} {args : Array Value} {below : List Frame} {meth : Method} {c : Code} {lo : Nat} {g : zg} {post : Int32 → zm_M → Prop}  (S : CallFix p m c cX7_figures 4 s args zU RX7) (hr : meth.sig.returnType = (some .int)) (hlocks : meth.locks = false) (hK : zk_K zNF zNM g s)  : ∀ (n : Nat) (v0 : Nat) (v2 : Int32) (v3 : Int32) (M : zm_M), pX7_figures_86 g.2 post  n v0 v2 v3 M → ∀ (H : Heap) (locs : List Loc) (ls : Array Slot), zW lo g s H locs M → lv_has ls 4 [(0, .ref v0), (2, .int v2), (3, .int v3)] → W p l e ({ frames := 4, cells := 0, slots := 0, locals := 112 } : Room) s m args below meth c H locs 0 0 (MQ below (va_Qi post (zc_B lo g) (zA lo)) args s 0 0 (zA lo)) (F0 m 86 ls []) := by
  obtain ⟨hx, hb, hml, hown, hts⟩ := id S
  intro n
  induction n with
  | zero =>
    intro v0 v2 v3 M h
    exact False.elim h
  | succ n86 ih =>
    intro v0 v2 v3 M h H locs ls hw hl
    rw [pX7_figures_86] at h
    refine lv_iload_n hx hb dX7_figures_86 rfl (lv_at hl 2 rfl) ?_
    refine lv_iload_n hx hb dX7_figures_87 rfl (lv_at hl 1 rfl) ?_
    refine lv_icmp_ge (tgt := 135) hx hb dX7_figures_88 (by decide) (fun hc => ?_) (fun hc => ?_)
    · have h := h.1 hc
      refine lv_aload_n hx hb dX7_figures_135 rfl (lv_at hl 0 rfl) ?_
      refine zr_gi (C := RX7) (T := TX7) (N := 14) (ci := 10) (k := 8) S hK hw zi_X7 rfl (by decide) zu_612 dX7_figures_136 h (fun outMany_14 h => ?_)
      exact zr_ri S hr hlocks hw h dX7_figures_139
    · have h := h.2 hc
      refine lv_aload_n hx hb dX7_figures_91 rfl (lv_at hl 0 rfl) ?_
      refine lv_iconst (v := (5 : Int32)) hx hb dX7_figures_92 (by decide) ?_
      refine lv_ldc2 (v := (10 : Int64)) hx hb hown (hts _ zu_602) dX7_figures_93 ?_
      refine lv_lconst (v := (0 : Int64)) hx hb dX7_figures_96 (by decide) ?_
      obtain ⟨ho, h⟩ := h
      refine zr_Vv (As := [.int (5 : Int32), .long (10 : Int64), .long (0 : Int64)]) (rest := []) S hK hw (kX7_timesSmall l lo g M v0 (5 : Int32) (10 : Int64) (0 : Int64) _ h) (cwV 3 hts (zg_V zu_603 zu_604 zu_605 zu_450 zu_606) rfl rfl rfl (by decide +kernel) ⟨Nat.le_of_ble_eq_true rfl, Nat.le_of_ble_eq_true rfl⟩) (ci := 10) rfl ho rfl hl.1 rfl (Nat.le_of_ble_eq_true rfl) dX7_figures_97 ⟨Nat.le_of_ble_eq_true rfl, Nat.le_of_ble_eq_true rfl⟩ (fun M15 H locs hw h => ?_)
      refine lv_aload_n hx hb dX7_figures_100 rfl (lv_at hl 0 rfl) ?_
      refine lv_iconst (v := (4 : Int32)) hx hb dX7_figures_101 (by decide) ?_
      refine lv_bipush (v := (6 : Int32)) hx hb dX7_figures_102 (by decide) ?_
      refine lv_iconst (v := (5 : Int32)) hx hb dX7_figures_104 (by decide) ?_
      refine lv_iconst (v := (3 : Int32)) hx hb dX7_figures_105 (by decide) ?_
      obtain ⟨ho, h⟩ := h
      refine zr_Vv (As := [.int (4 : Int32), .int (6 : Int32), .int (5 : Int32), .int (3 : Int32)]) (rest := []) S hK hw (kX7_divide l lo g M15 v0 (4 : Int32) (6 : Int32) (5 : Int32) (3 : Int32) _ h) (cwV 4 hts (zg_V zu_501 zu_502 zu_503 zu_450 zu_504) rfl rfl rfl (by decide +kernel) ⟨Nat.le_of_ble_eq_true rfl, Nat.le_of_ble_eq_true rfl⟩) (ci := 10) rfl ho rfl hl.1 rfl (Nat.le_of_ble_eq_true rfl) dX7_figures_106 ⟨Nat.le_of_ble_eq_true rfl, Nat.le_of_ble_eq_true rfl⟩ (fun M16 H locs hw h => ?_)
      refine lv_aload_n hx hb dX7_figures_109 rfl (lv_at hl 0 rfl) ?_
      refine lv_bipush (v := (48 : Int32)) hx hb dX7_figures_110 (by decide) ?_
      refine lv_aload_n hx hb dX7_figures_112 rfl (lv_at hl 0 rfl) ?_
      refine lv_iconst (v := (4 : Int32)) hx hb dX7_figures_113 (by decide) ?_
      obtain ⟨ho, h⟩ := h
      refine zr_Vl (As := [.int (4 : Int32)]) (rest := [.int (48 : Int32), .ref v0]) S hK hw (kX7_asLong l lo g M16 v0 (4 : Int32) _ h) (cwV 1 hts (zg_V zu_572 zu_573 zu_574 zu_450 zu_575) rfl rfl rfl (by decide +kernel) ⟨Nat.le_of_ble_eq_true rfl, Nat.le_of_ble_eq_true rfl⟩) (ci := 10) rfl ho rfl hl.1 rfl (Nat.le_of_ble_eq_true rfl) dX7_figures_114 ⟨Nat.le_of_ble_eq_true rfl, Nat.le_of_ble_eq_true rfl⟩ (fun r18 M17 H locs hw h => ?_)
      refine lv_l2i hx hb dX7_figures_117 rfl ?_
      refine lv_iadd hx hb dX7_figures_118 ?_
      obtain ⟨ho, h⟩ := h
      refine zr_Vv (As := [.int ((48 : Int32) + (r18.toInt32))]) (rest := []) S hK hw (kX7_say l lo g M17 v0 ((48 : Int32) + (r18.toInt32)) _ h) (cwV 1 hts (zg_V zu_618 zu_619 zu_620 zu_450 zu_621) rfl rfl rfl (by decide +kernel) ⟨Nat.le_of_ble_eq_true rfl, Nat.le_of_ble_eq_true rfl⟩) (ci := 10) rfl ho rfl hl.1 rfl (Nat.le_of_ble_eq_true rfl) dX7_figures_119 ⟨Nat.le_of_ble_eq_true rfl, Nat.le_of_ble_eq_true rfl⟩ (fun M19 H locs hw h => ?_)
      refine lv_aload_n hx hb dX7_figures_122 rfl (lv_at hl 0 rfl) ?_
      refine lv_iconst (v := (5 : Int32)) hx hb dX7_figures_123 (by decide) ?_
      refine lv_bipush (v := (6 : Int32)) hx hb dX7_figures_124 (by decide) ?_
      obtain ⟨ho, h⟩ := h
      refine zr_Vv (As := [.int (5 : Int32), .int (6 : Int32)]) (rest := []) S hK hw (kX7_copy l lo g M19 v0 (5 : Int32) (6 : Int32) _ h) (cwV 2 hts (zg_V zu_465 zu_466 zu_467 zu_450 zu_468) rfl rfl rfl (by decide +kernel) ⟨Nat.le_of_ble_eq_true rfl, Nat.le_of_ble_eq_true rfl⟩) (ci := 10) rfl ho rfl hl.1 rfl (Nat.le_of_ble_eq_true rfl) dX7_figures_126 ⟨Nat.le_of_ble_eq_true rfl, Nat.le_of_ble_eq_true rfl⟩ (fun M20 H locs hw h => ?_)
      obtain ⟨x21, ex21⟩ : ∃ z : Int32, z = v3 + (1 : Int32) := ⟨_, rfl⟩
      have h := h x21 ex21
      refine lv_iinc (v := x21) (lv' := [(3, .int x21), (0, .ref v0), (2, .int v2)]) hx hb dX7_figures_129 hl (k := 2) rfl (by rw [ex21]; rfl) (by decide) rfl (fun ls hl => ?_)
      refine lv_goto (tgt := 86) hx hb dX7_figures_132 (by decide) ?_
      exact ih v0 v2 x21 _ h _ _ _ hw (lv_sub hl [1, 2, 0] rfl)
set_option maxHeartbeats 4000000 in
set_option maxRecDepth 100000 in
theorem sX7_figures_47 {p : Program} {l : Launch} {e : Env} {s : State} {m : MethodId} {args : Array Value} {below : List Frame} {meth : Method} {c : Code} {lo : Nat} {g : zg} {post : Int32 → zm_M → Prop}  (S : CallFix p m c cX7_figures 4 s args zU RX7) (hr : meth.sig.returnType = (some .int)) (hlocks : meth.locks = false) (hK : zk_K zNF zNM g s)  : ∀ (v0 : Nat) (v1 : Int32) (v2 : Int32) (M : zm_M), pX7_figures_47 g.2 post  v0 v1 v2 M → ∀ (H : Heap) (locs : List Loc) (ls : Array Slot), zW lo g s H locs M → lv_has ls 4 [(0, .ref v0), (1, .int v1), (2, .int v2)] → W p l e ({ frames := 4, cells := 0, slots := 0, locals := 112 } : Room) s m args below meth c H locs 0 0 (MQ below (va_Qi post (zc_B lo g) (zA lo)) args s 0 0 (zA lo)) (F0 m 47 ls []) := by
  obtain ⟨hx, hb, hml, hown, hts⟩ := id S
  intro v0 v1 v2 M h H locs ls hw hl
  unfold pX7_figures_47 at h
  refine lv_aload_n hx hb dX7_figures_47 rfl (lv_at hl 0 rfl) ?_
  refine lv_iconst (v := (2 : Int32)) hx hb dX7_figures_48 (by decide) ?_
  refine lv_iload_n hx hb dX7_figures_49 rfl (lv_at hl 1 rfl) ?_
  refine lv_iconst (v := (0 : Int32)) hx hb dX7_figures_50 (by decide) ?_
  obtain ⟨ho, h⟩ := h
  refine zr_Vv (As := [.int (2 : Int32), .int v1, .int (0 : Int32)]) (rest := []) S hK hw (kX7_take l lo g M v0 (2 : Int32) v1 (0 : Int32) _ h) (cwV 3 hts (zg_V zu_521 zu_522 zu_523 zu_450 zu_524) rfl rfl rfl (by decide +kernel) ⟨Nat.le_of_ble_eq_true rfl, Nat.le_of_ble_eq_true rfl⟩) (ci := 10) rfl ho rfl hl.1 rfl (Nat.le_of_ble_eq_true rfl) dX7_figures_51 ⟨Nat.le_of_ble_eq_true rfl, Nat.le_of_ble_eq_true rfl⟩ (fun M9 H locs hw h => ?_)
  refine lv_aload_n hx hb dX7_figures_54 rfl (lv_at hl 0 rfl) ?_
  refine lv_iconst (v := (3 : Int32)) hx hb dX7_figures_55 (by decide) ?_
  refine lv_iload_n hx hb dX7_figures_56 rfl (lv_at hl 1 rfl) ?_
  refine lv_iconst (v := (1 : Int32)) hx hb dX7_figures_57 (by decide) ?_
  obtain ⟨ho, h⟩ := h
  refine zr_Vv (As := [.int (3 : Int32), .int v1, .int (1 : Int32)]) (rest := []) S hK hw (kX7_take l lo g M9 v0 (3 : Int32) v1 (1 : Int32) _ h) (cwV 3 hts (zg_V zu_521 zu_522 zu_523 zu_450 zu_524) rfl rfl rfl (by decide +kernel) ⟨Nat.le_of_ble_eq_true rfl, Nat.le_of_ble_eq_true rfl⟩) (ci := 10) rfl ho rfl hl.1 rfl (Nat.le_of_ble_eq_true rfl) dX7_figures_58 ⟨Nat.le_of_ble_eq_true rfl, Nat.le_of_ble_eq_true rfl⟩ (fun M10 H locs hw h => ?_)
  refine lv_aload_n hx hb dX7_figures_61 rfl (lv_at hl 0 rfl) ?_
  refine lv_iconst (v := (4 : Int32)) hx hb dX7_figures_62 (by decide) ?_
  refine lv_iconst (v := (5 : Int32)) hx hb dX7_figures_63 (by decide) ?_
  refine lv_iconst (v := (2 : Int32)) hx hb dX7_figures_64 (by decide) ?_
  refine lv_iconst (v := (3 : Int32)) hx hb dX7_figures_65 (by decide) ?_
  obtain ⟨ho, h⟩ := h
  refine zr_Vv (As := [.int (4 : Int32), .int (5 : Int32), .int (2 : Int32), .int (3 : Int32)]) (rest := []) S hK hw (kX7_divide l lo g M10 v0 (4 : Int32) (5 : Int32) (2 : Int32) (3 : Int32) _ h) (cwV 4 hts (zg_V zu_501 zu_502 zu_503 zu_450 zu_504) rfl rfl rfl (by decide +kernel) ⟨Nat.le_of_ble_eq_true rfl, Nat.le_of_ble_eq_true rfl⟩) (ci := 10) rfl ho rfl hl.1 rfl (Nat.le_of_ble_eq_true rfl) dX7_figures_66 ⟨Nat.le_of_ble_eq_true rfl, Nat.le_of_ble_eq_true rfl⟩ (fun M11 H locs hw h => ?_)
  refine lv_aload_n hx hb dX7_figures_69 rfl (lv_at hl 0 rfl) ?_
  refine lv_iconst (v := (4 : Int32)) hx hb dX7_figures_70 (by decide) ?_
  obtain ⟨ho, h⟩ := h
  refine zr_Vv (As := [.int (4 : Int32)]) (rest := []) S hK hw (kX7_write l lo g M11 v0 (4 : Int32) _ h) (cwV 1 hts (zg_V zu_622 zu_623 zu_624 zu_450 zu_625) rfl rfl rfl (by decide +kernel) ⟨Nat.le_of_ble_eq_true rfl, Nat.le_of_ble_eq_true rfl⟩) (ci := 10) rfl ho rfl hl.1 rfl (Nat.le_of_ble_eq_true rfl) dX7_figures_71 ⟨Nat.le_of_ble_eq_true rfl, Nat.le_of_ble_eq_true rfl⟩ (fun M12 H locs hw h => ?_)
  refine lv_iload_n hx hb dX7_figures_74 rfl (lv_at hl 2 rfl) ?_
  refine lv_if_le (tgt := 84) hx hb dX7_figures_75 (by decide) (fun hc => ?_) (fun hc => ?_)
  · have h := h.1 hc
    refine lv_iconst (v := (0 : Int32)) hx hb dX7_figures_84 (by decide) ?_
    refine lv_topi (fun x13 ex13 => ?_)
    have h := h x13 ex13
    refine lv_istore_n (lv' := [(3, .int x13), (0, .ref v0), (1, .int v1), (2, .int v2)]) hx hb dX7_figures_85 rfl hl (by decide) rfl (fun ls hl => ?_)
    obtain ⟨n86, h⟩ := h
    refine sX7_figures_86 S hr hlocks hK  n86 v0 v2 x13 _ h _ _ _ hw (lv_sub hl [1, 3, 0] rfl)
  · have h := h.2 hc
    refine lv_aload_n hx hb dX7_figures_78 rfl (lv_at hl 0 rfl) ?_
    refine lv_bipush (v := (46 : Int32)) hx hb dX7_figures_79 (by decide) ?_
    obtain ⟨ho, h⟩ := h
    refine zr_Vv (As := [.int (46 : Int32)]) (rest := []) S hK hw (kX7_say l lo g M12 v0 (46 : Int32) _ h) (cwV 1 hts (zg_V zu_618 zu_619 zu_620 zu_450 zu_621) rfl rfl rfl (by decide +kernel) ⟨Nat.le_of_ble_eq_true rfl, Nat.le_of_ble_eq_true rfl⟩) (ci := 10) rfl ho rfl hl.1 rfl (Nat.le_of_ble_eq_true rfl) dX7_figures_81 ⟨Nat.le_of_ble_eq_true rfl, Nat.le_of_ble_eq_true rfl⟩ (fun M22 H locs hw h => ?_)
    refine lv_iconst (v := (0 : Int32)) hx hb dX7_figures_84 (by decide) ?_
    refine lv_topi (fun x23 ex23 => ?_)
    have h := h x23 ex23
    refine lv_istore_n (lv' := [(3, .int x23), (0, .ref v0), (1, .int v1), (2, .int v2)]) hx hb dX7_figures_85 rfl hl (by decide) rfl (fun ls hl => ?_)
    obtain ⟨n86, h⟩ := h
    refine sX7_figures_86 S hr hlocks hK  n86 v0 v2 x23 _ h _ _ _ hw (lv_sub hl [1, 3, 0] rfl)
set_option maxHeartbeats 4000000 in
set_option maxRecDepth 100000 in
theorem kX7_figures (l : Launch) (lo : Nat) (g : zg) (M : zm_M) (a0 : Nat) (a1 : Int32) (a2 : Int32) (post : Int32 → zm_M → Prop) (h : pX7_figures g.2 a0 a1 a2 post M) : Met l yX7_figures (Cond.code yX7_figures cX7_figures 4 (some .int) :: zU) (({ frames := 4, cells := 0, slots := 0, locals := 112 } : Room)) (zc_P zNF zNM lo g M [.ref a0, .int a1, .int a2]) (va_Qi post (zc_B lo g) (zA lo)) 0 0 (zA lo) := by
  refine Met.ofW (cc := cX7_figures) (maxL := 4) (ret := (some .int)) (by decide) rfl ?_
  intro p e s m args below meth c s₁ B hml hv
  obtain ⟨rfl, hR, hK⟩ := hv
  have hts := atoms_spec (ws := Cond.code yX7_figures cX7_figures 4 (some .int) :: zU) B.pre
  have hts : ∀ w ∈ zU, w.before _ s = true := fun w hw => hts w (List.mem_cons_of_mem _ hw)
  have hown : s.vm.findClass RX7 = some m.cls := findClass_of_methodNamed B.named
  have hx := B.exec
  have hb := B.bytes
  have hr := B.returns
  have hlocks := B.notSynchronized
  have S : CallFix p m c cX7_figures 4 s ([.ref a0, .int a1, .int a2] : List Value).toArray zU RX7 := ⟨hx, hb, hml, hown, hts⟩
  have hw : zW lo g s s.heap [] M := ⟨hR, va_S.rf⟩
  have hl := lv_entry ([.ref a0, .int a1, .int a2]) (n := 4) (Nat.le_of_ble_eq_true rfl)
  rw [lg_entry_eq]
  generalize (lg_sl ([.ref a0, .int a1, .int a2]) ++ List.replicate (4 - (lg_sl ([.ref a0, .int a1, .int a2])).length) Slot.unset).toArray = ls at hl ⊢
  have hl : lv_has ls 4 [(0, .ref a0), (1, .int a1), (2, .int a2)] := hl
  unfold pX7_figures at h
  refine lv_aload_n hx hb dX7_figures_0 rfl (lv_at hl 0 rfl) ?_
  refine lv_iconst (v := (0 : Int32)) hx hb dX7_figures_1 (by decide) ?_
  refine zr_p (C := RX7) (T := TX7) (N := 14) (ci := 10) (k := 0) S hK hw zi_X7 tyX7 tyX7_ok nmX7 rfl (by decide) zu_443 rfl rfl rfl dX7_figures_2 h (fun M1 H locs hw h => ?_)
  refine lv_aload_n hx hb dX7_figures_5 rfl (lv_at hl 0 rfl) ?_
  refine lv_iload_n hx hb dX7_figures_6 rfl (lv_at hl 1 rfl) ?_
  obtain ⟨ho, h⟩ := h
  refine zr_Vi (As := [.int a1]) (rest := []) S hK hw (kX7_isNumber l lo g M1 a0 a1 _ h) (cwV 1 hts (zg_V zu_517 zu_518 zu_519 zu_450 zu_520) rfl rfl rfl (by decide +kernel) ⟨Nat.le_of_ble_eq_true rfl, Nat.le_of_ble_eq_true rfl⟩) (ci := 10) rfl ho rfl hl.1 rfl (Nat.le_of_ble_eq_true rfl) dX7_figures_7 ⟨Nat.le_of_ble_eq_true rfl, Nat.le_of_ble_eq_true rfl⟩ (fun r3 M2 H locs hw h => ?_)
  refine lv_if_eq (tgt := 25) hx hb dX7_figures_10 (by decide) (fun hc => ?_) (fun hc => ?_)
  · have h := h.1 hc
    refine lv_iconst (v := (-1 : Int32)) hx hb dX7_figures_25 (by decide) ?_
    exact zr_ri S hr hlocks hw h dX7_figures_26
  · have h := h.2 hc
    refine lv_iload_n hx hb dX7_figures_13 rfl (lv_at hl 2 rfl) ?_
    refine lv_i2l hx hb dX7_figures_14 rfl ?_
    refine lv_lconst (v := (0 : Int64)) hx hb dX7_figures_15 (by decide) ?_
    refine lv_ldc2 (v := (100 : Int64)) hx hb hown (hts _ zu_626) dX7_figures_16 ?_
    refine zr_Si (As := [.long (a2.toInt64), .long (0 : Int64), .long (100 : Int64)]) (rest := []) S hK hw (kX7_in l lo g M2 (a2.toInt64) (0 : Int64) (100 : Int64) _ h) (va_cwS 3 hts (zg_S zu_482 zu_483 zu_450 zu_484) rfl rfl rfl (by decide +kernel) ⟨Nat.le_of_ble_eq_true rfl, Nat.le_of_ble_eq_true rfl⟩) rfl hl.1 rfl (Nat.le_of_ble_eq_true rfl) dX7_figures_19 ⟨Nat.le_of_ble_eq_true rfl, Nat.le_of_ble_eq_true rfl⟩ (fun r5 M4 H locs hw h => ?_)
    refine lv_if_ne (tgt := 27) hx hb dX7_figures_22 (by decide) (fun hc => ?_) (fun hc => ?_)
    · have h := h.1 hc
      refine lv_aload_n hx hb dX7_figures_27 rfl (lv_at hl 0 rfl) ?_
      refine lv_iconst (v := (0 : Int32)) hx hb dX7_figures_28 (by decide) ?_
      refine zr_p (C := RX7) (T := TX7) (N := 14) (ci := 10) (k := 8) S hK hw zi_X7 tyX7 tyX7_ok nmX7 rfl (by decide) zu_612 rfl rfl rfl dX7_figures_29 h (fun M6 H locs hw h => ?_)
      refine lv_aload_n hx hb dX7_figures_32 rfl (lv_at hl 0 rfl) ?_
      refine zr_ga (C := RX7) (T := TX7) (N := 14) (ci := 10) (k := 2) S hK hw zi_X7 rfl (by decide) zu_496 dX7_figures_33 h (fun sign_7 h => ?_)
      refine lv_iload_n hx hb dX7_figures_36 rfl (lv_at hl 1 rfl) ?_
      refine zr_iald S hK hw dX7_figures_37 h (fun e8 h => ?_)
      refine lv_if_ge (tgt := 47) hx hb dX7_figures_38 (by decide) (fun hc => ?_) (fun hc => ?_)
      · have h := h.1 hc
        exact sX7_figures_47 S hr hlocks hK  a0 a1 a2 _ h _ _ _ hw (lv_sub hl [0, 1, 2] rfl)
      · have h := h.2 hc
        refine lv_aload_n hx hb dX7_figures_41 rfl (lv_at hl 0 rfl) ?_
        refine lv_bipush (v := (45 : Int32)) hx hb dX7_figures_42 (by decide) ?_
        obtain ⟨ho, h⟩ := h
        refine zr_Vv (As := [.int (45 : Int32)]) (rest := []) S hK hw (kX7_say l lo g M6 a0 (45 : Int32) _ h) (cwV 1 hts (zg_V zu_618 zu_619 zu_620 zu_450 zu_621) rfl rfl rfl (by decide +kernel) ⟨Nat.le_of_ble_eq_true rfl, Nat.le_of_ble_eq_true rfl⟩) (ci := 10) rfl ho rfl hl.1 rfl (Nat.le_of_ble_eq_true rfl) dX7_figures_44 ⟨Nat.le_of_ble_eq_true rfl, Nat.le_of_ble_eq_true rfl⟩ (fun M24 H locs hw h => ?_)
        exact sX7_figures_47 S hr hlocks hK  a0 a1 a2 _ h _ _ _ hw (lv_sub hl [0, 1, 2] rfl)
    · have h := h.2 hc
      refine lv_iconst (v := (-1 : Int32)) hx hb dX7_figures_25 (by decide) ?_
      exact zr_ri S hr hlocks hw h dX7_figures_26
set_option maxHeartbeats 4000000 in
set_option maxRecDepth 100000 in
theorem kX7_out (l : Launch) (lo : Nat) (g : zg) (M : zm_M) (a0 : Nat) (a1 : Int32) (post : Int32 → zm_M → Prop) (h : pX7_out g.2 a0 a1 post M) : Met l yX7_out (Cond.code yX7_out cX7_out 2 (some .int) :: zU) (({ frames := 2, cells := 0, slots := 0, locals := 65 } : Room)) (zc_P zNF zNM lo g M [.ref a0, .int a1]) (va_Qi post (zc_B lo g) (zA lo)) 0 0 (zA lo) := by
  refine Met.ofW (cc := cX7_out) (maxL := 2) (ret := (some .int)) (by decide) rfl ?_
  intro p e s m args below meth c s₁ B hml hv
  obtain ⟨rfl, hR, hK⟩ := hv
  have hts := atoms_spec (ws := Cond.code yX7_out cX7_out 2 (some .int) :: zU) B.pre
  have hts : ∀ w ∈ zU, w.before _ s = true := fun w hw => hts w (List.mem_cons_of_mem _ hw)
  have hown : s.vm.findClass RX7 = some m.cls := findClass_of_methodNamed B.named
  have hx := B.exec
  have hb := B.bytes
  have hr := B.returns
  have hlocks := B.notSynchronized
  have S : CallFix p m c cX7_out 2 s ([.ref a0, .int a1] : List Value).toArray zU RX7 := ⟨hx, hb, hml, hown, hts⟩
  have hw : zW lo g s s.heap [] M := ⟨hR, va_S.rf⟩
  have hl := lv_entry ([.ref a0, .int a1]) (n := 2) (Nat.le_of_ble_eq_true rfl)
  rw [lg_entry_eq]
  generalize (lg_sl ([.ref a0, .int a1]) ++ List.replicate (2 - (lg_sl ([.ref a0, .int a1])).length) Slot.unset).toArray = ls at hl ⊢
  have hl : lv_has ls 2 [(0, .ref a0), (1, .int a1)] := hl
  unfold pX7_out at h
  refine lv_aload_n hx hb dX7_out_0 rfl (lv_at hl 0 rfl) ?_
  refine lv_iconst (v := (0 : Int32)) hx hb dX7_out_1 (by decide) ?_
  refine zr_p (C := RX7) (T := TX7) (N := 14) (ci := 10) (k := 0) S hK hw zi_X7 tyX7 tyX7_ok nmX7 rfl (by decide) zu_443 rfl rfl rfl dX7_out_2 h (fun M1 H locs hw h => ?_)
  refine lv_iload_n hx hb dX7_out_5 rfl (lv_at hl 1 rfl) ?_
  refine lv_i2l hx hb dX7_out_6 rfl ?_
  refine lv_lconst (v := (0 : Int64)) hx hb dX7_out_7 (by decide) ?_
  refine lv_aload_n hx hb dX7_out_8 rfl (lv_at hl 0 rfl) ?_
  refine zr_gi (C := RX7) (T := TX7) (N := 14) (ci := 10) (k := 8) S hK hw zi_X7 rfl (by decide) zu_612 dX7_out_9 h (fun outMany_2 h => ?_)
  refine lv_iconst (v := (1 : Int32)) hx hb dX7_out_12 (by decide) ?_
  refine lv_isub hx hb dX7_out_13 ?_
  refine lv_i2l hx hb dX7_out_14 rfl ?_
  refine zr_Si (As := [.long (a1.toInt64), .long (0 : Int64), .long ((outMany_2 - (1 : Int32)).toInt64)]) (rest := []) S hK hw (kX7_in l lo g M1 (a1.toInt64) (0 : Int64) ((outMany_2 - (1 : Int32)).toInt64) _ h) (va_cwS 3 hts (zg_S zu_482 zu_483 zu_450 zu_484) rfl rfl rfl (by decide +kernel) ⟨Nat.le_of_ble_eq_true rfl, Nat.le_of_ble_eq_true rfl⟩) rfl hl.1 rfl (Nat.le_of_ble_eq_true rfl) dX7_out_15 ⟨Nat.le_of_ble_eq_true rfl, Nat.le_of_ble_eq_true rfl⟩ (fun r4 M3 H locs hw h => ?_)
  refine lv_if_eq (tgt := 30) hx hb dX7_out_18 (by decide) (fun hc => ?_) (fun hc => ?_)
  · have h := h.1 hc
    refine lv_bipush (v := (-5 : Int32)) hx hb dX7_out_30 (by decide) ?_
    exact zr_ri S hr hlocks hw h dX7_out_32
  · have h := h.2 hc
    refine lv_aload_n hx hb dX7_out_21 rfl (lv_at hl 0 rfl) ?_
    refine zr_ga (C := RX7) (T := TX7) (N := 14) (ci := 10) (k := 7) S hK hw zi_X7 rfl (by decide) zu_611 dX7_out_22 h (fun out_5 h => ?_)
    refine lv_iload_n hx hb dX7_out_25 rfl (lv_at hl 1 rfl) ?_
    refine zr_iald S hK hw dX7_out_26 h (fun e6 h => ?_)
    refine lv_goto (tgt := 32) hx hb dX7_out_27 (by decide) ?_
    exact zr_ri S hr hlocks hw h dX7_out_32
set_option maxHeartbeats 4000000 in
set_option maxRecDepth 100000 in
theorem sX7_period_34 {p : Program} {l : Launch} {e : Env} {s : State} {m : MethodId} {args : Array Value} {below : List Frame} {meth : Method} {c : Code} {lo : Nat} {g : zg} {post : Int32 → zm_M → Prop} {k53 : Nat → Int32 → Int32 → zm_M → Prop} (S : CallFix p m c cX7_period 10 s args zU RX7) (hr : meth.sig.returnType = (some .int)) (hlocks : meth.locks = false) (hK : zk_K zNF zNM g s) (hk53 : ∀ (v0 : Nat) (v2 : Int32) (v3 : Int32) (M : zm_M), k53 v0 v2 v3 M → ∀ (H : Heap) (locs : List Loc) (ls : Array Slot), zW lo g s H locs M → lv_has ls 10 [(0, .ref v0), (2, .int v2), (3, .int v3)] → W p l e ({ frames := 3, cells := 0, slots := 0, locals := 87 } : Room) s m args below meth c H locs 0 0 (MQ below (va_Qi post (zc_B lo g) (zA lo)) args s 0 0 (zA lo)) (F0 m 53 ls [])) : ∀ (n : Nat) (v0 : Nat) (v2 : Int32) (v3 : Int32) (M : zm_M), pX7_period_34 g.2 post k53 n v0 v2 v3 M → ∀ (H : Heap) (locs : List Loc) (ls : Array Slot), zW lo g s H locs M → lv_has ls 10 [(0, .ref v0), (2, .int v2), (3, .int v3)] → W p l e ({ frames := 3, cells := 0, slots := 0, locals := 87 } : Room) s m args below meth c H locs 0 0 (MQ below (va_Qi post (zc_B lo g) (zA lo)) args s 0 0 (zA lo)) (F0 m 34 ls []) := by
  obtain ⟨hx, hb, hml, hown, hts⟩ := id S
  intro n
  induction n with
  | zero =>
    intro v0 v2 v3 M h
    exact False.elim h
  | succ n34 ih =>
    intro v0 v2 v3 M h H locs ls hw hl
    rw [pX7_period_34] at h
    refine lv_aload_n hx hb dX7_period_34 rfl (lv_at hl 0 rfl) ?_
    refine lv_iconst (v := (2 : Int32)) hx hb dX7_period_35 (by decide) ?_
    obtain ⟨ho, h⟩ := h
    refine zr_Vi (As := [.int (2 : Int32)]) (rest := []) S hK hw (kX7_isOdd l lo g M v0 (2 : Int32) _ h) (cwV 1 hts (zg_V zu_469 zu_470 zu_471 zu_450 zu_472) rfl rfl rfl (by decide +kernel) ⟨Nat.le_of_ble_eq_true rfl, Nat.le_of_ble_eq_true rfl⟩) (ci := 10) rfl ho rfl hl.1 rfl (Nat.le_of_ble_eq_true rfl) dX7_period_36 ⟨Nat.le_of_ble_eq_true rfl, Nat.le_of_ble_eq_true rfl⟩ (fun r9 M8 H locs hw h => ?_)
    refine lv_if_ne (tgt := 53) hx hb dX7_period_39 (by decide) (fun hc => ?_) (fun hc => ?_)
    · have h := h.1 hc
      exact hk53 v0 v2 v3 _ h _ _ _ hw (lv_sub hl [0, 1, 2] rfl)
    · have h := h.2 hc
      refine lv_aload_n hx hb dX7_period_42 rfl (lv_at hl 0 rfl) ?_
      refine lv_iconst (v := (2 : Int32)) hx hb dX7_period_43 (by decide) ?_
      obtain ⟨ho, h⟩ := h
      refine zr_Vv (As := [.int (2 : Int32)]) (rest := []) S hK hw (kX7_half l lo g M8 v0 (2 : Int32) _ h) (cwV 1 hts (zg_V zu_473 zu_474 zu_475 zu_450 zu_476) rfl rfl rfl (by decide +kernel) ⟨Nat.le_of_ble_eq_true rfl, Nat.le_of_ble_eq_true rfl⟩) (ci := 10) rfl ho rfl hl.1 rfl (Nat.le_of_ble_eq_true rfl) dX7_period_44 ⟨Nat.le_of_ble_eq_true rfl, Nat.le_of_ble_eq_true rfl⟩ (fun M10 H locs hw h => ?_)
      obtain ⟨x11, ex11⟩ : ∃ z : Int32, z = v3 + (1 : Int32) := ⟨_, rfl⟩
      have h := h x11 ex11
      refine lv_iinc (v := x11) (lv' := [(3, .int x11), (0, .ref v0), (2, .int v2)]) hx hb dX7_period_47 hl (k := 2) rfl (by rw [ex11]; rfl) (by decide) rfl (fun ls hl => ?_)
      refine lv_goto (tgt := 34) hx hb dX7_period_50 (by decide) ?_
      exact ih v0 v2 x11 _ h _ _ _ hw (lv_sub hl [1, 2, 0] rfl)
set_option maxHeartbeats 4000000 in
set_option maxRecDepth 100000 in
theorem sX7_period_62 {p : Program} {l : Launch} {e : Env} {s : State} {m : MethodId} {args : Array Value} {below : List Frame} {meth : Method} {c : Code} {lo : Nat} {g : zg} {post : Int32 → zm_M → Prop} {k87 : Nat → Int32 → Int32 → Int32 → zm_M → Prop} (S : CallFix p m c cX7_period 10 s args zU RX7) (hr : meth.sig.returnType = (some .int)) (hlocks : meth.locks = false) (hK : zk_K zNF zNM g s) (hk87 : ∀ (v0 : Nat) (v2 : Int32) (v3 : Int32) (v4 : Int32) (M : zm_M), k87 v0 v2 v3 v4 M → ∀ (H : Heap) (locs : List Loc) (ls : Array Slot), zW lo g s H locs M → lv_has ls 10 [(0, .ref v0), (2, .int v2), (3, .int v3), (4, .int v4)] → W p l e ({ frames := 3, cells := 0, slots := 0, locals := 87 } : Room) s m args below meth c H locs 0 0 (MQ below (va_Qi post (zc_B lo g) (zA lo)) args s 0 0 (zA lo)) (F0 m 87 ls [])) : ∀ (n : Nat) (v0 : Nat) (v2 : Int32) (v3 : Int32) (v4 : Int32) (M : zm_M), pX7_period_62 g.2 post k87 n v0 v2 v3 v4 M → ∀ (H : Heap) (locs : List Loc) (ls : Array Slot), zW lo g s H locs M → lv_has ls 10 [(0, .ref v0), (2, .int v2), (3, .int v3), (4, .int v4)] → W p l e ({ frames := 3, cells := 0, slots := 0, locals := 87 } : Room) s m args below meth c H locs 0 0 (MQ below (va_Qi post (zc_B lo g) (zA lo)) args s 0 0 (zA lo)) (F0 m 62 ls []) := by
  obtain ⟨hx, hb, hml, hown, hts⟩ := id S
  intro n
  induction n with
  | zero =>
    intro v0 v2 v3 v4 M h
    exact False.elim h
  | succ n62 ih =>
    intro v0 v2 v3 v4 M h H locs ls hw hl
    rw [pX7_period_62] at h
    refine lv_aload_n hx hb dX7_period_62 rfl (lv_at hl 0 rfl) ?_
    refine lv_iconst (v := (3 : Int32)) hx hb dX7_period_63 (by decide) ?_
    refine lv_ldc2 (v := (5 : Int64)) hx hb hown (hts _ zu_627) dX7_period_64 ?_
    obtain ⟨ho, h⟩ := h
    refine zr_Vl (As := [.int (3 : Int32), .long (5 : Int64)]) (rest := []) S hK hw (kX7_bySmall l lo g M v0 (3 : Int32) (5 : Int64) _ h) (cwV 2 hts (zg_V zu_614 zu_615 zu_616 zu_450 zu_617) rfl rfl rfl (by decide +kernel) ⟨Nat.le_of_ble_eq_true rfl, Nat.le_of_ble_eq_true rfl⟩) (ci := 10) rfl ho rfl hl.1 rfl (Nat.le_of_ble_eq_true rfl) dX7_period_67 ⟨Nat.le_of_ble_eq_true rfl, Nat.le_of_ble_eq_true rfl⟩ (fun r19 M18 H locs hw h => ?_)
    refine lv_lconst (v := (0 : Int64)) hx hb dX7_period_70 (by decide) ?_
    refine W.lcmp hx hb dX7_period_71 ?_
    refine lv_if_ne (tgt := 87) hx hb dX7_period_72 (by decide) (fun hc => ?_) (fun hc => ?_)
    · have h := h.1 (fun q => hc (zc_eq.mpr q))
      exact hk87 v0 v2 v3 v4 _ h _ _ _ hw (lv_sub hl [0, 1, 2, 3] rfl)
    · have h := h.2 (zc_eq.mp hc)
      refine lv_aload_n hx hb dX7_period_75 rfl (lv_at hl 0 rfl) ?_
      refine lv_iconst (v := (2 : Int32)) hx hb dX7_period_76 (by decide) ?_
      refine lv_iconst (v := (3 : Int32)) hx hb dX7_period_77 (by decide) ?_
      obtain ⟨ho, h⟩ := h
      refine zr_Vv (As := [.int (2 : Int32), .int (3 : Int32)]) (rest := []) S hK hw (kX7_copy l lo g M18 v0 (2 : Int32) (3 : Int32) _ h) (cwV 2 hts (zg_V zu_465 zu_466 zu_467 zu_450 zu_468) rfl rfl rfl (by decide +kernel) ⟨Nat.le_of_ble_eq_true rfl, Nat.le_of_ble_eq_true rfl⟩) (ci := 10) rfl ho rfl hl.1 rfl (Nat.le_of_ble_eq_true rfl) dX7_period_78 ⟨Nat.le_of_ble_eq_true rfl, Nat.le_of_ble_eq_true rfl⟩ (fun M20 H locs hw h => ?_)
      obtain ⟨x21, ex21⟩ : ∃ z : Int32, z = v4 + (1 : Int32) := ⟨_, rfl⟩
      have h := h x21 ex21
      refine lv_iinc (v := x21) (lv' := [(4, .int x21), (0, .ref v0), (2, .int v2), (3, .int v3)]) hx hb dX7_period_81 hl (k := 3) rfl (by rw [ex21]; rfl) (by decide) rfl (fun ls hl => ?_)
      refine lv_goto (tgt := 62) hx hb dX7_period_84 (by decide) ?_
      exact ih v0 v2 v3 x21 _ h _ _ _ hw (lv_sub hl [1, 2, 3, 0] rfl)
set_option maxHeartbeats 4000000 in
set_option maxRecDepth 100000 in
theorem sX7_period_162 {p : Program} {l : Launch} {e : Env} {s : State} {m : MethodId} {args : Array Value} {below : List Frame} {meth : Method} {c : Code} {lo : Nat} {g : zg} {post : Int32 → zm_M → Prop}  (S : CallFix p m c cX7_period 10 s args zU RX7) (hr : meth.sig.returnType = (some .int)) (hlocks : meth.locks = false) (hK : zk_K zNF zNM g s)  : ∀ (n : Nat) (v5 : Int64) (v7 : Int32) (v8 : Int64) (M : zm_M), pX7_period_162 g.2 post  n v5 v7 v8 M → ∀ (H : Heap) (locs : List Loc) (ls : Array Slot), zW lo g s H locs M → lv_has ls 10 [(5, .long v5), (7, .int v7), (8, .long v8)] → W p l e ({ frames := 3, cells := 0, slots := 0, locals := 87 } : Room) s m args below meth c H locs 0 0 (MQ below (va_Qi post (zc_B lo g) (zA lo)) args s 0 0 (zA lo)) (F0 m 162 ls []) := by
  obtain ⟨hx, hb, hml, hown, hts⟩ := id S
  intro n
  induction n with
  | zero =>
    intro v5 v7 v8 M h
    exact False.elim h
  | succ n162 ih =>
    intro v5 v7 v8 M h H locs ls hw hl
    rw [pX7_period_162] at h
    refine lv_lload hx hb dX7_period_162 (lv_at hl 2 rfl) ?_
    refine lv_lconst (v := (1 : Int64)) hx hb dX7_period_164 (by decide) ?_
    refine W.lcmp hx hb dX7_period_165 ?_
    refine lv_if_eq (tgt := 186) hx hb dX7_period_166 (by decide) (fun hc => ?_) (fun hc => ?_)
    · have h := h.1 (zc_eq.mp hc)
      refine lv_iload hx hb dX7_period_186 (lv_at hl 1 rfl) ?_
      exact zr_ri S hr hlocks hw h dX7_period_188
    · have h := h.2 (fun q => hc (zc_eq.mpr q))
      obtain ⟨x35, ex35⟩ : ∃ z : Int32, z = v7 + (1 : Int32) := ⟨_, rfl⟩
      have h := h x35 ex35
      refine lv_iinc (v := x35) (lv' := [(7, .int x35), (5, .long v5), (8, .long v8)]) hx hb dX7_period_169 hl (k := 1) rfl (by rw [ex35]; rfl) (by decide) rfl (fun ls hl => ?_)
      refine lv_lload hx hb dX7_period_172 (lv_at hl 2 rfl) ?_
      refine lv_ldc2 (v := (10 : Int64)) hx hb hown (hts _ zu_602) dX7_period_174 ?_
      refine lv_lmul hx hb dX7_period_177 ?_
      refine lv_lload hx hb dX7_period_178 (lv_at hl 1 rfl) ?_
      refine lv_lrem hx hb dX7_period_180 h.1 ?_
      have h := h.2
      refine lv_topl (fun x36 ex36 => ?_)
      have h := h x36 ex36
      refine lv_lstore (lv' := [(8, .long x36), (7, .int x35), (5, .long v5)]) hx hb dX7_period_181 hl (by decide) rfl (fun ls hl => ?_)
      refine lv_goto (tgt := 162) hx hb dX7_period_183 (by decide) ?_
      exact ih v5 x35 x36 _ h _ _ _ hw (lv_sub hl [2, 1, 0] rfl)
set_option maxHeartbeats 4000000 in
set_option maxRecDepth 100000 in
theorem kX7_period (l : Launch) (lo : Nat) (g : zg) (M : zm_M) (a0 : Nat) (a1 : Int32) (a2 : Int32) (post : Int32 → zm_M → Prop) (h : pX7_period g.2 a0 a1 a2 post M) : Met l yX7_period (Cond.code yX7_period cX7_period 10 (some .int) :: zU) (({ frames := 3, cells := 0, slots := 0, locals := 87 } : Room)) (zc_P zNF zNM lo g M [.ref a0, .int a1, .int a2]) (va_Qi post (zc_B lo g) (zA lo)) 0 0 (zA lo) := by
  refine Met.ofW (cc := cX7_period) (maxL := 10) (ret := (some .int)) (by decide) rfl ?_
  intro p e s m args below meth c s₁ B hml hv
  obtain ⟨rfl, hR, hK⟩ := hv
  have hts := atoms_spec (ws := Cond.code yX7_period cX7_period 10 (some .int) :: zU) B.pre
  have hts : ∀ w ∈ zU, w.before _ s = true := fun w hw => hts w (List.mem_cons_of_mem _ hw)
  have hown : s.vm.findClass RX7 = some m.cls := findClass_of_methodNamed B.named
  have hx := B.exec
  have hb := B.bytes
  have hr := B.returns
  have hlocks := B.notSynchronized
  have S : CallFix p m c cX7_period 10 s ([.ref a0, .int a1, .int a2] : List Value).toArray zU RX7 := ⟨hx, hb, hml, hown, hts⟩
  have hw : zW lo g s s.heap [] M := ⟨hR, va_S.rf⟩
  have hl := lv_entry ([.ref a0, .int a1, .int a2]) (n := 10) (Nat.le_of_ble_eq_true rfl)
  rw [lg_entry_eq]
  generalize (lg_sl ([.ref a0, .int a1, .int a2]) ++ List.replicate (10 - (lg_sl ([.ref a0, .int a1, .int a2])).length) Slot.unset).toArray = ls at hl ⊢
  have hl : lv_has ls 10 [(0, .ref a0), (1, .int a1), (2, .int a2)] := hl
  unfold pX7_period at h
  refine lv_aload_n hx hb dX7_period_0 rfl (lv_at hl 0 rfl) ?_
  refine lv_iconst (v := (0 : Int32)) hx hb dX7_period_1 (by decide) ?_
  refine zr_p (C := RX7) (T := TX7) (N := 14) (ci := 10) (k := 0) S hK hw zi_X7 tyX7 tyX7_ok nmX7 rfl (by decide) zu_443 rfl rfl rfl dX7_period_2 h (fun M1 H locs hw h => ?_)
  refine lv_aload_n hx hb dX7_period_5 rfl (lv_at hl 0 rfl) ?_
  refine lv_iload_n hx hb dX7_period_6 rfl (lv_at hl 1 rfl) ?_
  obtain ⟨ho, h⟩ := h
  refine zr_Vi (As := [.int a1]) (rest := []) S hK hw (kX7_isNumber l lo g M1 a0 a1 _ h) (cwV 1 hts (zg_V zu_517 zu_518 zu_519 zu_450 zu_520) rfl rfl rfl (by decide +kernel) ⟨Nat.le_of_ble_eq_true rfl, Nat.le_of_ble_eq_true rfl⟩) (ci := 10) rfl ho rfl hl.1 rfl (Nat.le_of_ble_eq_true rfl) dX7_period_7 ⟨Nat.le_of_ble_eq_true rfl, Nat.le_of_ble_eq_true rfl⟩ (fun r3 M2 H locs hw h => ?_)
  refine lv_if_eq (tgt := 23) hx hb dX7_period_10 (by decide) (fun hc => ?_) (fun hc => ?_)
  · have h := h.1 hc
    refine lv_iconst (v := (-1 : Int32)) hx hb dX7_period_23 (by decide) ?_
    exact zr_ri S hr hlocks hw h dX7_period_24
  · have h := h.2 hc
    refine lv_iload_n hx hb dX7_period_13 rfl (lv_at hl 2 rfl) ?_
    refine lv_i2l hx hb dX7_period_14 rfl ?_
    refine lv_lconst (v := (0 : Int64)) hx hb dX7_period_15 (by decide) ?_
    refine lv_lconst (v := (1 : Int64)) hx hb dX7_period_16 (by decide) ?_
    refine zr_Si (As := [.long (a2.toInt64), .long (0 : Int64), .long (1 : Int64)]) (rest := []) S hK hw (kX7_in l lo g M2 (a2.toInt64) (0 : Int64) (1 : Int64) _ h) (va_cwS 3 hts (zg_S zu_482 zu_483 zu_450 zu_484) rfl rfl rfl (by decide +kernel) ⟨Nat.le_of_ble_eq_true rfl, Nat.le_of_ble_eq_true rfl⟩) rfl hl.1 rfl (Nat.le_of_ble_eq_true rfl) dX7_period_17 ⟨Nat.le_of_ble_eq_true rfl, Nat.le_of_ble_eq_true rfl⟩ (fun r5 M4 H locs hw h => ?_)
    refine lv_if_ne (tgt := 25) hx hb dX7_period_20 (by decide) (fun hc => ?_) (fun hc => ?_)
    · have h := h.1 hc
      refine lv_aload_n hx hb dX7_period_25 rfl (lv_at hl 0 rfl) ?_
      refine lv_iconst (v := (2 : Int32)) hx hb dX7_period_26 (by decide) ?_
      refine lv_iload_n hx hb dX7_period_27 rfl (lv_at hl 1 rfl) ?_
      refine lv_iconst (v := (1 : Int32)) hx hb dX7_period_28 (by decide) ?_
      obtain ⟨ho, h⟩ := h
      refine zr_Vv (As := [.int (2 : Int32), .int a1, .int (1 : Int32)]) (rest := []) S hK hw (kX7_take l lo g M4 a0 (2 : Int32) a1 (1 : Int32) _ h) (cwV 3 hts (zg_V zu_521 zu_522 zu_523 zu_450 zu_524) rfl rfl rfl (by decide +kernel) ⟨Nat.le_of_ble_eq_true rfl, Nat.le_of_ble_eq_true rfl⟩) (ci := 10) rfl ho rfl hl.1 rfl (Nat.le_of_ble_eq_true rfl) dX7_period_29 ⟨Nat.le_of_ble_eq_true rfl, Nat.le_of_ble_eq_true rfl⟩ (fun M6 H locs hw h => ?_)
      refine lv_iconst (v := (0 : Int32)) hx hb dX7_period_32 (by decide) ?_
      refine lv_topi (fun x7 ex7 => ?_)
      have h := h x7 ex7
      refine lv_istore_n (lv' := [(3, .int x7), (0, .ref a0), (1, .int a1), (2, .int a2)]) hx hb dX7_period_33 rfl hl (by decide) rfl (fun ls hl => ?_)
      obtain ⟨n34, h⟩ := h
      refine sX7_period_34 S hr hlocks hK (fun w12 w13 w14 M15 h H locs ls hw hl => ?_) n34 a0 a2 x7 _ h _ _ _ hw (lv_sub hl [1, 3, 0] rfl)
      refine lv_iconst (v := (0 : Int32)) hx hb dX7_period_53 (by decide) ?_
      refine lv_topi (fun x16 ex16 => ?_)
      have h := h x16 ex16
      refine lv_istore (lv' := [(4, .int x16), (0, .ref w12), (2, .int w13), (3, .int w14)]) hx hb dX7_period_54 hl (by decide) rfl (fun ls hl => ?_)
      refine lv_aload_n hx hb dX7_period_56 rfl (lv_at hl 1 rfl) ?_
      refine lv_iconst (v := (3 : Int32)) hx hb dX7_period_57 (by decide) ?_
      refine lv_iconst (v := (2 : Int32)) hx hb dX7_period_58 (by decide) ?_
      obtain ⟨ho, h⟩ := h
      refine zr_Vv (As := [.int (3 : Int32), .int (2 : Int32)]) (rest := []) S hK hw (kX7_copy l lo g M15 w12 (3 : Int32) (2 : Int32) _ h) (cwV 2 hts (zg_V zu_465 zu_466 zu_467 zu_450 zu_468) rfl rfl rfl (by decide +kernel) ⟨Nat.le_of_ble_eq_true rfl, Nat.le_of_ble_eq_true rfl⟩) (ci := 10) rfl ho rfl hl.1 rfl (Nat.le_of_ble_eq_true rfl) dX7_period_59 ⟨Nat.le_of_ble_eq_true rfl, Nat.le_of_ble_eq_true rfl⟩ (fun M17 H locs hw h => ?_)
      obtain ⟨n62, h⟩ := h
      refine sX7_period_62 S hr hlocks hK (fun w22 w23 w24 w25 M26 h H locs ls hw hl => ?_) n62 w12 w13 w14 x16 _ h _ _ _ hw (lv_sub hl [1, 2, 3, 0] rfl)
      refine lv_aload_n hx hb dX7_period_87 rfl (lv_at hl 0 rfl) ?_
      refine zr_ga (C := RX7) (T := TX7) (N := 14) (ci := 10) (k := 10) S hK hw zi_X7 rfl (by decide) zu_444 dX7_period_88 h (fun n_27 h => ?_)
      refine lv_iconst (v := (2 : Int32)) hx hb dX7_period_91 (by decide) ?_
      refine zr_iald S hK hw dX7_period_92 h (fun e28 h => ?_)
      refine lv_iconst (v := (1 : Int32)) hx hb dX7_period_93 (by decide) ?_
      refine lv_icmp_gt (tgt := 112) hx hb dX7_period_94 (by decide) (fun hc => ?_) (fun hc => ?_)
      · have h := h.1 hc
        refine lv_bipush (v := (-2 : Int32)) hx hb dX7_period_112 (by decide) ?_
        exact zr_ri S hr hlocks hw h dX7_period_114
      · have h := h.2 hc
        refine lv_aload_n hx hb dX7_period_97 rfl (lv_at hl 0 rfl) ?_
        refine zr_ga (C := RX7) (T := TX7) (N := 14) (ci := 10) (k := 9) S hK hw zi_X7 rfl (by decide) zu_445 dX7_period_98 h (fun g_29 h => ?_)
        refine lv_sipush (v := (144 : Int32)) hx hb dX7_period_101 (by decide) ?_
        refine zr_lald S hK hw dX7_period_104 h (fun e30 h => ?_)
        refine lv_ldc2 (v := (100000 : Int64)) hx hb hown (hts _ zu_628) dX7_period_105 ?_
        refine W.lcmp hx hb dX7_period_108 ?_
        refine lv_if_le (tgt := 115) hx hb dX7_period_109 (by decide) (fun hc => ?_) (fun hc => ?_)
        · have h := h.1 (zc_le.mp hc)
          refine lv_iload_n hx hb dX7_period_115 rfl (lv_at hl 1 rfl) ?_
          refine lv_if_ne (tgt := 132) hx hb dX7_period_116 (by decide) (fun hc => ?_) (fun hc => ?_)
          · have h := h.1 hc
            refine lv_aload_n hx hb dX7_period_132 rfl (lv_at hl 0 rfl) ?_
            refine zr_ga (C := RX7) (T := TX7) (N := 14) (ci := 10) (k := 9) S hK hw zi_X7 rfl (by decide) zu_445 dX7_period_133 h (fun g_31 h => ?_)
            refine lv_sipush (v := (144 : Int32)) hx hb dX7_period_136 (by decide) ?_
            refine zr_lald S hK hw dX7_period_139 h (fun e32 h => ?_)
            refine lv_lstore (lv' := [(5, .long e32), (0, .ref w22), (2, .int w23), (3, .int w24), (4, .int w25)]) hx hb dX7_period_140 hl (by decide) rfl (fun ls hl => ?_)
            refine lv_lload hx hb dX7_period_142 (lv_at hl 0 rfl) ?_
            refine lv_lconst (v := (1 : Int64)) hx hb dX7_period_144 (by decide) ?_
            refine W.lcmp hx hb dX7_period_145 ?_
            refine lv_if_ne (tgt := 151) hx hb dX7_period_146 (by decide) (fun hc => ?_) (fun hc => ?_)
            · have h := h.1 (fun q => hc (zc_eq.mpr q))
              refine lv_iconst (v := (1 : Int32)) hx hb dX7_period_151 (by decide) ?_
              refine lv_topi (fun x33 ex33 => ?_)
              have h := h x33 ex33
              refine lv_istore (lv' := [(7, .int x33), (5, .long e32), (0, .ref w22), (2, .int w23), (3, .int w24), (4, .int w25)]) hx hb dX7_period_152 hl (by decide) rfl (fun ls hl => ?_)
              refine lv_ldc2 (v := (10 : Int64)) hx hb hown (hts _ zu_602) dX7_period_154 ?_
              refine lv_lload hx hb dX7_period_157 (lv_at hl 1 rfl) ?_
              refine lv_lrem hx hb dX7_period_159 h.1 ?_
              have h := h.2
              refine lv_topl (fun x34 ex34 => ?_)
              have h := h x34 ex34
              refine lv_lstore (lv' := [(8, .long x34), (7, .int x33), (5, .long e32), (0, .ref w22), (2, .int w23), (3, .int w24), (4, .int w25)]) hx hb dX7_period_160 hl (by decide) rfl (fun ls hl => ?_)
              obtain ⟨n162, h⟩ := h
              refine sX7_period_162 S hr hlocks hK  n162 e32 x33 x34 _ h _ _ _ hw (lv_sub hl [2, 1, 0] rfl)
            · have h := h.2 (zc_eq.mp hc)
              refine lv_iconst (v := (0 : Int32)) hx hb dX7_period_149 (by decide) ?_
              exact zr_ri S hr hlocks hw h dX7_period_150
          · have h := h.2 hc
            refine lv_iload_n hx hb dX7_period_119 rfl (lv_at hl 2 rfl) ?_
            refine lv_iload hx hb dX7_period_120 (lv_at hl 3 rfl) ?_
            refine lv_icmp_le (tgt := 129) hx hb dX7_period_122 (by decide) (fun hc => ?_) (fun hc => ?_)
            · have h := h.1 hc
              refine lv_iload hx hb dX7_period_129 (lv_at hl 3 rfl) ?_
              exact zr_ri S hr hlocks hw h dX7_period_131
            · have h := h.2 hc
              refine lv_iload_n hx hb dX7_period_125 rfl (lv_at hl 2 rfl) ?_
              refine lv_goto (tgt := 131) hx hb dX7_period_126 (by decide) ?_
              exact zr_ri S hr hlocks hw h dX7_period_131
        · have h := h.2 (fun q => hc (zc_le.mpr q))
          refine lv_bipush (v := (-2 : Int32)) hx hb dX7_period_112 (by decide) ?_
          exact zr_ri S hr hlocks hw h dX7_period_114
    · have h := h.2 hc
      refine lv_iconst (v := (-1 : Int32)) hx hb dX7_period_23 (by decide) ?_
      exact zr_ri S hr hlocks hw h dX7_period_24
