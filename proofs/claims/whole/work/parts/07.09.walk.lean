set_option maxHeartbeats 4000000 in
set_option maxRecDepth 100000 in
theorem sX7_write_2 {p : Program} {l : Launch} {e : Env} {s : State} {m : MethodId} {args : Array Value} {below : List Frame} {meth : Method} {c : Code} {lo : Nat} {g : zg} {post : zm_M → Prop} {k32 : Nat → Int32 → zm_M → Prop} (S : CallFix p m c cX7_write 4 s args zU RX7) (hr : meth.sig.returnType = none) (hlocks : meth.locks = false) (hK : zk_K zNF zNM g s) (hk32 : ∀ (v0 : Nat) (v2 : Int32) (M : zm_M), k32 v0 v2 M → ∀ (H : Heap) (locs : List Loc) (ls : Array Slot), zW lo g s H locs M → lv_has ls 4 [(0, .ref v0), (2, .int v2)] → W p l e ({ frames := 3, cells := 0, slots := 0, locals := 87 } : Room) s m args below meth c H locs 0 0 (MQ below (va_Qv post (zc_B lo g) (zA lo)) args s 0 0 (zA lo)) (F0 m 32 ls [])) : ∀ (n : Nat) (v0 : Nat) (v1 : Int32) (v2 : Int32) (M : zm_M), pX7_write_2 g.2 post k32 n v0 v1 v2 M → ∀ (H : Heap) (locs : List Loc) (ls : Array Slot), zW lo g s H locs M → lv_has ls 4 [(0, .ref v0), (1, .int v1), (2, .int v2)] → W p l e ({ frames := 3, cells := 0, slots := 0, locals := 87 } : Room) s m args below meth c H locs 0 0 (MQ below (va_Qv post (zc_B lo g) (zA lo)) args s 0 0 (zA lo)) (F0 m 2 ls []) := by
  obtain ⟨hx, hb, hml, hown, hts⟩ := id S
  intro n
  induction n with
  | zero =>
    intro v0 v1 v2 M h
    exact False.elim h
  | succ n2 ih =>
    intro v0 v1 v2 M h H locs ls hw hl
    rw [pX7_write_2] at h
    refine lv_aload_n hx hb dX7_write_2 rfl (lv_at hl 0 rfl) ?_
    refine zr_ga (C := RX7) (T := TX7) (N := 14) (ci := 10) (k := 13) S hK hw zi_X7 rfl (by decide) zu_613 dX7_write_3 h (fun figure_2 h => ?_)
    refine lv_iload_n hx hb dX7_write_6 rfl (lv_at hl 2 rfl) ?_
    refine lv_bipush (v := (48 : Int32)) hx hb dX7_write_7 (by decide) ?_
    refine lv_aload_n hx hb dX7_write_9 rfl (lv_at hl 0 rfl) ?_
    refine lv_iload_n hx hb dX7_write_10 rfl (lv_at hl 1 rfl) ?_
    refine lv_ldc2 (v := (10 : Int64)) hx hb hown (hts _ zu_602) dX7_write_11 ?_
    obtain ⟨ho, h⟩ := h
    refine zr_Vl (As := [.int v1, .long (10 : Int64)]) (rest := [.int (48 : Int32), .int v2, .ref figure_2]) S hK hw (kX7_bySmall l lo g M v0 v1 (10 : Int64) _ h) (cwV 2 hts (zg_V zu_614 zu_615 zu_616 zu_450 zu_617) rfl rfl rfl (by decide +kernel) ⟨Nat.le_of_ble_eq_true rfl, Nat.le_of_ble_eq_true rfl⟩) (ci := 10) rfl ho rfl hl.1 rfl (Nat.le_of_ble_eq_true rfl) dX7_write_14 ⟨Nat.le_of_ble_eq_true rfl, Nat.le_of_ble_eq_true rfl⟩ (fun r4 M3 H locs hw h => ?_)
    refine lv_l2i hx hb dX7_write_17 rfl ?_
    refine lv_iadd hx hb dX7_write_18 ?_
    refine zr_iast S hK hw dX7_write_19 h (fun M5 H locs hw h => ?_)
    obtain ⟨x6, ex6⟩ : ∃ z : Int32, z = v2 + (1 : Int32) := ⟨_, rfl⟩
    have h := h x6 ex6
    refine lv_iinc (v := x6) (lv' := [(2, .int x6), (0, .ref v0), (1, .int v1)]) hx hb dX7_write_20 hl (k := 2) rfl (by rw [ex6]; rfl) (by decide) rfl (fun ls hl => ?_)
    refine lv_aload_n hx hb dX7_write_23 rfl (lv_at hl 1 rfl) ?_
    refine zr_ga (C := RX7) (T := TX7) (N := 14) (ci := 10) (k := 10) S hK hw zi_X7 rfl (by decide) zu_444 dX7_write_24 h (fun n_7 h => ?_)
    refine lv_iload_n hx hb dX7_write_27 rfl (lv_at hl 2 rfl) ?_
    refine zr_iald S hK hw dX7_write_28 h (fun e8 h => ?_)
    refine lv_if_gt (tgt := 2) hx hb dX7_write_29 (by decide) (fun hc => ?_) (fun hc => ?_)
    · have h := h.1 hc
      exact ih v0 v1 x6 _ h _ _ _ hw (lv_sub hl [1, 2, 0] rfl)
    · have h := h.2 hc
      exact hk32 v0 x6 _ h _ _ _ hw (lv_sub hl [1, 0] rfl)
set_option maxHeartbeats 4000000 in
set_option maxRecDepth 100000 in
theorem sX7_write_36 {p : Program} {l : Launch} {e : Env} {s : State} {m : MethodId} {args : Array Value} {below : List Frame} {meth : Method} {c : Code} {lo : Nat} {g : zg} {post : zm_M → Prop}  (S : CallFix p m c cX7_write 4 s args zU RX7) (hr : meth.sig.returnType = none) (hlocks : meth.locks = false) (hK : zk_K zNF zNM g s)  : ∀ (n : Nat) (v0 : Nat) (v3 : Int32) (M : zm_M), pX7_write_36 g.2 post  n v0 v3 M → ∀ (H : Heap) (locs : List Loc) (ls : Array Slot), zW lo g s H locs M → lv_has ls 4 [(0, .ref v0), (3, .int v3)] → W p l e ({ frames := 3, cells := 0, slots := 0, locals := 87 } : Room) s m args below meth c H locs 0 0 (MQ below (va_Qv post (zc_B lo g) (zA lo)) args s 0 0 (zA lo)) (F0 m 36 ls []) := by
  obtain ⟨hx, hb, hml, hown, hts⟩ := id S
  intro n
  induction n with
  | zero =>
    intro v0 v3 M h
    exact False.elim h
  | succ n36 ih =>
    intro v0 v3 M h H locs ls hw hl
    rw [pX7_write_36] at h
    refine lv_iload_n hx hb dX7_write_36 rfl (lv_at hl 1 rfl) ?_
    refine lv_if_lt (tgt := 56) hx hb dX7_write_37 (by decide) (fun hc => ?_) (fun hc => ?_)
    · have h := h.1 hc
      exact zr_rv S hr hlocks hw h dX7_write_56
    · have h := h.2 hc
      refine lv_aload_n hx hb dX7_write_40 rfl (lv_at hl 0 rfl) ?_
      refine lv_aload_n hx hb dX7_write_41 rfl (lv_at hl 0 rfl) ?_
      refine zr_ga (C := RX7) (T := TX7) (N := 14) (ci := 10) (k := 13) S hK hw zi_X7 rfl (by decide) zu_613 dX7_write_42 h (fun figure_13 h => ?_)
      refine lv_iload_n hx hb dX7_write_45 rfl (lv_at hl 1 rfl) ?_
      refine zr_iald S hK hw dX7_write_46 h (fun e14 h => ?_)
      obtain ⟨ho, h⟩ := h
      refine zr_Vv (As := [.int e14]) (rest := []) S hK hw (kX7_say l lo g M v0 e14 _ h) (cwV 1 hts (zg_V zu_618 zu_619 zu_620 zu_450 zu_621) rfl rfl rfl (by decide +kernel) ⟨Nat.le_of_ble_eq_true rfl, Nat.le_of_ble_eq_true rfl⟩) (ci := 10) rfl ho rfl hl.1 rfl (Nat.le_of_ble_eq_true rfl) dX7_write_47 ⟨Nat.le_of_ble_eq_true rfl, Nat.le_of_ble_eq_true rfl⟩ (fun M15 H locs hw h => ?_)
      obtain ⟨x16, ex16⟩ : ∃ z : Int32, z = v3 + (-1 : Int32) := ⟨_, rfl⟩
      have h := h x16 ex16
      refine lv_iinc (v := x16) (lv' := [(3, .int x16), (0, .ref v0)]) hx hb dX7_write_50 hl (k := 1) rfl (by rw [ex16]; rfl) (by decide) rfl (fun ls hl => ?_)
      refine lv_goto (tgt := 36) hx hb dX7_write_53 (by decide) ?_
      exact ih v0 x16 _ h _ _ _ hw (lv_sub hl [1, 0] rfl)
set_option maxHeartbeats 4000000 in
set_option maxRecDepth 100000 in
theorem kX7_write (l : Launch) (lo : Nat) (g : zg) (M : zm_M) (a0 : Nat) (a1 : Int32) (post : zm_M → Prop) (h : pX7_write g.2 a0 a1 post M) : Met l yX7_write (Cond.code yX7_write cX7_write 4 none :: zU) (({ frames := 3, cells := 0, slots := 0, locals := 87 } : Room)) (zc_P zNF zNM lo g M [.ref a0, .int a1]) (va_Qv post (zc_B lo g) (zA lo)) 0 0 (zA lo) := by
  refine Met.ofW (cc := cX7_write) (maxL := 4) (ret := none) (by decide) rfl ?_
  intro p e s m args below meth c s₁ B hml hv
  obtain ⟨rfl, hR, hK⟩ := hv
  have hts := atoms_spec (ws := Cond.code yX7_write cX7_write 4 none :: zU) B.pre
  have hts : ∀ w ∈ zU, w.before _ s = true := fun w hw => hts w (List.mem_cons_of_mem _ hw)
  have hown : s.vm.findClass RX7 = some m.cls := findClass_of_methodNamed B.named
  have hx := B.exec
  have hb := B.bytes
  have hr := B.returns
  have hlocks := B.notSynchronized
  have S : CallFix p m c cX7_write 4 s ([.ref a0, .int a1] : List Value).toArray zU RX7 := ⟨hx, hb, hml, hown, hts⟩
  have hw : zW lo g s s.heap [] M := ⟨hR, va_S.rf⟩
  have hl := lv_entry ([.ref a0, .int a1]) (n := 4) (Nat.le_of_ble_eq_true rfl)
  rw [lg_entry_eq]
  generalize (lg_sl ([.ref a0, .int a1]) ++ List.replicate (4 - (lg_sl ([.ref a0, .int a1])).length) Slot.unset).toArray = ls at hl ⊢
  have hl : lv_has ls 4 [(0, .ref a0), (1, .int a1)] := hl
  unfold pX7_write at h
  refine lv_iconst (v := (0 : Int32)) hx hb dX7_write_0 (by decide) ?_
  refine lv_topi (fun x1 ex1 => ?_)
  have h := h x1 ex1
  refine lv_istore_n (lv' := [(2, .int x1), (0, .ref a0), (1, .int a1)]) hx hb dX7_write_1 rfl hl (by decide) rfl (fun ls hl => ?_)
  obtain ⟨n2, h⟩ := h
  refine sX7_write_2 S hr hlocks hK (fun w9 w10 M11 h H locs ls hw hl => ?_) n2 a0 a1 x1 _ h _ _ _ hw (lv_sub hl [1, 2, 0] rfl)
  refine lv_iload_n hx hb dX7_write_32 rfl (lv_at hl 1 rfl) ?_
  refine lv_iconst (v := (1 : Int32)) hx hb dX7_write_33 (by decide) ?_
  refine lv_isub hx hb dX7_write_34 ?_
  refine lv_topi (fun x12 ex12 => ?_)
  have h := h x12 ex12
  refine lv_istore_n (lv' := [(3, .int x12), (0, .ref w9), (2, .int w10)]) hx hb dX7_write_35 rfl hl (by decide) rfl (fun ls hl => ?_)
  obtain ⟨n36, h⟩ := h
  refine sX7_write_36 S hr hlocks hK  n36 w9 x12 _ h _ _ _ hw (lv_sub hl [1, 0] rfl)
set_option maxHeartbeats 4000000 in
set_option maxRecDepth 100000 in
theorem sX7_text_35 {p : Program} {l : Launch} {e : Env} {s : State} {m : MethodId} {args : Array Value} {below : List Frame} {meth : Method} {c : Code} {lo : Nat} {g : zg} {post : Int32 → zm_M → Prop}  (S : CallFix p m c cX7_text 2 s args zU RX7) (hr : meth.sig.returnType = (some .int)) (hlocks : meth.locks = false) (hK : zk_K zNF zNM g s)  : ∀ (v0 : Nat) (v1 : Int32) (M : zm_M), pX7_text_35 g.2 post  v0 v1 M → ∀ (H : Heap) (locs : List Loc) (ls : Array Slot), zW lo g s H locs M → lv_has ls 2 [(0, .ref v0), (1, .int v1)] → W p l e ({ frames := 4, cells := 0, slots := 0, locals := 110 } : Room) s m args below meth c H locs 0 0 (MQ below (va_Qi post (zc_B lo g) (zA lo)) args s 0 0 (zA lo)) (F0 m 35 ls []) := by
  obtain ⟨hx, hb, hml, hown, hts⟩ := id S
  intro v0 v1 M h H locs ls hw hl
  unfold pX7_text_35 at h
  refine lv_aload_n hx hb dX7_text_35 rfl (lv_at hl 0 rfl) ?_
  refine lv_iconst (v := (2 : Int32)) hx hb dX7_text_36 (by decide) ?_
  refine lv_iload_n hx hb dX7_text_37 rfl (lv_at hl 1 rfl) ?_
  refine lv_iconst (v := (0 : Int32)) hx hb dX7_text_38 (by decide) ?_
  obtain ⟨ho, h⟩ := h
  refine zr_Vv (As := [.int (2 : Int32), .int v1, .int (0 : Int32)]) (rest := []) S hK hw (kX7_take l lo g M v0 (2 : Int32) v1 (0 : Int32) _ h) (cwV 3 hts (zg_V zu_521 zu_522 zu_523 zu_450 zu_524) rfl rfl rfl (by decide +kernel) ⟨Nat.le_of_ble_eq_true rfl, Nat.le_of_ble_eq_true rfl⟩) (ci := 10) rfl ho rfl hl.1 rfl (Nat.le_of_ble_eq_true rfl) dX7_text_39 ⟨Nat.le_of_ble_eq_true rfl, Nat.le_of_ble_eq_true rfl⟩ (fun M7 H locs hw h => ?_)
  refine lv_aload_n hx hb dX7_text_42 rfl (lv_at hl 0 rfl) ?_
  refine lv_iconst (v := (2 : Int32)) hx hb dX7_text_43 (by decide) ?_
  obtain ⟨ho, h⟩ := h
  refine zr_Vv (As := [.int (2 : Int32)]) (rest := []) S hK hw (kX7_write l lo g M7 v0 (2 : Int32) _ h) (cwV 1 hts (zg_V zu_622 zu_623 zu_624 zu_450 zu_625) rfl rfl rfl (by decide +kernel) ⟨Nat.le_of_ble_eq_true rfl, Nat.le_of_ble_eq_true rfl⟩) (ci := 10) rfl ho rfl hl.1 rfl (Nat.le_of_ble_eq_true rfl) dX7_text_44 ⟨Nat.le_of_ble_eq_true rfl, Nat.le_of_ble_eq_true rfl⟩ (fun M8 H locs hw h => ?_)
  refine lv_aload_n hx hb dX7_text_47 rfl (lv_at hl 0 rfl) ?_
  refine lv_iload_n hx hb dX7_text_48 rfl (lv_at hl 1 rfl) ?_
  obtain ⟨ho, h⟩ := h
  refine zr_Vi (As := [.int v1]) (rest := []) S hK hw (kX7_isWhole l lo g M8 v0 v1 _ h) (cwV 1 hts (zg_V zu_548 zu_549 zu_550 zu_450 zu_551) rfl rfl rfl (by decide +kernel) ⟨Nat.le_of_ble_eq_true rfl, Nat.le_of_ble_eq_true rfl⟩) (ci := 10) rfl ho rfl hl.1 rfl (Nat.le_of_ble_eq_true rfl) dX7_text_49 ⟨Nat.le_of_ble_eq_true rfl, Nat.le_of_ble_eq_true rfl⟩ (fun r10 M9 H locs hw h => ?_)
  refine lv_if_ne (tgt := 73) hx hb dX7_text_52 (by decide) (fun hc => ?_) (fun hc => ?_)
  · have h := h.1 hc
    refine lv_aload_n hx hb dX7_text_73 rfl (lv_at hl 0 rfl) ?_
    refine zr_gi (C := RX7) (T := TX7) (N := 14) (ci := 10) (k := 8) S hK hw zi_X7 rfl (by decide) zu_612 dX7_text_74 h (fun outMany_11 h => ?_)
    exact zr_ri S hr hlocks hw h dX7_text_77
  · have h := h.2 hc
    refine lv_aload_n hx hb dX7_text_55 rfl (lv_at hl 0 rfl) ?_
    refine lv_bipush (v := (47 : Int32)) hx hb dX7_text_56 (by decide) ?_
    obtain ⟨ho, h⟩ := h
    refine zr_Vv (As := [.int (47 : Int32)]) (rest := []) S hK hw (kX7_say l lo g M9 v0 (47 : Int32) _ h) (cwV 1 hts (zg_V zu_618 zu_619 zu_620 zu_450 zu_621) rfl rfl rfl (by decide +kernel) ⟨Nat.le_of_ble_eq_true rfl, Nat.le_of_ble_eq_true rfl⟩) (ci := 10) rfl ho rfl hl.1 rfl (Nat.le_of_ble_eq_true rfl) dX7_text_58 ⟨Nat.le_of_ble_eq_true rfl, Nat.le_of_ble_eq_true rfl⟩ (fun M12 H locs hw h => ?_)
    refine lv_aload_n hx hb dX7_text_61 rfl (lv_at hl 0 rfl) ?_
    refine lv_iconst (v := (2 : Int32)) hx hb dX7_text_62 (by decide) ?_
    refine lv_iload_n hx hb dX7_text_63 rfl (lv_at hl 1 rfl) ?_
    refine lv_iconst (v := (1 : Int32)) hx hb dX7_text_64 (by decide) ?_
    obtain ⟨ho, h⟩ := h
    refine zr_Vv (As := [.int (2 : Int32), .int v1, .int (1 : Int32)]) (rest := []) S hK hw (kX7_take l lo g M12 v0 (2 : Int32) v1 (1 : Int32) _ h) (cwV 3 hts (zg_V zu_521 zu_522 zu_523 zu_450 zu_524) rfl rfl rfl (by decide +kernel) ⟨Nat.le_of_ble_eq_true rfl, Nat.le_of_ble_eq_true rfl⟩) (ci := 10) rfl ho rfl hl.1 rfl (Nat.le_of_ble_eq_true rfl) dX7_text_65 ⟨Nat.le_of_ble_eq_true rfl, Nat.le_of_ble_eq_true rfl⟩ (fun M13 H locs hw h => ?_)
    refine lv_aload_n hx hb dX7_text_68 rfl (lv_at hl 0 rfl) ?_
    refine lv_iconst (v := (2 : Int32)) hx hb dX7_text_69 (by decide) ?_
    obtain ⟨ho, h⟩ := h
    refine zr_Vv (As := [.int (2 : Int32)]) (rest := []) S hK hw (kX7_write l lo g M13 v0 (2 : Int32) _ h) (cwV 1 hts (zg_V zu_622 zu_623 zu_624 zu_450 zu_625) rfl rfl rfl (by decide +kernel) ⟨Nat.le_of_ble_eq_true rfl, Nat.le_of_ble_eq_true rfl⟩) (ci := 10) rfl ho rfl hl.1 rfl (Nat.le_of_ble_eq_true rfl) dX7_text_70 ⟨Nat.le_of_ble_eq_true rfl, Nat.le_of_ble_eq_true rfl⟩ (fun M14 H locs hw h => ?_)
    refine lv_aload_n hx hb dX7_text_73 rfl (lv_at hl 0 rfl) ?_
    refine zr_gi (C := RX7) (T := TX7) (N := 14) (ci := 10) (k := 8) S hK hw zi_X7 rfl (by decide) zu_612 dX7_text_74 h (fun outMany_15 h => ?_)
    exact zr_ri S hr hlocks hw h dX7_text_77
set_option maxHeartbeats 4000000 in
set_option maxRecDepth 100000 in
theorem kX7_text (l : Launch) (lo : Nat) (g : zg) (M : zm_M) (a0 : Nat) (a1 : Int32) (post : Int32 → zm_M → Prop) (h : pX7_text g.2 a0 a1 post M) : Met l yX7_text (Cond.code yX7_text cX7_text 2 (some .int) :: zU) (({ frames := 4, cells := 0, slots := 0, locals := 110 } : Room)) (zc_P zNF zNM lo g M [.ref a0, .int a1]) (va_Qi post (zc_B lo g) (zA lo)) 0 0 (zA lo) := by
  refine Met.ofW (cc := cX7_text) (maxL := 2) (ret := (some .int)) (by decide) rfl ?_
  intro p e s m args below meth c s₁ B hml hv
  obtain ⟨rfl, hR, hK⟩ := hv
  have hts := atoms_spec (ws := Cond.code yX7_text cX7_text 2 (some .int) :: zU) B.pre
  have hts : ∀ w ∈ zU, w.before _ s = true := fun w hw => hts w (List.mem_cons_of_mem _ hw)
  have hown : s.vm.findClass RX7 = some m.cls := findClass_of_methodNamed B.named
  have hx := B.exec
  have hb := B.bytes
  have hr := B.returns
  have hlocks := B.notSynchronized
  have S : CallFix p m c cX7_text 2 s ([.ref a0, .int a1] : List Value).toArray zU RX7 := ⟨hx, hb, hml, hown, hts⟩
  have hw : zW lo g s s.heap [] M := ⟨hR, va_S.rf⟩
  have hl := lv_entry ([.ref a0, .int a1]) (n := 2) (Nat.le_of_ble_eq_true rfl)
  rw [lg_entry_eq]
  generalize (lg_sl ([.ref a0, .int a1]) ++ List.replicate (2 - (lg_sl ([.ref a0, .int a1])).length) Slot.unset).toArray = ls at hl ⊢
  have hl : lv_has ls 2 [(0, .ref a0), (1, .int a1)] := hl
  unfold pX7_text at h
  refine lv_aload_n hx hb dX7_text_0 rfl (lv_at hl 0 rfl) ?_
  refine lv_iconst (v := (0 : Int32)) hx hb dX7_text_1 (by decide) ?_
  refine zr_p (C := RX7) (T := TX7) (N := 14) (ci := 10) (k := 0) S hK hw zi_X7 tyX7 tyX7_ok nmX7 rfl (by decide) zu_443 rfl rfl rfl dX7_text_2 h (fun M1 H locs hw h => ?_)
  refine lv_aload_n hx hb dX7_text_5 rfl (lv_at hl 0 rfl) ?_
  refine lv_iload_n hx hb dX7_text_6 rfl (lv_at hl 1 rfl) ?_
  obtain ⟨ho, h⟩ := h
  refine zr_Vi (As := [.int a1]) (rest := []) S hK hw (kX7_isNumber l lo g M1 a0 a1 _ h) (cwV 1 hts (zg_V zu_517 zu_518 zu_519 zu_450 zu_520) rfl rfl rfl (by decide +kernel) ⟨Nat.le_of_ble_eq_true rfl, Nat.le_of_ble_eq_true rfl⟩) (ci := 10) rfl ho rfl hl.1 rfl (Nat.le_of_ble_eq_true rfl) dX7_text_7 ⟨Nat.le_of_ble_eq_true rfl, Nat.le_of_ble_eq_true rfl⟩ (fun r3 M2 H locs hw h => ?_)
  refine lv_if_ne (tgt := 15) hx hb dX7_text_10 (by decide) (fun hc => ?_) (fun hc => ?_)
  · have h := h.1 hc
    refine lv_aload_n hx hb dX7_text_15 rfl (lv_at hl 0 rfl) ?_
    refine lv_iconst (v := (0 : Int32)) hx hb dX7_text_16 (by decide) ?_
    refine zr_p (C := RX7) (T := TX7) (N := 14) (ci := 10) (k := 8) S hK hw zi_X7 tyX7 tyX7_ok nmX7 rfl (by decide) zu_612 rfl rfl rfl dX7_text_17 h (fun M4 H locs hw h => ?_)
    refine lv_aload_n hx hb dX7_text_20 rfl (lv_at hl 0 rfl) ?_
    refine zr_ga (C := RX7) (T := TX7) (N := 14) (ci := 10) (k := 2) S hK hw zi_X7 rfl (by decide) zu_496 dX7_text_21 h (fun sign_5 h => ?_)
    refine lv_iload_n hx hb dX7_text_24 rfl (lv_at hl 1 rfl) ?_
    refine zr_iald S hK hw dX7_text_25 h (fun e6 h => ?_)
    refine lv_if_ge (tgt := 35) hx hb dX7_text_26 (by decide) (fun hc => ?_) (fun hc => ?_)
    · have h := h.1 hc
      exact sX7_text_35 S hr hlocks hK  a0 a1 _ h _ _ _ hw (lv_sub hl [0, 1] rfl)
    · have h := h.2 hc
      refine lv_aload_n hx hb dX7_text_29 rfl (lv_at hl 0 rfl) ?_
      refine lv_bipush (v := (45 : Int32)) hx hb dX7_text_30 (by decide) ?_
      obtain ⟨ho, h⟩ := h
      refine zr_Vv (As := [.int (45 : Int32)]) (rest := []) S hK hw (kX7_say l lo g M4 a0 (45 : Int32) _ h) (cwV 1 hts (zg_V zu_618 zu_619 zu_620 zu_450 zu_621) rfl rfl rfl (by decide +kernel) ⟨Nat.le_of_ble_eq_true rfl, Nat.le_of_ble_eq_true rfl⟩) (ci := 10) rfl ho rfl hl.1 rfl (Nat.le_of_ble_eq_true rfl) dX7_text_32 ⟨Nat.le_of_ble_eq_true rfl, Nat.le_of_ble_eq_true rfl⟩ (fun M16 H locs hw h => ?_)
      exact sX7_text_35 S hr hlocks hK  a0 a1 _ h _ _ _ hw (lv_sub hl [0, 1] rfl)
  · have h := h.2 hc
    refine lv_iconst (v := (-1 : Int32)) hx hb dX7_text_13 (by decide) ?_
    exact zr_ri S hr hlocks hw h dX7_text_14
set_option maxHeartbeats 4000000 in
set_option maxRecDepth 100000 in
theorem sX7_figures_86 {p : Program} {l : Launch} {e : Env} {s : State} {m : MethodId} {args : Array Value} {below : List Frame} {meth : Method} {c : Code} {lo : Nat} {g : zg} {post : Int32 → zm_M → Prop}  (S : CallFix p m c cX7_figures 4 s args zU RX7) (hr : meth.sig.returnType = (some .int)) (hlocks : meth.locks = false) (hK : zk_K zNF zNM g s)  : ∀ (n : Nat) (v0 : Nat) (v2 : Int32) (v3 : Int32) (M : zm_M), pX7_figures_86 g.2 post  n v0 v2 v3 M → ∀ (H : Heap) (locs : List Loc) (ls : Array Slot), zW lo g s H locs M → lv_has ls 4 [(0, .ref v0), (2, .int v2), (3, .int v3)] → W p l e ({ frames := 4, cells := 0, slots := 0, locals := 112 } : Room) s m args below meth c H locs 0 0 (MQ below (va_Qi post (zc_B lo g) (zA lo)) args s 0 0 (zA lo)) (F0 m 86 ls []) := by
  obtain ⟨hx, hb, hml, hown, hts⟩ := id S
  intro n
  induction n with
  | zero =>
    intro v0 v2 v3 M h
    exact False.elim h
  | succ n86 ih =>
    intro v0 v2 v3 M h H locs ls hw hl
    rw [pX7_figures_86] at h
    refine lv_iload_n hx hb dX7_figures_86 rfl (lv_at hl 2 rfl) ?_
    refine lv_iload_n hx hb dX7_figures_87 rfl (lv_at hl 1 rfl) ?_
    refine lv_icmp_ge (tgt := 135) hx hb dX7_figures_88 (by decide) (fun hc => ?_) (fun hc => ?_)
    · have h := h.1 hc
      refine lv_aload_n hx hb dX7_figures_135 rfl (lv_at hl 0 rfl) ?_
      refine zr_gi (C := RX7) (T := TX7) (N := 14) (ci := 10) (k := 8) S hK hw zi_X7 rfl (by decide) zu_612 dX7_figures_136 h (fun outMany_14 h => ?_)
      exact zr_ri S hr hlocks hw h dX7_figures_139
    · have h := h.2 hc
      refine lv_aload_n hx hb dX7_figures_91 rfl (lv_at hl 0 rfl) ?_
      refine lv_iconst (v := (5 : Int32)) hx hb dX7_figures_92 (by decide) ?_
      refine lv_ldc2 (v := (10 : Int64)) hx hb hown (hts _ zu_602) dX7_figures_93 ?_
      refine lv_lconst (v := (0 : Int64)) hx hb dX7_figures_96 (by decide) ?_
      obtain ⟨ho, h⟩ := h
      refine zr_Vv (As := [.int (5 : Int32), .long (10 : Int64), .long (0 : Int64)]) (rest := []) S hK hw (kX7_timesSmall l lo g M v0 (5 : Int32) (10 : Int64) (0 : Int64) _ h) (cwV 3 hts (zg_V zu_603 zu_604 zu_605 zu_450 zu_606) rfl rfl rfl (by decide +kernel) ⟨Nat.le_of_ble_eq_true rfl, Nat.le_of_ble_eq_true rfl⟩) (ci := 10) rfl ho rfl hl.1 rfl (Nat.le_of_ble_eq_true rfl) dX7_figures_97 ⟨Nat.le_of_ble_eq_true rfl, Nat.le_of_ble_eq_true rfl⟩ (fun M15 H locs hw h => ?_)
      refine lv_aload_n hx hb dX7_figures_100 rfl (lv_at hl 0 rfl) ?_
      refine lv_iconst (v := (4 : Int32)) hx hb dX7_figures_101 (by decide) ?_
      refine lv_bipush (v := (6 : Int32)) hx hb dX7_figures_102 (by decide) ?_
      refine lv_iconst (v := (5 : Int32)) hx hb dX7_figures_104 (by decide) ?_
      refine lv_iconst (v := (3 : Int32)) hx hb dX7_figures_105 (by decide) ?_
      obtain ⟨ho, h⟩ := h
      refine zr_Vv (As := [.int (4 : Int32), .int (6 : Int32), .int (5 : Int32), .int (3 : Int32)]) (rest := []) S hK hw (kX7_divide l lo g M15 v0 (4 : Int32) (6 : Int32) (5 : Int32) (3 : Int32) _ h) (cwV 4 hts (zg_V zu_501 zu_502 zu_503 zu_450 zu_504) rfl rfl rfl (by decide +kernel) ⟨Nat.le_of_ble_eq_true rfl, Nat.le_of_ble_eq_true rfl⟩) (ci := 10) rfl ho rfl hl.1 rfl (Nat.le_of_ble_eq_true rfl) dX7_figures_106 ⟨Nat.le_of_ble_eq_true rfl, Nat.le_of_ble_eq_true rfl⟩ (fun M16 H locs hw h => ?_)
      refine lv_aload_n hx hb dX7_figures_109 rfl (lv_at hl 0 rfl) ?_
      refine lv_bipush (v := (48 : Int32)) hx hb dX7_figures_110 (by decide) ?_
      refine lv_aload_n hx hb dX7_figures_112 rfl (lv_at hl 0 rfl) ?_
      refine lv_iconst (v := (4 : Int32)) hx hb dX7_figures_113 (by decide) ?_
      obtain ⟨ho, h⟩ := h
      refine zr_Vl (As := [.int (4 : Int32)]) (rest := [.int (48 : Int32), .ref v0]) S hK hw (kX7_asLong l lo g M16 v0 (4 : Int32) _ h) (cwV 1 hts (zg_V zu_572 zu_573 zu_574 zu_450 zu_575) rfl rfl rfl (by decide +kernel) ⟨Nat.le_of_ble_eq_true rfl, Nat.le_of_ble_eq_true rfl⟩) (ci := 10) rfl ho rfl hl.1 rfl (Nat.le_of_ble_eq_true rfl) dX7_figures_114 ⟨Nat.le_of_ble_eq_true rfl, Nat.le_of_ble_eq_true rfl⟩ (fun r18 M17 H locs hw h => ?_)
      refine lv_l2i hx hb dX7_figures_117 rfl ?_
      refine lv_iadd hx hb dX7_figures_118 ?_
      obtain ⟨ho, h⟩ := h
      refine zr_Vv (As := [.int ((48 : Int32) + (r18.toInt32))]) (rest := []) S hK hw (kX7_say l lo g M17 v0 ((48 : Int32) + (r18.toInt32)) _ h) (cwV 1 hts (zg_V zu_618 zu_619 zu_620 zu_450 zu_621) rfl rfl rfl (by decide +kernel) ⟨Nat.le_of_ble_eq_true rfl, Nat.le_of_ble_eq_true rfl⟩) (ci := 10) rfl ho rfl hl.1 rfl (Nat.le_of_ble_eq_true rfl) dX7_figures_119 ⟨Nat.le_of_ble_eq_true rfl, Nat.le_of_ble_eq_true rfl⟩ (fun M19 H locs hw h => ?_)
      refine lv_aload_n hx hb dX7_figures_122 rfl (lv_at hl 0 rfl) ?_
      refine lv_iconst (v := (5 : Int32)) hx hb dX7_figures_123 (by decide) ?_
      refine lv_bipush (v := (6 : Int32)) hx hb dX7_figures_124 (by decide) ?_
      obtain ⟨ho, h⟩ := h
      refine zr_Vv (As := [.int (5 : Int32), .int (6 : Int32)]) (rest := []) S hK hw (kX7_copy l lo g M19 v0 (5 : Int32) (6 : Int32) _ h) (cwV 2 hts (zg_V zu_465 zu_466 zu_467 zu_450 zu_468) rfl rfl rfl (by decide +kernel) ⟨Nat.le_of_ble_eq_true rfl, Nat.le_of_ble_eq_true rfl⟩) (ci := 10) rfl ho rfl hl.1 rfl (Nat.le_of_ble_eq_true rfl) dX7_figures_126 ⟨Nat.le_of_ble_eq_true rfl, Nat.le_of_ble_eq_true rfl⟩ (fun M20 H locs hw h => ?_)
      obtain ⟨x21, ex21⟩ : ∃ z : Int32, z = v3 + (1 : Int32) := ⟨_, rfl⟩
      have h := h x21 ex21
      refine lv_iinc (v := x21) (lv' := [(3, .int x21), (0, .ref v0), (2, .int v2)]) hx hb dX7_figures_129 hl (k := 2) rfl (by rw [ex21]; rfl) (by decide) rfl (fun ls hl => ?_)
      refine lv_goto (tgt := 86) hx hb dX7_figures_132 (by decide) ?_
      exact ih v0 v2 x21 _ h _ _ _ hw (lv_sub hl [1, 2, 0] rfl)
set_option maxHeartbeats 4000000 in
set_option maxRecDepth 100000 in
theorem sX7_figures_47 {p : Program} {l : Launch} {e : Env} {s : State} {m : MethodId} {args : Array Value} {below : List Frame} {meth : Method} {c : Code} {lo : Nat} {g : zg} {post : Int32 → zm_M → Prop}  (S : CallFix p m c cX7_figures 4 s args zU RX7) (hr : meth.sig.returnType = (some .int)) (hlocks : meth.locks = false) (hK : zk_K zNF zNM g s)  : ∀ (v0 : Nat) (v1 : Int32) (v2 : Int32) (M : zm_M), pX7_figures_47 g.2 post  v0 v1 v2 M → ∀ (H : Heap) (locs : List Loc) (ls : Array Slot), zW lo g s H locs M → lv_has ls 4 [(0, .ref v0), (1, .int v1), (2, .int v2)] → W p l e ({ frames := 4, cells := 0, slots := 0, locals := 112 } : Room) s m args below meth c H locs 0 0 (MQ below (va_Qi post (zc_B lo g) (zA lo)) args s 0 0 (zA lo)) (F0 m 47 ls []) := by
  obtain ⟨hx, hb, hml, hown, hts⟩ := id S
  intro v0 v1 v2 M h H locs ls hw hl
  unfold pX7_figures_47 at h
  refine lv_aload_n hx hb dX7_figures_47 rfl (lv_at hl 0 rfl) ?_
  refine lv_iconst (v := (2 : Int32)) hx hb dX7_figures_48 (by decide) ?_
  refine lv_iload_n hx hb dX7_figures_49 rfl (lv_at hl 1 rfl) ?_
  refine lv_iconst (v := (0 : Int32)) hx hb dX7_figures_50 (by decide) ?_
  obtain ⟨ho, h⟩ := h
  refine zr_Vv (As := [.int (2 : Int32), .int v1, .int (0 : Int32)]) (rest := []) S hK hw (kX7_take l lo g M v0 (2 : Int32) v1 (0 : Int32) _ h) (cwV 3 hts (zg_V zu_521 zu_522 zu_523 zu_450 zu_524) rfl rfl rfl (by decide +kernel) ⟨Nat.le_of_ble_eq_true rfl, Nat.le_of_ble_eq_true rfl⟩) (ci := 10) rfl ho rfl hl.1 rfl (Nat.le_of_ble_eq_true rfl) dX7_figures_51 ⟨Nat.le_of_ble_eq_true rfl, Nat.le_of_ble_eq_true rfl⟩ (fun M9 H locs hw h => ?_)
  refine lv_aload_n hx hb dX7_figures_54 rfl (lv_at hl 0 rfl) ?_
  refine lv_iconst (v := (3 : Int32)) hx hb dX7_figures_55 (by decide) ?_
  refine lv_iload_n hx hb dX7_figures_56 rfl (lv_at hl 1 rfl) ?_
  refine lv_iconst (v := (1 : Int32)) hx hb dX7_figures_57 (by decide) ?_
  obtain ⟨ho, h⟩ := h
  refine zr_Vv (As := [.int (3 : Int32), .int v1, .int (1 : Int32)]) (rest := []) S hK hw (kX7_take l lo g M9 v0 (3 : Int32) v1 (1 : Int32) _ h) (cwV 3 hts (zg_V zu_521 zu_522 zu_523 zu_450 zu_524) rfl rfl rfl (by decide +kernel) ⟨Nat.le_of_ble_eq_true rfl, Nat.le_of_ble_eq_true rfl⟩) (ci := 10) rfl ho rfl hl.1 rfl (Nat.le_of_ble_eq_true rfl) dX7_figures_58 ⟨Nat.le_of_ble_eq_true rfl, Nat.le_of_ble_eq_true rfl⟩ (fun M10 H locs hw h => ?_)
  refine lv_aload_n hx hb dX7_figures_61 rfl (lv_at hl 0 rfl) ?_
  refine lv_iconst (v := (4 : Int32)) hx hb dX7_figures_62 (by decide) ?_
  refine lv_iconst (v := (5 : Int32)) hx hb dX7_figures_63 (by decide) ?_
  refine lv_iconst (v := (2 : Int32)) hx hb dX7_figures_64 (by decide) ?_
  refine lv_iconst (v := (3 : Int32)) hx hb dX7_figures_65 (by decide) ?_
  obtain ⟨ho, h⟩ := h
  refine zr_Vv (As := [.int (4 : Int32), .int (5 : Int32), .int (2 : Int32), .int (3 : Int32)]) (rest := []) S hK hw (kX7_divide l lo g M10 v0 (4 : Int32) (5 : Int32) (2 : Int32) (3 : Int32) _ h) (cwV 4 hts (zg_V zu_501 zu_502 zu_503 zu_450 zu_504) rfl rfl rfl (by decide +kernel) ⟨Nat.le_of_ble_eq_true rfl, Nat.le_of_ble_eq_true rfl⟩) (ci := 10) rfl ho rfl hl.1 rfl (Nat.le_of_ble_eq_true rfl) dX7_figures_66 ⟨Nat.le_of_ble_eq_true rfl, Nat.le_of_ble_eq_true rfl⟩ (fun M11 H locs hw h => ?_)
  refine lv_aload_n hx hb dX7_figures_69 rfl (lv_at hl 0 rfl) ?_
  refine lv_iconst (v := (4 : Int32)) hx hb dX7_figures_70 (by decide) ?_
  obtain ⟨ho, h⟩ := h
  refine zr_Vv (As := [.int (4 : Int32)]) (rest := []) S hK hw (kX7_write l lo g M11 v0 (4 : Int32) _ h) (cwV 1 hts (zg_V zu_622 zu_623 zu_624 zu_450 zu_625) rfl rfl rfl (by decide +kernel) ⟨Nat.le_of_ble_eq_true rfl, Nat.le_of_ble_eq_true rfl⟩) (ci := 10) rfl ho rfl hl.1 rfl (Nat.le_of_ble_eq_true rfl) dX7_figures_71 ⟨Nat.le_of_ble_eq_true rfl, Nat.le_of_ble_eq_true rfl⟩ (fun M12 H locs hw h => ?_)
  refine lv_iload_n hx hb dX7_figures_74 rfl (lv_at hl 2 rfl) ?_
  refine lv_if_le (tgt := 84) hx hb dX7_figures_75 (by decide) (fun hc => ?_) (fun hc => ?_)
  · have h := h.1 hc
    refine lv_iconst (v := (0 : Int32)) hx hb dX7_figures_84 (by decide) ?_
    refine lv_topi (fun x13 ex13 => ?_)
    have h := h x13 ex13
    refine lv_istore_n (lv' := [(3, .int x13), (0, .ref v0), (1, .int v1), (2, .int v2)]) hx hb dX7_figures_85 rfl hl (by decide) rfl (fun ls hl => ?_)
    obtain ⟨n86, h⟩ := h
    refine sX7_figures_86 S hr hlocks hK  n86 v0 v2 x13 _ h _ _ _ hw (lv_sub hl [1, 3, 0] rfl)
  · have h := h.2 hc
    refine lv_aload_n hx hb dX7_figures_78 rfl (lv_at hl 0 rfl) ?_
    refine lv_bipush (v := (46 : Int32)) hx hb dX7_figures_79 (by decide) ?_
    obtain ⟨ho, h⟩ := h
    refine zr_Vv (As := [.int (46 : Int32)]) (rest := []) S hK hw (kX7_say l lo g M12 v0 (46 : Int32) _ h) (cwV 1 hts (zg_V zu_618 zu_619 zu_620 zu_450 zu_621) rfl rfl rfl (by decide +kernel) ⟨Nat.le_of_ble_eq_true rfl, Nat.le_of_ble_eq_true rfl⟩) (ci := 10) rfl ho rfl hl.1 rfl (Nat.le_of_ble_eq_true rfl) dX7_figures_81 ⟨Nat.le_of_ble_eq_true rfl, Nat.le_of_ble_eq_true rfl⟩ (fun M22 H locs hw h => ?_)
    refine lv_iconst (v := (0 : Int32)) hx hb dX7_figures_84 (by decide) ?_
    refine lv_topi (fun x23 ex23 => ?_)
    have h := h x23 ex23
    refine lv_istore_n (lv' := [(3, .int x23), (0, .ref v0), (1, .int v1), (2, .int v2)]) hx hb dX7_figures_85 rfl hl (by decide) rfl (fun ls hl => ?_)
    obtain ⟨n86, h⟩ := h
    refine sX7_figures_86 S hr hlocks hK  n86 v0 v2 x23 _ h _ _ _ hw (lv_sub hl [1, 3, 0] rfl)
set_option maxHeartbeats 4000000 in
set_option maxRecDepth 100000 in
theorem kX7_figures (l : Launch) (lo : Nat) (g : zg) (M : zm_M) (a0 : Nat) (a1 : Int32) (a2 : Int32) (post : Int32 → zm_M → Prop) (h : pX7_figures g.2 a0 a1 a2 post M) : Met l yX7_figures (Cond.code yX7_figures cX7_figures 4 (some .int) :: zU) (({ frames := 4, cells := 0, slots := 0, locals := 112 } : Room)) (zc_P zNF zNM lo g M [.ref a0, .int a1, .int a2]) (va_Qi post (zc_B lo g) (zA lo)) 0 0 (zA lo) := by
  refine Met.ofW (cc := cX7_figures) (maxL := 4) (ret := (some .int)) (by decide) rfl ?_
  intro p e s m args below meth c s₁ B hml hv
  obtain ⟨rfl, hR, hK⟩ := hv
  have hts := atoms_spec (ws := Cond.code yX7_figures cX7_figures 4 (some .int) :: zU) B.pre
  have hts : ∀ w ∈ zU, w.before _ s = true := fun w hw => hts w (List.mem_cons_of_mem _ hw)
  have hown : s.vm.findClass RX7 = some m.cls := findClass_of_methodNamed B.named
  have hx := B.exec
  have hb := B.bytes
  have hr := B.returns
  have hlocks := B.notSynchronized
  have S : CallFix p m c cX7_figures 4 s ([.ref a0, .int a1, .int a2] : List Value).toArray zU RX7 := ⟨hx, hb, hml, hown, hts⟩
  have hw : zW lo g s s.heap [] M := ⟨hR, va_S.rf⟩
  have hl := lv_entry ([.ref a0, .int a1, .int a2]) (n := 4) (Nat.le_of_ble_eq_true rfl)
  rw [lg_entry_eq]
  generalize (lg_sl ([.ref a0, .int a1, .int a2]) ++ List.replicate (4 - (lg_sl ([.ref a0, .int a1, .int a2])).length) Slot.unset).toArray = ls at hl ⊢
  have hl : lv_has ls 4 [(0, .ref a0), (1, .int a1), (2, .int a2)] := hl
  unfold pX7_figures at h
  refine lv_aload_n hx hb dX7_figures_0 rfl (lv_at hl 0 rfl) ?_
  refine lv_iconst (v := (0 : Int32)) hx hb dX7_figures_1 (by decide) ?_
  refine zr_p (C := RX7) (T := TX7) (N := 14) (ci := 10) (k := 0) S hK hw zi_X7 tyX7 tyX7_ok nmX7 rfl (by decide) zu_443 rfl rfl rfl dX7_figures_2 h (fun M1 H locs hw h => ?_)
  refine lv_aload_n hx hb dX7_figures_5 rfl (lv_at hl 0 rfl) ?_
  refine lv_iload_n hx hb dX7_figures_6 rfl (lv_at hl 1 rfl) ?_
  obtain ⟨ho, h⟩ := h
  refine zr_Vi (As := [.int a1]) (rest := []) S hK hw (kX7_isNumber l lo g M1 a0 a1 _ h) (cwV 1 hts (zg_V zu_517 zu_518 zu_519 zu_450 zu_520) rfl rfl rfl (by decide +kernel) ⟨Nat.le_of_ble_eq_true rfl, Nat.le_of_ble_eq_true rfl⟩) (ci := 10) rfl ho rfl hl.1 rfl (Nat.le_of_ble_eq_true rfl) dX7_figures_7 ⟨Nat.le_of_ble_eq_true rfl, Nat.le_of_ble_eq_true rfl⟩ (fun r3 M2 H locs hw h => ?_)
  refine lv_if_eq (tgt := 25) hx hb dX7_figures_10 (by decide) (fun hc => ?_) (fun hc => ?_)
  · have h := h.1 hc
    refine lv_iconst (v := (-1 : Int32)) hx hb dX7_figures_25 (by decide) ?_
    exact zr_ri S hr hlocks hw h dX7_figures_26
  · have h := h.2 hc
    refine lv_iload_n hx hb dX7_figures_13 rfl (lv_at hl 2 rfl) ?_
    refine lv_i2l hx hb dX7_figures_14 rfl ?_
    refine lv_lconst (v := (0 : Int64)) hx hb dX7_figures_15 (by decide) ?_
    refine lv_ldc2 (v := (100 : Int64)) hx hb hown (hts _ zu_626) dX7_figures_16 ?_
    refine zr_Si (As := [.long (a2.toInt64), .long (0 : Int64), .long (100 : Int64)]) (rest := []) S hK hw (kX7_in l lo g M2 (a2.toInt64) (0 : Int64) (100 : Int64) _ h) (va_cwS 3 hts (zg_S zu_482 zu_483 zu_450 zu_484) rfl rfl rfl (by decide +kernel) ⟨Nat.le_of_ble_eq_true rfl, Nat.le_of_ble_eq_true rfl⟩) rfl hl.1 rfl (Nat.le_of_ble_eq_true rfl) dX7_figures_19 ⟨Nat.le_of_ble_eq_true rfl, Nat.le_of_ble_eq_true rfl⟩ (fun r5 M4 H locs hw h => ?_)
    refine lv_if_ne (tgt := 27) hx hb dX7_figures_22 (by decide) (fun hc => ?_) (fun hc => ?_)
    · have h := h.1 hc
      refine lv_aload_n hx hb dX7_figures_27 rfl (lv_at hl 0 rfl) ?_
      refine lv_iconst (v := (0 : Int32)) hx hb dX7_figures_28 (by decide) ?_
      refine zr_p (C := RX7) (T := TX7) (N := 14) (ci := 10) (k := 8) S hK hw zi_X7 tyX7 tyX7_ok nmX7 rfl (by decide) zu_612 rfl rfl rfl dX7_figures_29 h (fun M6 H locs hw h => ?_)
      refine lv_aload_n hx hb dX7_figures_32 rfl (lv_at hl 0 rfl) ?_
      refine zr_ga (C := RX7) (T := TX7) (N := 14) (ci := 10) (k := 2) S hK hw zi_X7 rfl (by decide) zu_496 dX7_figures_33 h (fun sign_7 h => ?_)
      refine lv_iload_n hx hb dX7_figures_36 rfl (lv_at hl 1 rfl) ?_
      refine zr_iald S hK hw dX7_figures_37 h (fun e8 h => ?_)
      refine lv_if_ge (tgt := 47) hx hb dX7_figures_38 (by decide) (fun hc => ?_) (fun hc => ?_)
      · have h := h.1 hc
        exact sX7_figures_47 S hr hlocks hK  a0 a1 a2 _ h _ _ _ hw (lv_sub hl [0, 1, 2] rfl)
      · have h := h.2 hc
        refine lv_aload_n hx hb dX7_figures_41 rfl (lv_at hl 0 rfl) ?_
        refine lv_bipush (v := (45 : Int32)) hx hb dX7_figures_42 (by decide) ?_
        obtain ⟨ho, h⟩ := h
        refine zr_Vv (As := [.int (45 : Int32)]) (rest := []) S hK hw (kX7_say l lo g M6 a0 (45 : Int32) _ h) (cwV 1 hts (zg_V zu_618 zu_619 zu_620 zu_450 zu_621) rfl rfl rfl (by decide +kernel) ⟨Nat.le_of_ble_eq_true rfl, Nat.le_of_ble_eq_true rfl⟩) (ci := 10) rfl ho rfl hl.1 rfl (Nat.le_of_ble_eq_true rfl) dX7_figures_44 ⟨Nat.le_of_ble_eq_true rfl, Nat.le_of_ble_eq_true rfl⟩ (fun M24 H locs hw h => ?_)
        exact sX7_figures_47 S hr hlocks hK  a0 a1 a2 _ h _ _ _ hw (lv_sub hl [0, 1, 2] rfl)
    · have h := h.2 hc
      refine lv_iconst (v := (-1 : Int32)) hx hb dX7_figures_25 (by decide) ?_
      exact zr_ri S hr hlocks hw h dX7_figures_26
set_option maxHeartbeats 4000000 in
set_option maxRecDepth 100000 in
theorem kX7_out (l : Launch) (lo : Nat) (g : zg) (M : zm_M) (a0 : Nat) (a1 : Int32) (post : Int32 → zm_M → Prop) (h : pX7_out g.2 a0 a1 post M) : Met l yX7_out (Cond.code yX7_out cX7_out 2 (some .int) :: zU) (({ frames := 2, cells := 0, slots := 0, locals := 65 } : Room)) (zc_P zNF zNM lo g M [.ref a0, .int a1]) (va_Qi post (zc_B lo g) (zA lo)) 0 0 (zA lo) := by
  refine Met.ofW (cc := cX7_out) (maxL := 2) (ret := (some .int)) (by decide) rfl ?_
  intro p e s m args below meth c s₁ B hml hv
  obtain ⟨rfl, hR, hK⟩ := hv
  have hts := atoms_spec (ws := Cond.code yX7_out cX7_out 2 (some .int) :: zU) B.pre
  have hts : ∀ w ∈ zU, w.before _ s = true := fun w hw => hts w (List.mem_cons_of_mem _ hw)
  have hown : s.vm.findClass RX7 = some m.cls := findClass_of_methodNamed B.named
  have hx := B.exec
  have hb := B.bytes
  have hr := B.returns
  have hlocks := B.notSynchronized
  have S : CallFix p m c cX7_out 2 s ([.ref a0, .int a1] : List Value).toArray zU RX7 := ⟨hx, hb, hml, hown, hts⟩
  have hw : zW lo g s s.heap [] M := ⟨hR, va_S.rf⟩
  have hl := lv_entry ([.ref a0, .int a1]) (n := 2) (Nat.le_of_ble_eq_true rfl)
  rw [lg_entry_eq]
  generalize (lg_sl ([.ref a0, .int a1]) ++ List.replicate (2 - (lg_sl ([.ref a0, .int a1])).length) Slot.unset).toArray = ls at hl ⊢
  have hl : lv_has ls 2 [(0, .ref a0), (1, .int a1)] := hl
  unfold pX7_out at h
  refine lv_aload_n hx hb dX7_out_0 rfl (lv_at hl 0 rfl) ?_
  refine lv_iconst (v := (0 : Int32)) hx hb dX7_out_1 (by decide) ?_
  refine zr_p (C := RX7) (T := TX7) (N := 14) (ci := 10) (k := 0) S hK hw zi_X7 tyX7 tyX7_ok nmX7 rfl (by decide) zu_443 rfl rfl rfl dX7_out_2 h (fun M1 H locs hw h => ?_)
  refine lv_iload_n hx hb dX7_out_5 rfl (lv_at hl 1 rfl) ?_
  refine lv_i2l hx hb dX7_out_6 rfl ?_
  refine lv_lconst (v := (0 : Int64)) hx hb dX7_out_7 (by decide) ?_
  refine lv_aload_n hx hb dX7_out_8 rfl (lv_at hl 0 rfl) ?_
  refine zr_gi (C := RX7) (T := TX7) (N := 14) (ci := 10) (k := 8) S hK hw zi_X7 rfl (by decide) zu_612 dX7_out_9 h (fun outMany_2 h => ?_)
  refine lv_iconst (v := (1 : Int32)) hx hb dX7_out_12 (by decide) ?_
  refine lv_isub hx hb dX7_out_13 ?_
  refine lv_i2l hx hb dX7_out_14 rfl ?_
  refine zr_Si (As := [.long (a1.toInt64), .long (0 : Int64), .long ((outMany_2 - (1 : Int32)).toInt64)]) (rest := []) S hK hw (kX7_in l lo g M1 (a1.toInt64) (0 : Int64) ((outMany_2 - (1 : Int32)).toInt64) _ h) (va_cwS 3 hts (zg_S zu_482 zu_483 zu_450 zu_484) rfl rfl rfl (by decide +kernel) ⟨Nat.le_of_ble_eq_true rfl, Nat.le_of_ble_eq_true rfl⟩) rfl hl.1 rfl (Nat.le_of_ble_eq_true rfl) dX7_out_15 ⟨Nat.le_of_ble_eq_true rfl, Nat.le_of_ble_eq_true rfl⟩ (fun r4 M3 H locs hw h => ?_)
  refine lv_if_eq (tgt := 30) hx hb dX7_out_18 (by decide) (fun hc => ?_) (fun hc => ?_)
  · have h := h.1 hc
    refine lv_bipush (v := (-5 : Int32)) hx hb dX7_out_30 (by decide) ?_
    exact zr_ri S hr hlocks hw h dX7_out_32
  · have h := h.2 hc
    refine lv_aload_n hx hb dX7_out_21 rfl (lv_at hl 0 rfl) ?_
    refine zr_ga (C := RX7) (T := TX7) (N := 14) (ci := 10) (k := 7) S hK hw zi_X7 rfl (by decide) zu_611 dX7_out_22 h (fun out_5 h => ?_)
    refine lv_iload_n hx hb dX7_out_25 rfl (lv_at hl 1 rfl) ?_
    refine zr_iald S hK hw dX7_out_26 h (fun e6 h => ?_)
    refine lv_goto (tgt := 32) hx hb dX7_out_27 (by decide) ?_
    exact zr_ri S hr hlocks hw h dX7_out_32
set_option maxHeartbeats 4000000 in
set_option maxRecDepth 100000 in
theorem sX7_period_34 {p : Program} {l : Launch} {e : Env} {s : State} {m : MethodId} {args : Array Value} {below : List Frame} {meth : Method} {c : Code} {lo : Nat} {g : zg} {post : Int32 → zm_M → Prop} {k53 : Nat → Int32 → Int32 → zm_M → Prop} (S : CallFix p m c cX7_period 10 s args zU RX7) (hr : meth.sig.returnType = (some .int)) (hlocks : meth.locks = false) (hK : zk_K zNF zNM g s) (hk53 : ∀ (v0 : Nat) (v2 : Int32) (v3 : Int32) (M : zm_M), k53 v0 v2 v3 M → ∀ (H : Heap) (locs : List Loc) (ls : Array Slot), zW lo g s H locs M → lv_has ls 10 [(0, .ref v0), (2, .int v2), (3, .int v3)] → W p l e ({ frames := 3, cells := 0, slots := 0, locals := 87 } : Room) s m args below meth c H locs 0 0 (MQ below (va_Qi post (zc_B lo g) (zA lo)) args s 0 0 (zA lo)) (F0 m 53 ls [])) : ∀ (n : Nat) (v0 : Nat) (v2 : Int32) (v3 : Int32) (M : zm_M), pX7_period_34 g.2 post k53 n v0 v2 v3 M → ∀ (H : Heap) (locs : List Loc) (ls : Array Slot), zW lo g s H locs M → lv_has ls 10 [(0, .ref v0), (2, .int v2), (3, .int v3)] → W p l e ({ frames := 3, cells := 0, slots := 0, locals := 87 } : Room) s m args below meth c H locs 0 0 (MQ below (va_Qi post (zc_B lo g) (zA lo)) args s 0 0 (zA lo)) (F0 m 34 ls []) := by
  obtain ⟨hx, hb, hml, hown, hts⟩ := id S
  intro n
  induction n with
  | zero =>
    intro v0 v2 v3 M h
    exact False.elim h
  | succ n34 ih =>
    intro v0 v2 v3 M h H locs ls hw hl
    rw [pX7_period_34] at h
    refine lv_aload_n hx hb dX7_period_34 rfl (lv_at hl 0 rfl) ?_
    refine lv_iconst (v := (2 : Int32)) hx hb dX7_period_35 (by decide) ?_
    obtain ⟨ho, h⟩ := h
    refine zr_Vi (As := [.int (2 : Int32)]) (rest := []) S hK hw (kX7_isOdd l lo g M v0 (2 : Int32) _ h) (cwV 1 hts (zg_V zu_469 zu_470 zu_471 zu_450 zu_472) rfl rfl rfl (by decide +kernel) ⟨Nat.le_of_ble_eq_true rfl, Nat.le_of_ble_eq_true rfl⟩) (ci := 10) rfl ho rfl hl.1 rfl (Nat.le_of_ble_eq_true rfl) dX7_period_36 ⟨Nat.le_of_ble_eq_true rfl, Nat.le_of_ble_eq_true rfl⟩ (fun r9 M8 H locs hw h => ?_)
    refine lv_if_ne (tgt := 53) hx hb dX7_period_39 (by decide) (fun hc => ?_) (fun hc => ?_)
    · have h := h.1 hc
      exact hk53 v0 v2 v3 _ h _ _ _ hw (lv_sub hl [0, 1, 2] rfl)
    · have h := h.2 hc
      refine lv_aload_n hx hb dX7_period_42 rfl (lv_at hl 0 rfl) ?_
      refine lv_iconst (v := (2 : Int32)) hx hb dX7_period_43 (by decide) ?_
      obtain ⟨ho, h⟩ := h
      refine zr_Vv (As := [.int (2 : Int32)]) (rest := []) S hK hw (kX7_half l lo g M8 v0 (2 : Int32) _ h) (cwV 1 hts (zg_V zu_473 zu_474 zu_475 zu_450 zu_476) rfl rfl rfl (by decide +kernel) ⟨Nat.le_of_ble_eq_true rfl, Nat.le_of_ble_eq_true rfl⟩) (ci := 10) rfl ho rfl hl.1 rfl (Nat.le_of_ble_eq_true rfl) dX7_period_44 ⟨Nat.le_of_ble_eq_true rfl, Nat.le_of_ble_eq_true rfl⟩ (fun M10 H locs hw h => ?_)
      obtain ⟨x11, ex11⟩ : ∃ z : Int32, z = v3 + (1 : Int32) := ⟨_, rfl⟩
      have h := h x11 ex11
      refine lv_iinc (v := x11) (lv' := [(3, .int x11), (0, .ref v0), (2, .int v2)]) hx hb dX7_period_47 hl (k := 2) rfl (by rw [ex11]; rfl) (by decide) rfl (fun ls hl => ?_)
      refine lv_goto (tgt := 34) hx hb dX7_period_50 (by decide) ?_
      exact ih v0 v2 x11 _ h _ _ _ hw (lv_sub hl [1, 2, 0] rfl)
set_option maxHeartbeats 4000000 in
set_option maxRecDepth 100000 in
theorem sX7_period_62 {p : Program} {l : Launch} {e : Env} {s : State} {m : MethodId} {args : Array Value} {below : List Frame} {meth : Method} {c : Code} {lo : Nat} {g : zg} {post : Int32 → zm_M → Prop} {k87 : Nat → Int32 → Int32 → Int32 → zm_M → Prop} (S : CallFix p m c cX7_period 10 s args zU RX7) (hr : meth.sig.returnType = (some .int)) (hlocks : meth.locks = false) (hK : zk_K zNF zNM g s) (hk87 : ∀ (v0 : Nat) (v2 : Int32) (v3 : Int32) (v4 : Int32) (M : zm_M), k87 v0 v2 v3 v4 M → ∀ (H : Heap) (locs : List Loc) (ls : Array Slot), zW lo g s H locs M → lv_has ls 10 [(0, .ref v0), (2, .int v2), (3, .int v3), (4, .int v4)] → W p l e ({ frames := 3, cells := 0, slots := 0, locals := 87 } : Room) s m args below meth c H locs 0 0 (MQ below (va_Qi post (zc_B lo g) (zA lo)) args s 0 0 (zA lo)) (F0 m 87 ls [])) : ∀ (n : Nat) (v0 : Nat) (v2 : Int32) (v3 : Int32) (v4 : Int32) (M : zm_M), pX7_period_62 g.2 post k87 n v0 v2 v3 v4 M → ∀ (H : Heap) (locs : List Loc) (ls : Array Slot), zW lo g s H locs M → lv_has ls 10 [(0, .ref v0), (2, .int v2), (3, .int v3), (4, .int v4)] → W p l e ({ frames := 3, cells := 0, slots := 0, locals := 87 } : Room) s m args below meth c H locs 0 0 (MQ below (va_Qi post (zc_B lo g) (zA lo)) args s 0 0 (zA lo)) (F0 m 62 ls []) := by
  obtain ⟨hx, hb, hml, hown, hts⟩ := id S
  intro n
  induction n with
  | zero =>
    intro v0 v2 v3 v4 M h
    exact False.elim h
  | succ n62 ih =>
    intro v0 v2 v3 v4 M h H locs ls hw hl
    rw [pX7_period_62] at h
    refine lv_aload_n hx hb dX7_period_62 rfl (lv_at hl 0 rfl) ?_
    refine lv_iconst (v := (3 : Int32)) hx hb dX7_period_63 (by decide) ?_
    refine lv_ldc2 (v := (5 : Int64)) hx hb hown (hts _ zu_627) dX7_period_64 ?_
    obtain ⟨ho, h⟩ := h
    refine zr_Vl (As := [.int (3 : Int32), .long (5 : Int64)]) (rest := []) S hK hw (kX7_bySmall l lo g M v0 (3 : Int32) (5 : Int64) _ h) (cwV 2 hts (zg_V zu_614 zu_615 zu_616 zu_450 zu_617) rfl rfl rfl (by decide +kernel) ⟨Nat.le_of_ble_eq_true rfl, Nat.le_of_ble_eq_true rfl⟩) (ci := 10) rfl ho rfl hl.1 rfl (Nat.le_of_ble_eq_true rfl) dX7_period_67 ⟨Nat.le_of_ble_eq_true rfl, Nat.le_of_ble_eq_true rfl⟩ (fun r19 M18 H locs hw h => ?_)
    refine lv_lconst (v := (0 : Int64)) hx hb dX7_period_70 (by decide) ?_
    refine W.lcmp hx hb dX7_period_71 ?_
    refine lv_if_ne (tgt := 87) hx hb dX7_period_72 (by decide) (fun hc => ?_) (fun hc => ?_)
    · have h := h.1 (fun q => hc (zc_eq.mpr q))
      exact hk87 v0 v2 v3 v4 _ h _ _ _ hw (lv_sub hl [0, 1, 2, 3] rfl)
    · have h := h.2 (zc_eq.mp hc)
      refine lv_aload_n hx hb dX7_period_75 rfl (lv_at hl 0 rfl) ?_
      refine lv_iconst (v := (2 : Int32)) hx hb dX7_period_76 (by decide) ?_
      refine lv_iconst (v := (3 : Int32)) hx hb dX7_period_77 (by decide) ?_
      obtain ⟨ho, h⟩ := h
      refine zr_Vv (As := [.int (2 : Int32), .int (3 : Int32)]) (rest := []) S hK hw (kX7_copy l lo g M18 v0 (2 : Int32) (3 : Int32) _ h) (cwV 2 hts (zg_V zu_465 zu_466 zu_467 zu_450 zu_468) rfl rfl rfl (by decide +kernel) ⟨Nat.le_of_ble_eq_true rfl, Nat.le_of_ble_eq_true rfl⟩) (ci := 10) rfl ho rfl hl.1 rfl (Nat.le_of_ble_eq_true rfl) dX7_period_78 ⟨Nat.le_of_ble_eq_true rfl, Nat.le_of_ble_eq_true rfl⟩ (fun M20 H locs hw h => ?_)
      obtain ⟨x21, ex21⟩ : ∃ z : Int32, z = v4 + (1 : Int32) := ⟨_, rfl⟩
      have h := h x21 ex21
      refine lv_iinc (v := x21) (lv' := [(4, .int x21), (0, .ref v0), (2, .int v2), (3, .int v3)]) hx hb dX7_period_81 hl (k := 3) rfl (by rw [ex21]; rfl) (by decide) rfl (fun ls hl => ?_)
      refine lv_goto (tgt := 62) hx hb dX7_period_84 (by decide) ?_
      exact ih v0 v2 v3 x21 _ h _ _ _ hw (lv_sub hl [1, 2, 3, 0] rfl)
set_option maxHeartbeats 4000000 in
set_option maxRecDepth 100000 in
theorem sX7_period_162 {p : Program} {l : Launch} {e : Env} {s : State} {m : MethodId} {args : Array Value} {below : List Frame} {meth : Method} {c : Code} {lo : Nat} {g : zg} {post : Int32 → zm_M → Prop}  (S : CallFix p m c cX7_period 10 s args zU RX7) (hr : meth.sig.returnType = (some .int)) (hlocks : meth.locks = false) (hK : zk_K zNF zNM g s)  : ∀ (n : Nat) (v5 : Int64) (v7 : Int32) (v8 : Int64) (M : zm_M), pX7_period_162 g.2 post  n v5 v7 v8 M → ∀ (H : Heap) (locs : List Loc) (ls : Array Slot), zW lo g s H locs M → lv_has ls 10 [(5, .long v5), (7, .int v7), (8, .long v8)] → W p l e ({ frames := 3, cells := 0, slots := 0, locals := 87 } : Room) s m args below meth c H locs 0 0 (MQ below (va_Qi post (zc_B lo g) (zA lo)) args s 0 0 (zA lo)) (F0 m 162 ls []) := by
  obtain ⟨hx, hb, hml, hown, hts⟩ := id S
  intro n
  induction n with
  | zero =>
    intro v5 v7 v8 M h
    exact False.elim h
  | succ n162 ih =>
    intro v5 v7 v8 M h H locs ls hw hl
    rw [pX7_period_162] at h
    refine lv_lload hx hb dX7_period_162 (lv_at hl 2 rfl) ?_
    refine lv_lconst (v := (1 : Int64)) hx hb dX7_period_164 (by decide) ?_
    refine W.lcmp hx hb dX7_period_165 ?_
    refine lv_if_eq (tgt := 186) hx hb dX7_period_166 (by decide) (fun hc => ?_) (fun hc => ?_)
    · have h := h.1 (zc_eq.mp hc)
      refine lv_iload hx hb dX7_period_186 (lv_at hl 1 rfl) ?_
      exact zr_ri S hr hlocks hw h dX7_period_188
    · have h := h.2 (fun q => hc (zc_eq.mpr q))
      obtain ⟨x35, ex35⟩ : ∃ z : Int32, z = v7 + (1 : Int32) := ⟨_, rfl⟩
      have h := h x35 ex35
      refine lv_iinc (v := x35) (lv' := [(7, .int x35), (5, .long v5), (8, .long v8)]) hx hb dX7_period_169 hl (k := 1) rfl (by rw [ex35]; rfl) (by decide) rfl (fun ls hl => ?_)
      refine lv_lload hx hb dX7_period_172 (lv_at hl 2 rfl) ?_
      refine lv_ldc2 (v := (10 : Int64)) hx hb hown (hts _ zu_602) dX7_period_174 ?_
      refine lv_lmul hx hb dX7_period_177 ?_
      refine lv_lload hx hb dX7_period_178 (lv_at hl 1 rfl) ?_
      refine lv_lrem hx hb dX7_period_180 h.1 ?_
      have h := h.2
      refine lv_topl (fun x36 ex36 => ?_)
      have h := h x36 ex36
      refine lv_lstore (lv' := [(8, .long x36), (7, .int x35), (5, .long v5)]) hx hb dX7_period_181 hl (by decide) rfl (fun ls hl => ?_)
      refine lv_goto (tgt := 162) hx hb dX7_period_183 (by decide) ?_
      exact ih v5 x35 x36 _ h _ _ _ hw (lv_sub hl [2, 1, 0] rfl)
set_option maxHeartbeats 4000000 in
set_option maxRecDepth 100000 in
theorem kX7_period (l : Launch) (lo : Nat) (g : zg) (M : zm_M) (a0 : Nat) (a1 : Int32) (a2 : Int32) (post : Int32 → zm_M → Prop) (h : pX7_period g.2 a0 a1 a2 post M) : Met l yX7_period (Cond.code yX7_period cX7_period 10 (some .int) :: zU) (({ frames := 3, cells := 0, slots := 0, locals := 87 } : Room)) (zc_P zNF zNM lo g M [.ref a0, .int a1, .int a2]) (va_Qi post (zc_B lo g) (zA lo)) 0 0 (zA lo) := by
  refine Met.ofW (cc := cX7_period) (maxL := 10) (ret := (some .int)) (by decide) rfl ?_
  intro p e s m args below meth c s₁ B hml hv
  obtain ⟨rfl, hR, hK⟩ := hv
  have hts := atoms_spec (ws := Cond.code yX7_period cX7_period 10 (some .int) :: zU) B.pre
  have hts : ∀ w ∈ zU, w.before _ s = true := fun w hw => hts w (List.mem_cons_of_mem _ hw)
  have hown : s.vm.findClass RX7 = some m.cls := findClass_of_methodNamed B.named
  have hx := B.exec
  have hb := B.bytes
  have hr := B.returns
  have hlocks := B.notSynchronized
  have S : CallFix p m c cX7_period 10 s ([.ref a0, .int a1, .int a2] : List Value).toArray zU RX7 := ⟨hx, hb, hml, hown, hts⟩
  have hw : zW lo g s s.heap [] M := ⟨hR, va_S.rf⟩
  have hl := lv_entry ([.ref a0, .int a1, .int a2]) (n := 10) (Nat.le_of_ble_eq_true rfl)
  rw [lg_entry_eq]
  generalize (lg_sl ([.ref a0, .int a1, .int a2]) ++ List.replicate (10 - (lg_sl ([.ref a0, .int a1, .int a2])).length) Slot.unset).toArray = ls at hl ⊢
  have hl : lv_has ls 10 [(0, .ref a0), (1, .int a1), (2, .int a2)] := hl
  unfold pX7_period at h
  refine lv_aload_n hx hb dX7_period_0 rfl (lv_at hl 0 rfl) ?_
  refine lv_iconst (v := (0 : Int32)) hx hb dX7_period_1 (by decide) ?_
  refine zr_p (C := RX7) (T := TX7) (N := 14) (ci := 10) (k := 0) S hK hw zi_X7 tyX7 tyX7_ok nmX7 rfl (by decide) zu_443 rfl rfl rfl dX7_period_2 h (fun M1 H locs hw h => ?_)
  refine lv_aload_n hx hb dX7_period_5 rfl (lv_at hl 0 rfl) ?_
  refine lv_iload_n hx hb dX7_period_6 rfl (lv_at hl 1 rfl) ?_
  obtain ⟨ho, h⟩ := h
  refine zr_Vi (As := [.int a1]) (rest := []) S hK hw (kX7_isNumber l lo g M1 a0 a1 _ h) (cwV 1 hts (zg_V zu_517 zu_518 zu_519 zu_450 zu_520) rfl rfl rfl (by decide +kernel) ⟨Nat.le_of_ble_eq_true rfl, Nat.le_of_ble_eq_true rfl⟩) (ci := 10) rfl ho rfl hl.1 rfl (Nat.le_of_ble_eq_true rfl) dX7_period_7 ⟨Nat.le_of_ble_eq_true rfl, Nat.le_of_ble_eq_true rfl⟩ (fun r3 M2 H locs hw h => ?_)
  refine lv_if_eq (tgt := 23) hx hb dX7_period_10 (by decide) (fun hc => ?_) (fun hc => ?_)
  · have h := h.1 hc
    refine lv_iconst (v := (-1 : Int32)) hx hb dX7_period_23 (by decide) ?_
    exact zr_ri S hr hlocks hw h dX7_period_24
  · have h := h.2 hc
    refine lv_iload_n hx hb dX7_period_13 rfl (lv_at hl 2 rfl) ?_
    refine lv_i2l hx hb dX7_period_14 rfl ?_
    refine lv_lconst (v := (0 : Int64)) hx hb dX7_period_15 (by decide) ?_
    refine lv_lconst (v := (1 : Int64)) hx hb dX7_period_16 (by decide) ?_
    refine zr_Si (As := [.long (a2.toInt64), .long (0 : Int64), .long (1 : Int64)]) (rest := []) S hK hw (kX7_in l lo g M2 (a2.toInt64) (0 : Int64) (1 : Int64) _ h) (va_cwS 3 hts (zg_S zu_482 zu_483 zu_450 zu_484) rfl rfl rfl (by decide +kernel) ⟨Nat.le_of_ble_eq_true rfl, Nat.le_of_ble_eq_true rfl⟩) rfl hl.1 rfl (Nat.le_of_ble_eq_true rfl) dX7_period_17 ⟨Nat.le_of_ble_eq_true rfl, Nat.le_of_ble_eq_true rfl⟩ (fun r5 M4 H locs hw h => ?_)
    refine lv_if_ne (tgt := 25) hx hb dX7_period_20 (by decide) (fun hc => ?_) (fun hc => ?_)
    · have h := h.1 hc
      refine lv_aload_n hx hb dX7_period_25 rfl (lv_at hl 0 rfl) ?_
      refine lv_iconst (v := (2 : Int32)) hx hb dX7_period_26 (by decide) ?_
      refine lv_iload_n hx hb dX7_period_27 rfl (lv_at hl 1 rfl) ?_
      refine lv_iconst (v := (1 : Int32)) hx hb dX7_period_28 (by decide) ?_
      obtain ⟨ho, h⟩ := h
      refine zr_Vv (As := [.int (2 : Int32), .int a1, .int (1 : Int32)]) (rest := []) S hK hw (kX7_take l lo g M4 a0 (2 : Int32) a1 (1 : Int32) _ h) (cwV 3 hts (zg_V zu_521 zu_522 zu_523 zu_450 zu_524) rfl rfl rfl (by decide +kernel) ⟨Nat.le_of_ble_eq_true rfl, Nat.le_of_ble_eq_true rfl⟩) (ci := 10) rfl ho rfl hl.1 rfl (Nat.le_of_ble_eq_true rfl) dX7_period_29 ⟨Nat.le_of_ble_eq_true rfl, Nat.le_of_ble_eq_true rfl⟩ (fun M6 H locs hw h => ?_)
      refine lv_iconst (v := (0 : Int32)) hx hb dX7_period_32 (by decide) ?_
      refine lv_topi (fun x7 ex7 => ?_)
      have h := h x7 ex7
      refine lv_istore_n (lv' := [(3, .int x7), (0, .ref a0), (1, .int a1), (2, .int a2)]) hx hb dX7_period_33 rfl hl (by decide) rfl (fun ls hl => ?_)
      obtain ⟨n34, h⟩ := h
      refine sX7_period_34 S hr hlocks hK (fun w12 w13 w14 M15 h H locs ls hw hl => ?_) n34 a0 a2 x7 _ h _ _ _ hw (lv_sub hl [1, 3, 0] rfl)
      refine lv_iconst (v := (0 : Int32)) hx hb dX7_period_53 (by decide) ?_
      refine lv_topi (fun x16 ex16 => ?_)
      have h := h x16 ex16
      refine lv_istore (lv' := [(4, .int x16), (0, .ref w12), (2, .int w13), (3, .int w14)]) hx hb dX7_period_54 hl (by decide) rfl (fun ls hl => ?_)
      refine lv_aload_n hx hb dX7_period_56 rfl (lv_at hl 1 rfl) ?_
      refine lv_iconst (v := (3 : Int32)) hx hb dX7_period_57 (by decide) ?_
      refine lv_iconst (v := (2 : Int32)) hx hb dX7_period_58 (by decide) ?_
      obtain ⟨ho, h⟩ := h
      refine zr_Vv (As := [.int (3 : Int32), .int (2 : Int32)]) (rest := []) S hK hw (kX7_copy l lo g M15 w12 (3 : Int32) (2 : Int32) _ h) (cwV 2 hts (zg_V zu_465 zu_466 zu_467 zu_450 zu_468) rfl rfl rfl (by decide +kernel) ⟨Nat.le_of_ble_eq_true rfl, Nat.le_of_ble_eq_true rfl⟩) (ci := 10) rfl ho rfl hl.1 rfl (Nat.le_of_ble_eq_true rfl) dX7_period_59 ⟨Nat.le_of_ble_eq_true rfl, Nat.le_of_ble_eq_true rfl⟩ (fun M17 H locs hw h => ?_)
      obtain ⟨n62, h⟩ := h
      refine sX7_period_62 S hr hlocks hK (fun w22 w23 w24 w25 M26 h H locs ls hw hl => ?_) n62 w12 w13 w14 x16 _ h _ _ _ hw (lv_sub hl [1, 2, 3, 0] rfl)
      refine lv_aload_n hx hb dX7_period_87 rfl (lv_at hl 0 rfl) ?_
      refine zr_ga (C := RX7) (T := TX7) (N := 14) (ci := 10) (k := 10) S hK hw zi_X7 rfl (by decide) zu_444 dX7_period_88 h (fun n_27 h => ?_)
      refine lv_iconst (v := (2 : Int32)) hx hb dX7_period_91 (by decide) ?_
      refine zr_iald S hK hw dX7_period_92 h (fun e28 h => ?_)
      refine lv_iconst (v := (1 : Int32)) hx hb dX7_period_93 (by decide) ?_
      refine lv_icmp_gt (tgt := 112) hx hb dX7_period_94 (by decide) (fun hc => ?_) (fun hc => ?_)
      · have h := h.1 hc
        refine lv_bipush (v := (-2 : Int32)) hx hb dX7_period_112 (by decide) ?_
        exact zr_ri S hr hlocks hw h dX7_period_114
      · have h := h.2 hc
        refine lv_aload_n hx hb dX7_period_97 rfl (lv_at hl 0 rfl) ?_
        refine zr_ga (C := RX7) (T := TX7) (N := 14) (ci := 10) (k := 9) S hK hw zi_X7 rfl (by decide) zu_445 dX7_period_98 h (fun g_29 h => ?_)
        refine lv_sipush (v := (144 : Int32)) hx hb dX7_period_101 (by decide) ?_
        refine zr_lald S hK hw dX7_period_104 h (fun e30 h => ?_)
        refine lv_ldc2 (v := (100000 : Int64)) hx hb hown (hts _ zu_628) dX7_period_105 ?_
        refine W.lcmp hx hb dX7_period_108 ?_
        refine lv_if_le (tgt := 115) hx hb dX7_period_109 (by decide) (fun hc => ?_) (fun hc => ?_)
        · have h := h.1 (zc_le.mp hc)
          refine lv_iload_n hx hb dX7_period_115 rfl (lv_at hl 1 rfl) ?_
          refine lv_if_ne (tgt := 132) hx hb dX7_period_116 (by decide) (fun hc => ?_) (fun hc => ?_)
          · have h := h.1 hc
            refine lv_aload_n hx hb dX7_period_132 rfl (lv_at hl 0 rfl) ?_
            refine zr_ga (C := RX7) (T := TX7) (N := 14) (ci := 10) (k := 9) S hK hw zi_X7 rfl (by decide) zu_445 dX7_period_133 h (fun g_31 h => ?_)
            refine lv_sipush (v := (144 : Int32)) hx hb dX7_period_136 (by decide) ?_
            refine zr_lald S hK hw dX7_period_139 h (fun e32 h => ?_)
            refine lv_lstore (lv' := [(5, .long e32), (0, .ref w22), (2, .int w23), (3, .int w24), (4, .int w25)]) hx hb dX7_period_140 hl (by decide) rfl (fun ls hl => ?_)
            refine lv_lload hx hb dX7_period_142 (lv_at hl 0 rfl) ?_
            refine lv_lconst (v := (1 : Int64)) hx hb dX7_period_144 (by decide) ?_
            refine W.lcmp hx hb dX7_period_145 ?_
            refine lv_if_ne (tgt := 151) hx hb dX7_period_146 (by decide) (fun hc => ?_) (fun hc => ?_)
            · have h := h.1 (fun q => hc (zc_eq.mpr q))
              refine lv_iconst (v := (1 : Int32)) hx hb dX7_period_151 (by decide) ?_
              refine lv_topi (fun x33 ex33 => ?_)
              have h := h x33 ex33
              refine lv_istore (lv' := [(7, .int x33), (5, .long e32), (0, .ref w22), (2, .int w23), (3, .int w24), (4, .int w25)]) hx hb dX7_period_152 hl (by decide) rfl (fun ls hl => ?_)
              refine lv_ldc2 (v := (10 : Int64)) hx hb hown (hts _ zu_602) dX7_period_154 ?_
              refine lv_lload hx hb dX7_period_157 (lv_at hl 1 rfl) ?_
              refine lv_lrem hx hb dX7_period_159 h.1 ?_
              have h := h.2
              refine lv_topl (fun x34 ex34 => ?_)
              have h := h x34 ex34
              refine lv_lstore (lv' := [(8, .long x34), (7, .int x33), (5, .long e32), (0, .ref w22), (2, .int w23), (3, .int w24), (4, .int w25)]) hx hb dX7_period_160 hl (by decide) rfl (fun ls hl => ?_)
              obtain ⟨n162, h⟩ := h
              refine sX7_period_162 S hr hlocks hK  n162 e32 x33 x34 _ h _ _ _ hw (lv_sub hl [2, 1, 0] rfl)
            · have h := h.2 (zc_eq.mp hc)
              refine lv_iconst (v := (0 : Int32)) hx hb dX7_period_149 (by decide) ?_
              exact zr_ri S hr hlocks hw h dX7_period_150
          · have h := h.2 hc
            refine lv_iload_n hx hb dX7_period_119 rfl (lv_at hl 2 rfl) ?_
            refine lv_iload hx hb dX7_period_120 (lv_at hl 3 rfl) ?_
            refine lv_icmp_le (tgt := 129) hx hb dX7_period_122 (by decide) (fun hc => ?_) (fun hc => ?_)
            · have h := h.1 hc
              refine lv_iload hx hb dX7_period_129 (lv_at hl 3 rfl) ?_
              exact zr_ri S hr hlocks hw h dX7_period_131
            · have h := h.2 hc
              refine lv_iload_n hx hb dX7_period_125 rfl (lv_at hl 2 rfl) ?_
              refine lv_goto (tgt := 131) hx hb dX7_period_126 (by decide) ?_
              exact zr_ri S hr hlocks hw h dX7_period_131
        · have h := h.2 (fun q => hc (zc_le.mpr q))
          refine lv_bipush (v := (-2 : Int32)) hx hb dX7_period_112 (by decide) ?_
          exact zr_ri S hr hlocks hw h dX7_period_114
    · have h := h.2 hc
      refine lv_iconst (v := (-1 : Int32)) hx hb dX7_period_23 (by decide) ?_
      exact zr_ri S hr hlocks hw h dX7_period_24
set_option maxHeartbeats 4000000 in
set_option maxRecDepth 100000 in
theorem kX5_init (l : Launch) (lo : Nat) (g : zg) (M : zm_M) (a0 : Nat) (a1 : Int32) (bc bs : Nat) (post : zm_M → Prop) (h : pX5_init g.2 a0 a1 bc bs post M) : Met l yX5_init (Cond.code yX5_init cX5_init 2 none :: zU) (({ frames := 1, cells := bc, slots := bs, locals := 40 } : Room)) (zc_P zNF zNM lo g M [.ref a0, .int a1]) (va_Qv post (zc_B lo g) (zA lo)) bc bs (zA lo) := by
  refine Met.ofW (cc := cX5_init) (maxL := 2) (ret := none) (by decide) rfl ?_
  intro p e s m args below meth c s₁ B hml hv
  obtain ⟨rfl, hR, hK⟩ := hv
  have hts := atoms_spec (ws := Cond.code yX5_init cX5_init 2 none :: zU) B.pre
  have hts : ∀ w ∈ zU, w.before _ s = true := fun w hw => hts w (List.mem_cons_of_mem _ hw)
  have hown : s.vm.findClass RX5 = some m.cls := findClass_of_methodNamed B.named
  have hx := B.exec
  have hb := B.bytes
  have hr := B.returns
  have hlocks := B.notSynchronized
  have hin : meth.name = "<init>" := (name_of_methodNamed B.named B.method).1
  have S : CallFix p m c cX5_init 2 s ([.ref a0, .int a1] : List Value).toArray zU RX5 := ⟨hx, hb, hml, hown, hts⟩
  have hw : zW lo g s s.heap [] M := ⟨hR, va_S.rf⟩
  have hl := lv_entry ([.ref a0, .int a1]) (n := 2) (Nat.le_of_ble_eq_true rfl)
  rw [lg_entry_eq]
  generalize (lg_sl ([.ref a0, .int a1]) ++ List.replicate (2 - (lg_sl ([.ref a0, .int a1])).length) Slot.unset).toArray = ls at hl ⊢
  have hl : lv_has ls 2 [(0, .ref a0), (1, .int a1)] := hl
  unfold pX5_init at h
  refine lv_aload_n hx hb dX5_init_0 rfl (lv_at hl 0 rfl) ?_
  refine zr_oi S hl.1 zu_629 zu_630 zu_631 (Nat.le_of_ble_eq_true rfl) (Nat.le_of_ble_eq_true rfl) dX5_init_1 ?_
  refine lv_aload_n hx hb dX5_init_4 rfl (lv_at hl 0 rfl) ?_
  refine lv_iload_n hx hb dX5_init_5 rfl (lv_at hl 1 rfl) ?_
  refine lv_iconst (v := (2 : Int32)) hx hb dX5_init_6 (by decide) ?_
  refine zr_max S hl.1 zu_6 zu_7 zu_4 zu_8 (Nat.le_of_ble_eq_true rfl) (Nat.le_of_ble_eq_true rfl) (Nat.zero_le _) (Nat.zero_le _) dX5_init_7 ?_
  refine zr_na (ty := .int) (t0 := 0) (kb := 4) (a0 := fun N => (N, .inl (fun _ => 0))) S hK hw rfl zu_632 rfl (fun h => h) (fun _ _ => rfl) rfl dX5_init_10 h (fun M1 H hw h => ?_)
  refine zr_pF (C := RX5) (T := TX5) (N := 2) (ci := 8) (k := 0) S hK hw hin zi_X5 tyX5 tyX5_ok nmX5 rfl (by decide) zu_1 rfl rfl rfl rfl dX5_init_12 h (fun M2 H locs hw h => ?_)
  refine lv_aload_n hx hb dX5_init_15 rfl (lv_at hl 0 rfl) ?_
  refine lv_iconst (v := (0 : Int32)) hx hb dX5_init_16 (by decide) ?_
  refine zr_p (C := RX5) (T := TX5) (N := 2) (ci := 8) (k := 1) S hK hw zi_X5 tyX5 tyX5_ok nmX5 rfl (by decide) zu_0 rfl rfl rfl dX5_init_17 h (fun M3 H locs hw h => ?_)
  refine W.widen (k := bc) (n := bs) h.1 h.2.1 ?_
  exact zr_rv S hr hlocks hw h.2.2 dX5_init_20
set_option maxHeartbeats 4000000 in
set_option maxRecDepth 100000 in
theorem kX2_init (l : Launch) (lo : Nat) (g : zg) (M : zm_M) (a0 : Nat) (a1 : Int32) (bc bs : Nat) (post : zm_M → Prop) (h : pX2_init g.2 a0 a1 bc bs post M) : Met l yX2_init (Cond.code yX2_init cX2_init 2 none :: zU) (({ frames := 2, cells := bc, slots := bs, locals := 61 } : Room)) (zc_P zNF zNM lo g M [.ref a0, .int a1]) (va_Qv post (zc_B lo g) (zA lo)) bc bs (zA lo) := by
  refine Met.ofW (cc := cX2_init) (maxL := 2) (ret := none) (by decide) rfl ?_
  intro p e s m args below meth c s₁ B hml hv
  obtain ⟨rfl, hR, hK⟩ := hv
  have hts := atoms_spec (ws := Cond.code yX2_init cX2_init 2 none :: zU) B.pre
  have hts : ∀ w ∈ zU, w.before _ s = true := fun w hw => hts w (List.mem_cons_of_mem _ hw)
  have hown : s.vm.findClass RX2 = some m.cls := findClass_of_methodNamed B.named
  have hx := B.exec
  have hb := B.bytes
  have hr := B.returns
  have hlocks := B.notSynchronized
  have hin : meth.name = "<init>" := (name_of_methodNamed B.named B.method).1
  have S : CallFix p m c cX2_init 2 s ([.ref a0, .int a1] : List Value).toArray zU RX2 := ⟨hx, hb, hml, hown, hts⟩
  have hw : zW lo g s s.heap [] M := ⟨hR, va_S.rf⟩
  have hl := lv_entry ([.ref a0, .int a1]) (n := 2) (Nat.le_of_ble_eq_true rfl)
  rw [lg_entry_eq]
  generalize (lg_sl ([.ref a0, .int a1]) ++ List.replicate (2 - (lg_sl ([.ref a0, .int a1])).length) Slot.unset).toArray = ls at hl ⊢
  have hl : lv_has ls 2 [(0, .ref a0), (1, .int a1)] := hl
  unfold pX2_init at h
  refine lv_aload_n hx hb dX2_init_0 rfl (lv_at hl 0 rfl) ?_
  refine zr_oi S hl.1 zu_633 zu_630 zu_631 (Nat.le_of_ble_eq_true rfl) (Nat.le_of_ble_eq_true rfl) dX2_init_1 ?_
  refine lv_aload_n hx hb dX2_init_4 rfl (lv_at hl 0 rfl) ?_
  refine lv_iconst (v := (0 : Int32)) hx hb dX2_init_5 (by decide) ?_
  refine zr_p (C := RX2) (T := TX2) (N := 3) (ci := 5) (k := 0) S hK hw zi_X2 tyX2 tyX2_ok nmX2 rfl (by decide) zu_18 rfl rfl rfl dX2_init_6 h (fun M1 H locs hw h => ?_)
  refine lv_aload_n hx hb dX2_init_9 rfl (lv_at hl 0 rfl) ?_
  refine zr_new (C := RX5) (T := TX5) (N := 2) (ci := 8) (fs := [.null, .int 0]) S hK hw zi_X5 tyX5 tyX5_ok zu_634 zu_635 zu_12 rfl (fun j hj => by match j, hj with | 0, _ => rfl | 1, _ => rfl | j + 2, hj => exact absurd hj (by omega)) dX2_init_10 h (fun M2 H hw h => ?_)
  refine lv_dup hx hb dX2_init_13 rfl ?_
  refine lv_iload_n hx hb dX2_init_14 rfl (lv_at hl 1 rfl) ?_
  obtain ⟨mc3, ms4, hmc3, hms4, h⟩ := h
  refine zr_Iv (As := [.int a1]) (rest := [.ref (M1.1), .ref a0]) S hK hw (kX5_init l lo g M2 (M1.1) a1 mc3 ms4 _ h) (cwI 1 hts (zg_I zu_636) rfl rfl rfl (hts _ zu_12) (hts _ zu_637) (hts _ zu_638) rfl (by decide +kernel) ⟨Nat.le_of_ble_eq_true rfl, Nat.le_of_ble_eq_true rfl⟩) rfl hl.1 rfl (Nat.le_of_ble_eq_true rfl) dX2_init_15 ⟨hmc3, hms4⟩ (fun M5 H locs hw h => ?_)
  refine zr_pF (C := RX2) (T := TX2) (N := 3) (ci := 5) (k := 1) S hK hw hin zi_X2 tyX2 tyX2_ok nmX2 rfl (by decide) zu_19 rfl rfl rfl rfl dX2_init_18 h (fun M6 H locs hw h => ?_)
  refine lv_aload_n hx hb dX2_init_21 rfl (lv_at hl 0 rfl) ?_
  refine zr_new (C := RX5) (T := TX5) (N := 2) (ci := 8) (fs := [.null, .int 0]) S hK hw zi_X5 tyX5 tyX5_ok zu_634 zu_635 zu_12 rfl (fun j hj => by match j, hj with | 0, _ => rfl | 1, _ => rfl | j + 2, hj => exact absurd hj (by omega)) dX2_init_22 h (fun M7 H hw h => ?_)
  refine lv_dup hx hb dX2_init_25 rfl ?_
  refine lv_iload_n hx hb dX2_init_26 rfl (lv_at hl 1 rfl) ?_
  obtain ⟨mc8, ms9, hmc8, hms9, h⟩ := h
  refine zr_Iv (As := [.int a1]) (rest := [.ref (M6.1), .ref a0]) S hK hw (kX5_init l lo g M7 (M6.1) a1 mc8 ms9 _ h) (cwI 1 hts (zg_I zu_636) rfl rfl rfl (hts _ zu_12) (hts _ zu_637) (hts _ zu_638) rfl (by decide +kernel) ⟨Nat.le_of_ble_eq_true rfl, Nat.le_of_ble_eq_true rfl⟩) rfl hl.1 rfl (Nat.le_of_ble_eq_true rfl) dX2_init_27 ⟨hmc8, hms9⟩ (fun M10 H locs hw h => ?_)
  refine zr_pF (C := RX2) (T := TX2) (N := 3) (ci := 5) (k := 2) S hK hw hin zi_X2 tyX2 tyX2_ok nmX2 rfl (by decide) zu_24 rfl rfl rfl rfl dX2_init_30 h (fun M11 H locs hw h => ?_)
  refine W.widen (k := bc) (n := bs) h.1 h.2.1 ?_
  exact zr_rv S hr hlocks hw h.2.2 dX2_init_33
set_option maxHeartbeats 4000000 in
set_option maxRecDepth 100000 in
theorem kX0_init (l : Launch) (lo : Nat) (g : zg) (M : zm_M) (a0 : Nat) (bc bs : Nat) (post : zm_M → Prop) (h : pX0_init g.2 a0 bc bs post M) : Met l yX0_init (Cond.code yX0_init cX0_init 1 none :: zU) (({ frames := 3, cells := bc, slots := bs, locals := 82 } : Room)) (zc_P zNF zNM lo g M [.ref a0]) (va_Qv post (zc_B lo g) (zA lo)) bc bs (zA lo) := by
  refine Met.ofW (cc := cX0_init) (maxL := 1) (ret := none) (by decide) rfl ?_
  intro p e s m args below meth c s₁ B hml hv
  obtain ⟨rfl, hR, hK⟩ := hv
  have hts := atoms_spec (ws := Cond.code yX0_init cX0_init 1 none :: zU) B.pre
  have hts : ∀ w ∈ zU, w.before _ s = true := fun w hw => hts w (List.mem_cons_of_mem _ hw)
  have hown : s.vm.findClass RX0 = some m.cls := findClass_of_methodNamed B.named
  have hx := B.exec
  have hb := B.bytes
  have hr := B.returns
  have hlocks := B.notSynchronized
  have hin : meth.name = "<init>" := (name_of_methodNamed B.named B.method).1
  have S : CallFix p m c cX0_init 1 s ([.ref a0] : List Value).toArray zU RX0 := ⟨hx, hb, hml, hown, hts⟩
  have hw : zW lo g s s.heap [] M := ⟨hR, va_S.rf⟩
  have hl := lv_entry ([.ref a0]) (n := 1) (Nat.le_of_ble_eq_true rfl)
  rw [lg_entry_eq]
  generalize (lg_sl ([.ref a0]) ++ List.replicate (1 - (lg_sl ([.ref a0])).length) Slot.unset).toArray = ls at hl ⊢
  have hl : lv_has ls 1 [(0, .ref a0)] := hl
  unfold pX0_init at h
  refine lv_aload_n hx hb dX0_init_0 rfl (lv_at hl 0 rfl) ?_
  refine zr_oi S hl.1 zu_639 zu_630 zu_631 (Nat.le_of_ble_eq_true rfl) (Nat.le_of_ble_eq_true rfl) dX0_init_1 ?_
  refine lv_aload_n hx hb dX0_init_4 rfl (lv_at hl 0 rfl) ?_
  refine zr_new (C := RX2) (T := TX2) (N := 3) (ci := 5) (fs := [.int 0, .null, .null]) S hK hw zi_X2 tyX2 tyX2_ok zu_640 zu_641 zu_99 rfl (fun j hj => by match j, hj with | 0, _ => rfl | 1, _ => rfl | 2, _ => rfl | j + 3, hj => exact absurd hj (by omega)) dX0_init_5 h (fun M1 H hw h => ?_)
  refine lv_dup hx hb dX0_init_8 rfl ?_
  refine lv_bipush (v := (36 : Int32)) hx hb dX0_init_9 (by decide) ?_
  obtain ⟨mc2, ms3, hmc2, hms3, h⟩ := h
  refine zr_Iv (As := [.int (36 : Int32)]) (rest := [.ref (M.1), .ref a0]) S hK hw (kX2_init l lo g M1 (M.1) (36 : Int32) mc2 ms3 _ h) (cwI 1 hts (zg_I zu_642) rfl rfl rfl (hts _ zu_99) (hts _ zu_643) (hts _ zu_644) rfl (by decide +kernel) ⟨Nat.le_of_ble_eq_true rfl, Nat.le_of_ble_eq_true rfl⟩) rfl hl.1 rfl (Nat.le_of_ble_eq_true rfl) dX0_init_11 ⟨hmc2, hms3⟩ (fun M4 H locs hw h => ?_)
  refine zr_pF (C := RX0) (T := TX0) (N := 5) (ci := 3) (k := 0) S hK hw hin zi_X0 tyX0 tyX0_ok nmX0 rfl (by decide) zu_82 rfl rfl rfl rfl dX0_init_14 h (fun M5 H locs hw h => ?_)
  refine lv_aload_n hx hb dX0_init_17 rfl (lv_at hl 0 rfl) ?_
  refine zr_new (C := RX5) (T := TX5) (N := 2) (ci := 8) (fs := [.null, .int 0]) S hK hw zi_X5 tyX5 tyX5_ok zu_645 zu_635 zu_12 rfl (fun j hj => by match j, hj with | 0, _ => rfl | 1, _ => rfl | j + 2, hj => exact absurd hj (by omega)) dX0_init_18 h (fun M6 H hw h => ?_)
  refine lv_dup hx hb dX0_init_21 rfl ?_
  refine lv_bipush (v := (36 : Int32)) hx hb dX0_init_22 (by decide) ?_
  obtain ⟨mc7, ms8, hmc7, hms8, h⟩ := h
  refine zr_Iv (As := [.int (36 : Int32)]) (rest := [.ref (M5.1), .ref a0]) S hK hw (kX5_init l lo g M6 (M5.1) (36 : Int32) mc7 ms8 _ h) (cwI 1 hts (zg_I zu_636) rfl rfl rfl (hts _ zu_12) (hts _ zu_646) (hts _ zu_638) rfl (by decide +kernel) ⟨Nat.le_of_ble_eq_true rfl, Nat.le_of_ble_eq_true rfl⟩) rfl hl.1 rfl (Nat.le_of_ble_eq_true rfl) dX0_init_24 ⟨hmc7, hms8⟩ (fun M9 H locs hw h => ?_)
  refine zr_pF (C := RX0) (T := TX0) (N := 5) (ci := 3) (k := 1) S hK hw hin zi_X0 tyX0 tyX0_ok nmX0 rfl (by decide) zu_66 rfl rfl rfl rfl dX0_init_27 h (fun M10 H locs hw h => ?_)
  refine lv_aload_n hx hb dX0_init_30 rfl (lv_at hl 0 rfl) ?_
  refine zr_new (C := RX5) (T := TX5) (N := 2) (ci := 8) (fs := [.null, .int 0]) S hK hw zi_X5 tyX5 tyX5_ok zu_645 zu_635 zu_12 rfl (fun j hj => by match j, hj with | 0, _ => rfl | 1, _ => rfl | j + 2, hj => exact absurd hj (by omega)) dX0_init_31 h (fun M11 H hw h => ?_)
  refine lv_dup hx hb dX0_init_34 rfl ?_
  refine lv_bipush (v := (36 : Int32)) hx hb dX0_init_35 (by decide) ?_
  obtain ⟨mc12, ms13, hmc12, hms13, h⟩ := h
  refine zr_Iv (As := [.int (36 : Int32)]) (rest := [.ref (M10.1), .ref a0]) S hK hw (kX5_init l lo g M11 (M10.1) (36 : Int32) mc12 ms13 _ h) (cwI 1 hts (zg_I zu_636) rfl rfl rfl (hts _ zu_12) (hts _ zu_646) (hts _ zu_638) rfl (by decide +kernel) ⟨Nat.le_of_ble_eq_true rfl, Nat.le_of_ble_eq_true rfl⟩) rfl hl.1 rfl (Nat.le_of_ble_eq_true rfl) dX0_init_37 ⟨hmc12, hms13⟩ (fun M14 H locs hw h => ?_)
  refine zr_pF (C := RX0) (T := TX0) (N := 5) (ci := 3) (k := 2) S hK hw hin zi_X0 tyX0 tyX0_ok nmX0 rfl (by decide) zu_67 rfl rfl rfl rfl dX0_init_40 h (fun M15 H locs hw h => ?_)
  refine lv_aload_n hx hb dX0_init_43 rfl (lv_at hl 0 rfl) ?_
  refine zr_new (C := RX5) (T := TX5) (N := 2) (ci := 8) (fs := [.null, .int 0]) S hK hw zi_X5 tyX5 tyX5_ok zu_645 zu_635 zu_12 rfl (fun j hj => by match j, hj with | 0, _ => rfl | 1, _ => rfl | j + 2, hj => exact absurd hj (by omega)) dX0_init_44 h (fun M16 H hw h => ?_)
  refine lv_dup hx hb dX0_init_47 rfl ?_
  refine lv_bipush (v := (36 : Int32)) hx hb dX0_init_48 (by decide) ?_
  obtain ⟨mc17, ms18, hmc17, hms18, h⟩ := h
  refine zr_Iv (As := [.int (36 : Int32)]) (rest := [.ref (M15.1), .ref a0]) S hK hw (kX5_init l lo g M16 (M15.1) (36 : Int32) mc17 ms18 _ h) (cwI 1 hts (zg_I zu_636) rfl rfl rfl (hts _ zu_12) (hts _ zu_646) (hts _ zu_638) rfl (by decide +kernel) ⟨Nat.le_of_ble_eq_true rfl, Nat.le_of_ble_eq_true rfl⟩) rfl hl.1 rfl (Nat.le_of_ble_eq_true rfl) dX0_init_50 ⟨hmc17, hms18⟩ (fun M19 H locs hw h => ?_)
  refine zr_pF (C := RX0) (T := TX0) (N := 5) (ci := 3) (k := 3) S hK hw hin zi_X0 tyX0 tyX0_ok nmX0 rfl (by decide) zu_76 rfl rfl rfl rfl dX0_init_53 h (fun M20 H locs hw h => ?_)
  refine lv_aload_n hx hb dX0_init_56 rfl (lv_at hl 0 rfl) ?_
  refine zr_new (C := RX5) (T := TX5) (N := 2) (ci := 8) (fs := [.null, .int 0]) S hK hw zi_X5 tyX5 tyX5_ok zu_645 zu_635 zu_12 rfl (fun j hj => by match j, hj with | 0, _ => rfl | 1, _ => rfl | j + 2, hj => exact absurd hj (by omega)) dX0_init_57 h (fun M21 H hw h => ?_)
  refine lv_dup hx hb dX0_init_60 rfl ?_
  refine lv_bipush (v := (36 : Int32)) hx hb dX0_init_61 (by decide) ?_
  obtain ⟨mc22, ms23, hmc22, hms23, h⟩ := h
  refine zr_Iv (As := [.int (36 : Int32)]) (rest := [.ref (M20.1), .ref a0]) S hK hw (kX5_init l lo g M21 (M20.1) (36 : Int32) mc22 ms23 _ h) (cwI 1 hts (zg_I zu_636) rfl rfl rfl (hts _ zu_12) (hts _ zu_646) (hts _ zu_638) rfl (by decide +kernel) ⟨Nat.le_of_ble_eq_true rfl, Nat.le_of_ble_eq_true rfl⟩) rfl hl.1 rfl (Nat.le_of_ble_eq_true rfl) dX0_init_63 ⟨hmc22, hms23⟩ (fun M24 H locs hw h => ?_)
  refine zr_pF (C := RX0) (T := TX0) (N := 5) (ci := 3) (k := 4) S hK hw hin zi_X0 tyX0 tyX0_ok nmX0 rfl (by decide) zu_81 rfl rfl rfl rfl dX0_init_66 h (fun M25 H locs hw h => ?_)
  refine W.widen (k := bc) (n := bs) h.1 h.2.1 ?_
  exact zr_rv S hr hlocks hw h.2.2 dX0_init_69
set_option maxHeartbeats 4000000 in
set_option maxRecDepth 100000 in
theorem kX1_init (l : Launch) (lo : Nat) (g : zg) (M : zm_M) (a0 : Nat) (bc bs : Nat) (post : zm_M → Prop) (h : pX1_init g.2 a0 bc bs post M) : Met l yX1_init (Cond.code yX1_init cX1_init 1 none :: zU) (({ frames := 2, cells := bc, slots := bs, locals := 61 } : Room)) (zc_P zNF zNM lo g M [.ref a0]) (va_Qv post (zc_B lo g) (zA lo)) bc bs (zA lo) := by
  refine Met.ofW (cc := cX1_init) (maxL := 1) (ret := none) (by decide) rfl ?_
  intro p e s m args below meth c s₁ B hml hv
  obtain ⟨rfl, hR, hK⟩ := hv
  have hts := atoms_spec (ws := Cond.code yX1_init cX1_init 1 none :: zU) B.pre
  have hts : ∀ w ∈ zU, w.before _ s = true := fun w hw => hts w (List.mem_cons_of_mem _ hw)
  have hown : s.vm.findClass RX1 = some m.cls := findClass_of_methodNamed B.named
  have hx := B.exec
  have hb := B.bytes
  have hr := B.returns
  have hlocks := B.notSynchronized
  have hin : meth.name = "<init>" := (name_of_methodNamed B.named B.method).1
  have S : CallFix p m c cX1_init 1 s ([.ref a0] : List Value).toArray zU RX1 := ⟨hx, hb, hml, hown, hts⟩
  have hw : zW lo g s s.heap [] M := ⟨hR, va_S.rf⟩
  have hl := lv_entry ([.ref a0]) (n := 1) (Nat.le_of_ble_eq_true rfl)
  rw [lg_entry_eq]
  generalize (lg_sl ([.ref a0]) ++ List.replicate (1 - (lg_sl ([.ref a0])).length) Slot.unset).toArray = ls at hl ⊢
  have hl : lv_has ls 1 [(0, .ref a0)] := hl
  unfold pX1_init at h
  refine lv_aload_n hx hb dX1_init_0 rfl (lv_at hl 0 rfl) ?_
  refine zr_oi S hl.1 zu_647 zu_630 zu_631 (Nat.le_of_ble_eq_true rfl) (Nat.le_of_ble_eq_true rfl) dX1_init_1 ?_
  refine lv_aload_n hx hb dX1_init_4 rfl (lv_at hl 0 rfl) ?_
  refine zr_new (C := RX5) (T := TX5) (N := 2) (ci := 8) (fs := [.null, .int 0]) S hK hw zi_X5 tyX5 tyX5_ok zu_648 zu_635 zu_12 rfl (fun j hj => by match j, hj with | 0, _ => rfl | 1, _ => rfl | j + 2, hj => exact absurd hj (by omega)) dX1_init_5 h (fun M1 H hw h => ?_)
  refine lv_dup hx hb dX1_init_8 rfl ?_
  refine lv_bipush (v := (36 : Int32)) hx hb dX1_init_9 (by decide) ?_
  obtain ⟨mc2, ms3, hmc2, hms3, h⟩ := h
  refine zr_Iv (As := [.int (36 : Int32)]) (rest := [.ref (M.1), .ref a0]) S hK hw (kX5_init l lo g M1 (M.1) (36 : Int32) mc2 ms3 _ h) (cwI 1 hts (zg_I zu_636) rfl rfl rfl (hts _ zu_12) (hts _ zu_649) (hts _ zu_638) rfl (by decide +kernel) ⟨Nat.le_of_ble_eq_true rfl, Nat.le_of_ble_eq_true rfl⟩) rfl hl.1 rfl (Nat.le_of_ble_eq_true rfl) dX1_init_11 ⟨hmc2, hms3⟩ (fun M4 H locs hw h => ?_)
  refine zr_pF (C := RX1) (T := TX1) (N := 11) (ci := 4) (k := 1) S hK hw hin zi_X1 tyX1 tyX1_ok nmX1 rfl (by decide) zu_180 rfl rfl rfl rfl dX1_init_14 h (fun M5 H locs hw h => ?_)
  refine lv_aload_n hx hb dX1_init_17 rfl (lv_at hl 0 rfl) ?_
  refine zr_new (C := RX5) (T := TX5) (N := 2) (ci := 8) (fs := [.null, .int 0]) S hK hw zi_X5 tyX5 tyX5_ok zu_648 zu_635 zu_12 rfl (fun j hj => by match j, hj with | 0, _ => rfl | 1, _ => rfl | j + 2, hj => exact absurd hj (by omega)) dX1_init_18 h (fun M6 H hw h => ?_)
  refine lv_dup hx hb dX1_init_21 rfl ?_
  refine lv_bipush (v := (36 : Int32)) hx hb dX1_init_22 (by decide) ?_
  obtain ⟨mc7, ms8, hmc7, hms8, h⟩ := h
  refine zr_Iv (As := [.int (36 : Int32)]) (rest := [.ref (M5.1), .ref a0]) S hK hw (kX5_init l lo g M6 (M5.1) (36 : Int32) mc7 ms8 _ h) (cwI 1 hts (zg_I zu_636) rfl rfl rfl (hts _ zu_12) (hts _ zu_649) (hts _ zu_638) rfl (by decide +kernel) ⟨Nat.le_of_ble_eq_true rfl, Nat.le_of_ble_eq_true rfl⟩) rfl hl.1 rfl (Nat.le_of_ble_eq_true rfl) dX1_init_24 ⟨hmc7, hms8⟩ (fun M9 H locs hw h => ?_)
  refine zr_pF (C := RX1) (T := TX1) (N := 11) (ci := 4) (k := 2) S hK hw hin zi_X1 tyX1 tyX1_ok nmX1 rfl (by decide) zu_178 rfl rfl rfl rfl dX1_init_27 h (fun M10 H locs hw h => ?_)
  refine lv_aload_n hx hb dX1_init_30 rfl (lv_at hl 0 rfl) ?_
  refine zr_new (C := RX5) (T := TX5) (N := 2) (ci := 8) (fs := [.null, .int 0]) S hK hw zi_X5 tyX5 tyX5_ok zu_648 zu_635 zu_12 rfl (fun j hj => by match j, hj with | 0, _ => rfl | 1, _ => rfl | j + 2, hj => exact absurd hj (by omega)) dX1_init_31 h (fun M11 H hw h => ?_)
  refine lv_dup hx hb dX1_init_34 rfl ?_
  refine lv_bipush (v := (36 : Int32)) hx hb dX1_init_35 (by decide) ?_
  obtain ⟨mc12, ms13, hmc12, hms13, h⟩ := h
  refine zr_Iv (As := [.int (36 : Int32)]) (rest := [.ref (M10.1), .ref a0]) S hK hw (kX5_init l lo g M11 (M10.1) (36 : Int32) mc12 ms13 _ h) (cwI 1 hts (zg_I zu_636) rfl rfl rfl (hts _ zu_12) (hts _ zu_649) (hts _ zu_638) rfl (by decide +kernel) ⟨Nat.le_of_ble_eq_true rfl, Nat.le_of_ble_eq_true rfl⟩) rfl hl.1 rfl (Nat.le_of_ble_eq_true rfl) dX1_init_37 ⟨hmc12, hms13⟩ (fun M14 H locs hw h => ?_)
  refine zr_pF (C := RX1) (T := TX1) (N := 11) (ci := 4) (k := 3) S hK hw hin zi_X1 tyX1 tyX1_ok nmX1 rfl (by decide) zu_187 rfl rfl rfl rfl dX1_init_40 h (fun M15 H locs hw h => ?_)
  refine lv_aload_n hx hb dX1_init_43 rfl (lv_at hl 0 rfl) ?_
  refine zr_new (C := RX5) (T := TX5) (N := 2) (ci := 8) (fs := [.null, .int 0]) S hK hw zi_X5 tyX5 tyX5_ok zu_648 zu_635 zu_12 rfl (fun j hj => by match j, hj with | 0, _ => rfl | 1, _ => rfl | j + 2, hj => exact absurd hj (by omega)) dX1_init_44 h (fun M16 H hw h => ?_)
  refine lv_dup hx hb dX1_init_47 rfl ?_
  refine lv_bipush (v := (36 : Int32)) hx hb dX1_init_48 (by decide) ?_
  obtain ⟨mc17, ms18, hmc17, hms18, h⟩ := h
  refine zr_Iv (As := [.int (36 : Int32)]) (rest := [.ref (M15.1), .ref a0]) S hK hw (kX5_init l lo g M16 (M15.1) (36 : Int32) mc17 ms18 _ h) (cwI 1 hts (zg_I zu_636) rfl rfl rfl (hts _ zu_12) (hts _ zu_649) (hts _ zu_638) rfl (by decide +kernel) ⟨Nat.le_of_ble_eq_true rfl, Nat.le_of_ble_eq_true rfl⟩) rfl hl.1 rfl (Nat.le_of_ble_eq_true rfl) dX1_init_50 ⟨hmc17, hms18⟩ (fun M19 H locs hw h => ?_)
  refine zr_p (C := RX1) (T := TX1) (N := 11) (ci := 4) (k := 4) S hK hw zi_X1 tyX1 tyX1_ok nmX1 rfl (by decide) zu_182 rfl rfl rfl dX1_init_53 h (fun M20 H locs hw h => ?_)
  refine lv_aload_n hx hb dX1_init_56 rfl (lv_at hl 0 rfl) ?_
  refine zr_new (C := RX5) (T := TX5) (N := 2) (ci := 8) (fs := [.null, .int 0]) S hK hw zi_X5 tyX5 tyX5_ok zu_648 zu_635 zu_12 rfl (fun j hj => by match j, hj with | 0, _ => rfl | 1, _ => rfl | j + 2, hj => exact absurd hj (by omega)) dX1_init_57 h (fun M21 H hw h => ?_)
  refine lv_dup hx hb dX1_init_60 rfl ?_
  refine lv_bipush (v := (36 : Int32)) hx hb dX1_init_61 (by decide) ?_
  obtain ⟨mc22, ms23, hmc22, hms23, h⟩ := h
  refine zr_Iv (As := [.int (36 : Int32)]) (rest := [.ref (M20.1), .ref a0]) S hK hw (kX5_init l lo g M21 (M20.1) (36 : Int32) mc22 ms23 _ h) (cwI 1 hts (zg_I zu_636) rfl rfl rfl (hts _ zu_12) (hts _ zu_649) (hts _ zu_638) rfl (by decide +kernel) ⟨Nat.le_of_ble_eq_true rfl, Nat.le_of_ble_eq_true rfl⟩) rfl hl.1 rfl (Nat.le_of_ble_eq_true rfl) dX1_init_63 ⟨hmc22, hms23⟩ (fun M24 H locs hw h => ?_)
  refine zr_p (C := RX1) (T := TX1) (N := 11) (ci := 4) (k := 5) S hK hw zi_X1 tyX1 tyX1_ok nmX1 rfl (by decide) zu_183 rfl rfl rfl dX1_init_66 h (fun M25 H locs hw h => ?_)
  refine lv_aload_n hx hb dX1_init_69 rfl (lv_at hl 0 rfl) ?_
  refine zr_new (C := RX5) (T := TX5) (N := 2) (ci := 8) (fs := [.null, .int 0]) S hK hw zi_X5 tyX5 tyX5_ok zu_648 zu_635 zu_12 rfl (fun j hj => by match j, hj with | 0, _ => rfl | 1, _ => rfl | j + 2, hj => exact absurd hj (by omega)) dX1_init_70 h (fun M26 H hw h => ?_)
  refine lv_dup hx hb dX1_init_73 rfl ?_
  refine lv_bipush (v := (36 : Int32)) hx hb dX1_init_74 (by decide) ?_
  obtain ⟨mc27, ms28, hmc27, hms28, h⟩ := h
  refine zr_Iv (As := [.int (36 : Int32)]) (rest := [.ref (M25.1), .ref a0]) S hK hw (kX5_init l lo g M26 (M25.1) (36 : Int32) mc27 ms28 _ h) (cwI 1 hts (zg_I zu_636) rfl rfl rfl (hts _ zu_12) (hts _ zu_649) (hts _ zu_638) rfl (by decide +kernel) ⟨Nat.le_of_ble_eq_true rfl, Nat.le_of_ble_eq_true rfl⟩) rfl hl.1 rfl (Nat.le_of_ble_eq_true rfl) dX1_init_76 ⟨hmc27, hms28⟩ (fun M29 H locs hw h => ?_)
  refine zr_p (C := RX1) (T := TX1) (N := 11) (ci := 4) (k := 6) S hK hw zi_X1 tyX1 tyX1_ok nmX1 rfl (by decide) zu_198 rfl rfl rfl dX1_init_79 h (fun M30 H locs hw h => ?_)
  refine lv_aload_n hx hb dX1_init_82 rfl (lv_at hl 0 rfl) ?_
  refine zr_new (C := RX5) (T := TX5) (N := 2) (ci := 8) (fs := [.null, .int 0]) S hK hw zi_X5 tyX5 tyX5_ok zu_648 zu_635 zu_12 rfl (fun j hj => by match j, hj with | 0, _ => rfl | 1, _ => rfl | j + 2, hj => exact absurd hj (by omega)) dX1_init_83 h (fun M31 H hw h => ?_)
  refine lv_dup hx hb dX1_init_86 rfl ?_
  refine lv_bipush (v := (36 : Int32)) hx hb dX1_init_87 (by decide) ?_
  obtain ⟨mc32, ms33, hmc32, hms33, h⟩ := h
  refine zr_Iv (As := [.int (36 : Int32)]) (rest := [.ref (M30.1), .ref a0]) S hK hw (kX5_init l lo g M31 (M30.1) (36 : Int32) mc32 ms33 _ h) (cwI 1 hts (zg_I zu_636) rfl rfl rfl (hts _ zu_12) (hts _ zu_649) (hts _ zu_638) rfl (by decide +kernel) ⟨Nat.le_of_ble_eq_true rfl, Nat.le_of_ble_eq_true rfl⟩) rfl hl.1 rfl (Nat.le_of_ble_eq_true rfl) dX1_init_89 ⟨hmc32, hms33⟩ (fun M34 H locs hw h => ?_)
  refine zr_p (C := RX1) (T := TX1) (N := 11) (ci := 4) (k := 7) S hK hw zi_X1 tyX1 tyX1_ok nmX1 rfl (by decide) zu_201 rfl rfl rfl dX1_init_92 h (fun M35 H locs hw h => ?_)
  refine lv_aload_n hx hb dX1_init_95 rfl (lv_at hl 0 rfl) ?_
  refine zr_new (C := RX5) (T := TX5) (N := 2) (ci := 8) (fs := [.null, .int 0]) S hK hw zi_X5 tyX5 tyX5_ok zu_648 zu_635 zu_12 rfl (fun j hj => by match j, hj with | 0, _ => rfl | 1, _ => rfl | j + 2, hj => exact absurd hj (by omega)) dX1_init_96 h (fun M36 H hw h => ?_)
  refine lv_dup hx hb dX1_init_99 rfl ?_
  refine lv_bipush (v := (36 : Int32)) hx hb dX1_init_100 (by decide) ?_
  obtain ⟨mc37, ms38, hmc37, hms38, h⟩ := h
  refine zr_Iv (As := [.int (36 : Int32)]) (rest := [.ref (M35.1), .ref a0]) S hK hw (kX5_init l lo g M36 (M35.1) (36 : Int32) mc37 ms38 _ h) (cwI 1 hts (zg_I zu_636) rfl rfl rfl (hts _ zu_12) (hts _ zu_649) (hts _ zu_638) rfl (by decide +kernel) ⟨Nat.le_of_ble_eq_true rfl, Nat.le_of_ble_eq_true rfl⟩) rfl hl.1 rfl (Nat.le_of_ble_eq_true rfl) dX1_init_102 ⟨hmc37, hms38⟩ (fun M39 H locs hw h => ?_)
  refine zr_p (C := RX1) (T := TX1) (N := 11) (ci := 4) (k := 8) S hK hw zi_X1 tyX1 tyX1_ok nmX1 rfl (by decide) zu_197 rfl rfl rfl dX1_init_105 h (fun M40 H locs hw h => ?_)
  refine lv_aload_n hx hb dX1_init_108 rfl (lv_at hl 0 rfl) ?_
  refine zr_new (C := RX5) (T := TX5) (N := 2) (ci := 8) (fs := [.null, .int 0]) S hK hw zi_X5 tyX5 tyX5_ok zu_648 zu_635 zu_12 rfl (fun j hj => by match j, hj with | 0, _ => rfl | 1, _ => rfl | j + 2, hj => exact absurd hj (by omega)) dX1_init_109 h (fun M41 H hw h => ?_)
  refine lv_dup hx hb dX1_init_112 rfl ?_
  refine lv_bipush (v := (36 : Int32)) hx hb dX1_init_113 (by decide) ?_
  obtain ⟨mc42, ms43, hmc42, hms43, h⟩ := h
  refine zr_Iv (As := [.int (36 : Int32)]) (rest := [.ref (M40.1), .ref a0]) S hK hw (kX5_init l lo g M41 (M40.1) (36 : Int32) mc42 ms43 _ h) (cwI 1 hts (zg_I zu_636) rfl rfl rfl (hts _ zu_12) (hts _ zu_649) (hts _ zu_638) rfl (by decide +kernel) ⟨Nat.le_of_ble_eq_true rfl, Nat.le_of_ble_eq_true rfl⟩) rfl hl.1 rfl (Nat.le_of_ble_eq_true rfl) dX1_init_115 ⟨hmc42, hms43⟩ (fun M44 H locs hw h => ?_)
  refine zr_p (C := RX1) (T := TX1) (N := 11) (ci := 4) (k := 9) S hK hw zi_X1 tyX1 tyX1_ok nmX1 rfl (by decide) zu_200 rfl rfl rfl dX1_init_118 h (fun M45 H locs hw h => ?_)
  refine lv_aload_n hx hb dX1_init_121 rfl (lv_at hl 0 rfl) ?_
  refine zr_new (C := RX5) (T := TX5) (N := 2) (ci := 8) (fs := [.null, .int 0]) S hK hw zi_X5 tyX5 tyX5_ok zu_648 zu_635 zu_12 rfl (fun j hj => by match j, hj with | 0, _ => rfl | 1, _ => rfl | j + 2, hj => exact absurd hj (by omega)) dX1_init_122 h (fun M46 H hw h => ?_)
  refine lv_dup hx hb dX1_init_125 rfl ?_
  refine lv_bipush (v := (36 : Int32)) hx hb dX1_init_126 (by decide) ?_
  obtain ⟨mc47, ms48, hmc47, hms48, h⟩ := h
  refine zr_Iv (As := [.int (36 : Int32)]) (rest := [.ref (M45.1), .ref a0]) S hK hw (kX5_init l lo g M46 (M45.1) (36 : Int32) mc47 ms48 _ h) (cwI 1 hts (zg_I zu_636) rfl rfl rfl (hts _ zu_12) (hts _ zu_649) (hts _ zu_638) rfl (by decide +kernel) ⟨Nat.le_of_ble_eq_true rfl, Nat.le_of_ble_eq_true rfl⟩) rfl hl.1 rfl (Nat.le_of_ble_eq_true rfl) dX1_init_128 ⟨hmc47, hms48⟩ (fun M49 H locs hw h => ?_)
  refine zr_pF (C := RX1) (T := TX1) (N := 11) (ci := 4) (k := 10) S hK hw hin zi_X1 tyX1 tyX1_ok nmX1 rfl (by decide) zu_212 rfl rfl rfl rfl dX1_init_131 h (fun M50 H locs hw h => ?_)
  refine W.widen (k := bc) (n := bs) h.1 h.2.1 ?_
  exact zr_rv S hr hlocks hw h.2.2 dX1_init_134
set_option maxHeartbeats 4000000 in
set_option maxRecDepth 100000 in
theorem kX3_init (l : Launch) (lo : Nat) (g : zg) (M : zm_M) (a0 : Nat) (bc bs : Nat) (post : zm_M → Prop) (h : pX3_init g.2 a0 bc bs post M) : Met l yX3_init (Cond.code yX3_init cX3_init 1 none :: zU) (({ frames := 2, cells := bc, slots := bs, locals := 61 } : Room)) (zc_P zNF zNM lo g M [.ref a0]) (va_Qv post (zc_B lo g) (zA lo)) bc bs (zA lo) := by
  refine Met.ofW (cc := cX3_init) (maxL := 1) (ret := none) (by decide) rfl ?_
  intro p e s m args below meth c s₁ B hml hv
  obtain ⟨rfl, hR, hK⟩ := hv
  have hts := atoms_spec (ws := Cond.code yX3_init cX3_init 1 none :: zU) B.pre
  have hts : ∀ w ∈ zU, w.before _ s = true := fun w hw => hts w (List.mem_cons_of_mem _ hw)
  have hown : s.vm.findClass RX3 = some m.cls := findClass_of_methodNamed B.named
  have hx := B.exec
  have hb := B.bytes
  have hr := B.returns
  have hlocks := B.notSynchronized
  have hin : meth.name = "<init>" := (name_of_methodNamed B.named B.method).1
  have S : CallFix p m c cX3_init 1 s ([.ref a0] : List Value).toArray zU RX3 := ⟨hx, hb, hml, hown, hts⟩
  have hw : zW lo g s s.heap [] M := ⟨hR, va_S.rf⟩
  have hl := lv_entry ([.ref a0]) (n := 1) (Nat.le_of_ble_eq_true rfl)
  rw [lg_entry_eq]
  generalize (lg_sl ([.ref a0]) ++ List.replicate (1 - (lg_sl ([.ref a0])).length) Slot.unset).toArray = ls at hl ⊢
  have hl : lv_has ls 1 [(0, .ref a0)] := hl
  unfold pX3_init at h
  refine lv_aload_n hx hb dX3_init_0 rfl (lv_at hl 0 rfl) ?_
  refine zr_oi S hl.1 zu_650 zu_630 zu_631 (Nat.le_of_ble_eq_true rfl) (Nat.le_of_ble_eq_true rfl) dX3_init_1 ?_
  refine lv_aload_n hx hb dX3_init_4 rfl (lv_at hl 0 rfl) ?_
  refine lv_sipush (v := (320 : Int32)) hx hb dX3_init_5 (by decide) ?_
  refine zr_na (ty := .byte) (t0 := 2) (kb := 1) (a0 := fun N => (N, .inl (fun _ => 0))) S hK hw rfl zu_651 rfl (fun h => h) (fun _ _ => rfl) rfl dX3_init_8 h (fun M1 H hw h => ?_)
  refine zr_pF (C := RX3) (T := TX3) (N := 5) (ci := 6) (k := 0) S hK hw hin zi_X3 tyX3 tyX3_ok nmX3 rfl (by decide) zu_236 rfl rfl rfl rfl dX3_init_10 h (fun M2 H locs hw h => ?_)
  refine lv_aload_n hx hb dX3_init_13 rfl (lv_at hl 0 rfl) ?_
  refine lv_iconst (v := (0 : Int32)) hx hb dX3_init_14 (by decide) ?_
  refine zr_p (C := RX3) (T := TX3) (N := 5) (ci := 6) (k := 1) S hK hw zi_X3 tyX3 tyX3_ok nmX3 rfl (by decide) zu_235 rfl rfl rfl dX3_init_15 h (fun M3 H locs hw h => ?_)
  refine lv_aload_n hx hb dX3_init_18 rfl (lv_at hl 0 rfl) ?_
  refine zr_new (C := RX5) (T := TX5) (N := 2) (ci := 8) (fs := [.null, .int 0]) S hK hw zi_X5 tyX5 tyX5_ok zu_652 zu_635 zu_12 rfl (fun j hj => by match j, hj with | 0, _ => rfl | 1, _ => rfl | j + 2, hj => exact absurd hj (by omega)) dX3_init_19 h (fun M4 H hw h => ?_)
  refine lv_dup hx hb dX3_init_22 rfl ?_
  refine lv_bipush (v := (36 : Int32)) hx hb dX3_init_23 (by decide) ?_
  obtain ⟨mc5, ms6, hmc5, hms6, h⟩ := h
  refine zr_Iv (As := [.int (36 : Int32)]) (rest := [.ref (M3.1), .ref a0]) S hK hw (kX5_init l lo g M4 (M3.1) (36 : Int32) mc5 ms6 _ h) (cwI 1 hts (zg_I zu_636) rfl rfl rfl (hts _ zu_12) (hts _ zu_653) (hts _ zu_638) rfl (by decide +kernel) ⟨Nat.le_of_ble_eq_true rfl, Nat.le_of_ble_eq_true rfl⟩) rfl hl.1 rfl (Nat.le_of_ble_eq_true rfl) dX3_init_25 ⟨hmc5, hms6⟩ (fun M7 H locs hw h => ?_)
  refine zr_pF (C := RX3) (T := TX3) (N := 5) (ci := 6) (k := 2) S hK hw hin zi_X3 tyX3 tyX3_ok nmX3 rfl (by decide) zu_242 rfl rfl rfl rfl dX3_init_28 h (fun M8 H locs hw h => ?_)
  refine lv_aload_n hx hb dX3_init_31 rfl (lv_at hl 0 rfl) ?_
  refine zr_new (C := RX5) (T := TX5) (N := 2) (ci := 8) (fs := [.null, .int 0]) S hK hw zi_X5 tyX5 tyX5_ok zu_652 zu_635 zu_12 rfl (fun j hj => by match j, hj with | 0, _ => rfl | 1, _ => rfl | j + 2, hj => exact absurd hj (by omega)) dX3_init_32 h (fun M9 H hw h => ?_)
  refine lv_dup hx hb dX3_init_35 rfl ?_
  refine lv_bipush (v := (36 : Int32)) hx hb dX3_init_36 (by decide) ?_
  obtain ⟨mc10, ms11, hmc10, hms11, h⟩ := h
  refine zr_Iv (As := [.int (36 : Int32)]) (rest := [.ref (M8.1), .ref a0]) S hK hw (kX5_init l lo g M9 (M8.1) (36 : Int32) mc10 ms11 _ h) (cwI 1 hts (zg_I zu_636) rfl rfl rfl (hts _ zu_12) (hts _ zu_653) (hts _ zu_638) rfl (by decide +kernel) ⟨Nat.le_of_ble_eq_true rfl, Nat.le_of_ble_eq_true rfl⟩) rfl hl.1 rfl (Nat.le_of_ble_eq_true rfl) dX3_init_38 ⟨hmc10, hms11⟩ (fun M12 H locs hw h => ?_)
  refine zr_pF (C := RX3) (T := TX3) (N := 5) (ci := 6) (k := 3) S hK hw hin zi_X3 tyX3 tyX3_ok nmX3 rfl (by decide) zu_250 rfl rfl rfl rfl dX3_init_41 h (fun M13 H locs hw h => ?_)
  refine lv_aload_n hx hb dX3_init_44 rfl (lv_at hl 0 rfl) ?_
  refine zr_new (C := RX5) (T := TX5) (N := 2) (ci := 8) (fs := [.null, .int 0]) S hK hw zi_X5 tyX5 tyX5_ok zu_652 zu_635 zu_12 rfl (fun j hj => by match j, hj with | 0, _ => rfl | 1, _ => rfl | j + 2, hj => exact absurd hj (by omega)) dX3_init_45 h (fun M14 H hw h => ?_)
  refine lv_dup hx hb dX3_init_48 rfl ?_
  refine lv_bipush (v := (36 : Int32)) hx hb dX3_init_49 (by decide) ?_
  obtain ⟨mc15, ms16, hmc15, hms16, h⟩ := h
  refine zr_Iv (As := [.int (36 : Int32)]) (rest := [.ref (M13.1), .ref a0]) S hK hw (kX5_init l lo g M14 (M13.1) (36 : Int32) mc15 ms16 _ h) (cwI 1 hts (zg_I zu_636) rfl rfl rfl (hts _ zu_12) (hts _ zu_653) (hts _ zu_638) rfl (by decide +kernel) ⟨Nat.le_of_ble_eq_true rfl, Nat.le_of_ble_eq_true rfl⟩) rfl hl.1 rfl (Nat.le_of_ble_eq_true rfl) dX3_init_51 ⟨hmc15, hms16⟩ (fun M17 H locs hw h => ?_)
  refine zr_pF (C := RX3) (T := TX3) (N := 5) (ci := 6) (k := 4) S hK hw hin zi_X3 tyX3 tyX3_ok nmX3 rfl (by decide) zu_251 rfl rfl rfl rfl dX3_init_54 h (fun M18 H locs hw h => ?_)
  refine W.widen (k := bc) (n := bs) h.1 h.2.1 ?_
  exact zr_rv S hr hlocks hw h.2.2 dX3_init_57
set_option maxHeartbeats 4000000 in
set_option maxRecDepth 100000 in
theorem kX4_init (l : Launch) (lo : Nat) (g : zg) (M : zm_M) (a0 : Nat) (bc bs : Nat) (post : zm_M → Prop) (h : pX4_init g.2 a0 bc bs post M) : Met l yX4_init (Cond.code yX4_init cX4_init 1 none :: zU) (({ frames := 1, cells := bc, slots := bs, locals := 40 } : Room)) (zc_P zNF zNM lo g M [.ref a0]) (va_Qv post (zc_B lo g) (zA lo)) bc bs (zA lo) := by
  refine Met.ofW (cc := cX4_init) (maxL := 1) (ret := none) (by decide) rfl ?_
  intro p e s m args below meth c s₁ B hml hv
  obtain ⟨rfl, hR, hK⟩ := hv
  have hts := atoms_spec (ws := Cond.code yX4_init cX4_init 1 none :: zU) B.pre
  have hts : ∀ w ∈ zU, w.before _ s = true := fun w hw => hts w (List.mem_cons_of_mem _ hw)
  have hown : s.vm.findClass RX4 = some m.cls := findClass_of_methodNamed B.named
  have hx := B.exec
  have hb := B.bytes
  have hr := B.returns
  have hlocks := B.notSynchronized
  have hin : meth.name = "<init>" := (name_of_methodNamed B.named B.method).1
  have S : CallFix p m c cX4_init 1 s ([.ref a0] : List Value).toArray zU RX4 := ⟨hx, hb, hml, hown, hts⟩
  have hw : zW lo g s s.heap [] M := ⟨hR, va_S.rf⟩
  have hl := lv_entry ([.ref a0]) (n := 1) (Nat.le_of_ble_eq_true rfl)
  rw [lg_entry_eq]
  generalize (lg_sl ([.ref a0]) ++ List.replicate (1 - (lg_sl ([.ref a0])).length) Slot.unset).toArray = ls at hl ⊢
  have hl : lv_has ls 1 [(0, .ref a0)] := hl
  unfold pX4_init at h
  refine lv_aload_n hx hb dX4_init_0 rfl (lv_at hl 0 rfl) ?_
  refine zr_oi S hl.1 zu_654 zu_630 zu_631 (Nat.le_of_ble_eq_true rfl) (Nat.le_of_ble_eq_true rfl) dX4_init_1 ?_
  refine lv_aload_n hx hb dX4_init_4 rfl (lv_at hl 0 rfl) ?_
  refine lv_sipush (v := (400 : Int32)) hx hb dX4_init_5 (by decide) ?_
  refine zr_na (ty := .byte) (t0 := 2) (kb := 1) (a0 := fun N => (N, .inl (fun _ => 0))) S hK hw rfl zu_651 rfl (fun h => h) (fun _ _ => rfl) rfl dX4_init_8 h (fun M1 H hw h => ?_)
  refine zr_pF (C := RX4) (T := TX4) (N := 5) (ci := 7) (k := 0) S hK hw hin zi_X4 tyX4 tyX4_ok nmX4 rfl (by decide) zu_260 rfl rfl rfl rfl dX4_init_10 h (fun M2 H locs hw h => ?_)
  refine lv_aload_n hx hb dX4_init_13 rfl (lv_at hl 0 rfl) ?_
  refine lv_iconst (v := (0 : Int32)) hx hb dX4_init_14 (by decide) ?_
  refine zr_p (C := RX4) (T := TX4) (N := 5) (ci := 7) (k := 1) S hK hw zi_X4 tyX4 tyX4_ok nmX4 rfl (by decide) zu_259 rfl rfl rfl dX4_init_15 h (fun M3 H locs hw h => ?_)
  refine lv_aload_n hx hb dX4_init_18 rfl (lv_at hl 0 rfl) ?_
  refine lv_iconst (v := (0 : Int32)) hx hb dX4_init_19 (by decide) ?_
  refine zr_p (C := RX4) (T := TX4) (N := 5) (ci := 7) (k := 2) S hK hw zi_X4 tyX4 tyX4_ok nmX4 rfl (by decide) zu_270 rfl rfl rfl dX4_init_20 h (fun M4 H locs hw h => ?_)
  refine lv_aload_n hx hb dX4_init_23 rfl (lv_at hl 0 rfl) ?_
  refine lv_iconst (v := (0 : Int32)) hx hb dX4_init_24 (by decide) ?_
  refine zr_p (C := RX4) (T := TX4) (N := 5) (ci := 7) (k := 3) S hK hw zi_X4 tyX4 tyX4_ok nmX4 rfl (by decide) zu_275 rfl rfl rfl dX4_init_25 h (fun M5 H locs hw h => ?_)
  refine lv_aload_n hx hb dX4_init_28 rfl (lv_at hl 0 rfl) ?_
  refine lv_iconst (v := (0 : Int32)) hx hb dX4_init_29 (by decide) ?_
  refine zr_p (C := RX4) (T := TX4) (N := 5) (ci := 7) (k := 4) S hK hw zi_X4 tyX4 tyX4_ok nmX4 rfl (by decide) zu_276 rfl rfl rfl dX4_init_30 h (fun M6 H locs hw h => ?_)
  refine W.widen (k := bc) (n := bs) h.1 h.2.1 ?_
  exact zr_rv S hr hlocks hw h.2.2 dX4_init_33
set_option maxHeartbeats 4000000 in
set_option maxRecDepth 100000 in
theorem sX6_init_23 {p : Program} {l : Launch} {e : Env} {s : State} {m : MethodId} {args : Array Value} {below : List Frame} {meth : Method} {c : Code} {lo : Nat} {g : zg} {bc bs : Nat} {post : zm_M → Prop} {k50 : Nat → Nat → Nat → zm_M → Prop} (S : CallFix p m c cX6_init 2 s args zU RX6) (hr : meth.sig.returnType = none) (hlocks : meth.locks = false) (hK : zk_K zNF zNM g s) (hin : meth.name = "<init>") (hk50 : ∀ (v0 : Nat) (zc : Nat) (zs : Nat) (M : zm_M), k50 v0 zc zs M → ∀ (H : Heap) (locs : List Loc) (ls : Array Slot), zW lo g s H locs M → lv_has ls 2 [(0, .ref v0)] → W p l e ({ frames := 4, cells := bc, slots := bs, locals := 102 } : Room) s m args below meth c H locs zc zs (MQ below (va_Qv post (zc_B lo g) (zA lo)) args s bc bs (zA lo)) (F0 m 50 ls [])) : ∀ (n : Nat) (v0 : Nat) (v1 : Int32) (zc : Nat) (zs : Nat) (M : zm_M), pX6_init_23 g.2 bc bs post k50 n v0 v1 zc zs M → ∀ (H : Heap) (locs : List Loc) (ls : Array Slot), zW lo g s H locs M → lv_has ls 2 [(0, .ref v0), (1, .int v1)] → W p l e ({ frames := 4, cells := bc, slots := bs, locals := 102 } : Room) s m args below meth c H locs zc zs (MQ below (va_Qv post (zc_B lo g) (zA lo)) args s bc bs (zA lo)) (F0 m 23 ls []) := by
  obtain ⟨hx, hb, hml, hown, hts⟩ := id S
  intro n
  induction n with
  | zero =>
    intro v0 v1 zc zs M h
    exact False.elim h
  | succ n23 ih =>
    intro v0 v1 zc zs M h H locs ls hw hl
    rw [pX6_init_23] at h
    refine lv_iload_n hx hb dX6_init_23 rfl (lv_at hl 1 rfl) ?_
    refine lv_bipush (v := (24 : Int32)) hx hb dX6_init_24 (by decide) ?_
    refine lv_icmp_ge (tgt := 50) hx hb dX6_init_26 (by decide) (fun hc => ?_) (fun hc => ?_)
    · have h := h.1 hc
      exact hk50 v0 zc zs _ h _ _ _ hw (lv_sub hl [0] rfl)
    · have h := h.2 hc
      refine lv_aload_n hx hb dX6_init_29 rfl (lv_at hl 0 rfl) ?_
      refine zr_ga (C := RX6) (T := TX6) (N := 7) (ci := 9) (k := 0) S hK hw zi_X6 rfl (by decide) zu_295 dX6_init_30 h (fun numbers_6 h => ?_)
      refine lv_iload_n hx hb dX6_init_33 rfl (lv_at hl 1 rfl) ?_
      refine zr_new (C := RX2) (T := TX2) (N := 3) (ci := 5) (fs := [.int 0, .null, .null]) S hK hw zi_X2 tyX2 tyX2_ok zu_656 zu_641 zu_99 rfl (fun j hj => by match j, hj with | 0, _ => rfl | 1, _ => rfl | 2, _ => rfl | j + 3, hj => exact absurd hj (by omega)) dX6_init_34 h (fun M7 H hw h => ?_)
      refine lv_dup hx hb dX6_init_37 rfl ?_
      refine lv_bipush (v := (16 : Int32)) hx hb dX6_init_38 (by decide) ?_
      obtain ⟨mc8, ms9, hmc8, hms9, h⟩ := h
      refine zr_Iv (As := [.int (16 : Int32)]) (rest := [.ref (M.1), .int v1, .ref numbers_6]) S hK hw (kX2_init l lo g M7 (M.1) (16 : Int32) mc8 ms9 _ h) (cwI 1 hts (zg_I zu_642) rfl rfl rfl (hts _ zu_99) (hts _ zu_658) (hts _ zu_644) rfl (by decide +kernel) ⟨Nat.le_of_ble_eq_true rfl, Nat.le_of_ble_eq_true rfl⟩) rfl hl.1 rfl (Nat.le_of_ble_eq_true rfl) dX6_init_40 ⟨hmc8, hms9⟩ (fun M10 H locs hw h => ?_)
      refine zr_aast (ci := 5) rfl S hK hw dX6_init_43 h (fun M11 H locs hw h => ?_)
      obtain ⟨x12, ex12⟩ : ∃ z : Int32, z = v1 + (1 : Int32) := ⟨_, rfl⟩
      have h := h x12 ex12
      refine lv_iinc (v := x12) (lv' := [(1, .int x12), (0, .ref v0)]) hx hb dX6_init_44 hl (k := 1) rfl (by rw [ex12]; rfl) (by decide) rfl (fun ls hl => ?_)
      refine lv_goto (tgt := 23) hx hb dX6_init_47 (by decide) ?_
      exact ih v0 x12 ((zc + 1) + mc8) ((zs + 3) + ms9) _ h _ _ _ hw (lv_sub hl [1, 0] rfl)
set_option maxHeartbeats 4000000 in
set_option maxRecDepth 100000 in
theorem kX6_init (l : Launch) (lo : Nat) (g : zg) (M : zm_M) (a0 : Nat) (bc bs : Nat) (post : zm_M → Prop) (h : pX6_init g.2 a0 bc bs post M) : Met l yX6_init (Cond.code yX6_init cX6_init 2 none :: zU) (({ frames := 4, cells := bc, slots := bs, locals := 102 } : Room)) (zc_P zNF zNM lo g M [.ref a0]) (va_Qv post (zc_B lo g) (zA lo)) bc bs (zA lo) := by
  refine Met.ofW (cc := cX6_init) (maxL := 2) (ret := none) (by decide) rfl ?_
  intro p e s m args below meth c s₁ B hml hv
  obtain ⟨rfl, hR, hK⟩ := hv
  have hts := atoms_spec (ws := Cond.code yX6_init cX6_init 2 none :: zU) B.pre
  have hts : ∀ w ∈ zU, w.before _ s = true := fun w hw => hts w (List.mem_cons_of_mem _ hw)
  have hown : s.vm.findClass RX6 = some m.cls := findClass_of_methodNamed B.named
  have hx := B.exec
  have hb := B.bytes
  have hr := B.returns
  have hlocks := B.notSynchronized
  have hin : meth.name = "<init>" := (name_of_methodNamed B.named B.method).1
  have S : CallFix p m c cX6_init 2 s ([.ref a0] : List Value).toArray zU RX6 := ⟨hx, hb, hml, hown, hts⟩
  have hw : zW lo g s s.heap [] M := ⟨hR, va_S.rf⟩
  have hl := lv_entry ([.ref a0]) (n := 2) (Nat.le_of_ble_eq_true rfl)
  rw [lg_entry_eq]
  generalize (lg_sl ([.ref a0]) ++ List.replicate (2 - (lg_sl ([.ref a0])).length) Slot.unset).toArray = ls at hl ⊢
  have hl : lv_has ls 2 [(0, .ref a0)] := hl
  unfold pX6_init at h
  refine lv_aload_n hx hb dX6_init_0 rfl (lv_at hl 0 rfl) ?_
  refine zr_oi S hl.1 zu_655 zu_630 zu_631 (Nat.le_of_ble_eq_true rfl) (Nat.le_of_ble_eq_true rfl) dX6_init_1 ?_
  refine lv_aload_n hx hb dX6_init_4 rfl (lv_at hl 0 rfl) ?_
  refine lv_bipush (v := (24 : Int32)) hx hb dX6_init_5 (by decide) ?_
  refine zr_aq (t0 := 4) rfl S hK hw zu_656 rfl dX6_init_7 h (fun M1 H hw h => ?_)
  refine zr_pF (C := RX6) (T := TX6) (N := 7) (ci := 9) (k := 0) S hK hw hin zi_X6 tyX6 tyX6_ok nmX6 rfl (by decide) zu_295 rfl rfl rfl rfl dX6_init_10 h (fun M2 H locs hw h => ?_)
  refine lv_aload_n hx hb dX6_init_13 rfl (lv_at hl 0 rfl) ?_
  refine lv_bipush (v := (24 : Int32)) hx hb dX6_init_14 (by decide) ?_
  refine zr_na (ty := .boolean) (t0 := 1) (kb := 1) (a0 := fun N => (N, .inl (fun _ => 0))) S hK hw rfl zu_657 rfl (fun h => h) (fun _ _ => rfl) rfl dX6_init_16 h (fun M3 H hw h => ?_)
  refine zr_pF (C := RX6) (T := TX6) (N := 7) (ci := 9) (k := 1) S hK hw hin zi_X6 tyX6 tyX6_ok nmX6 rfl (by decide) zu_294 rfl rfl rfl rfl dX6_init_18 h (fun M4 H locs hw h => ?_)
  refine lv_iconst (v := (0 : Int32)) hx hb dX6_init_21 (by decide) ?_
  refine lv_topi (fun x5 ex5 => ?_)
  have h := h x5 ex5
  refine lv_istore_n (lv' := [(1, .int x5), (0, .ref a0)]) hx hb dX6_init_22 rfl hl (by decide) rfl (fun ls hl => ?_)
  obtain ⟨n23, h⟩ := h
  refine sX6_init_23 S hr hlocks hK hin (fun w13 w14 w15 M16 h H locs ls hw hl => ?_) n23 a0 x5 ((0 + 1) + 1) ((0 + (24 : Int32).toNatClampNeg) + (24 : Int32).toNatClampNeg) _ h _ _ _ hw (lv_sub hl [1, 0] rfl)
  refine lv_aload_n hx hb dX6_init_50 rfl (lv_at hl 0 rfl) ?_
  refine lv_iconst (v := (0 : Int32)) hx hb dX6_init_51 (by decide) ?_
  refine zr_p (C := RX6) (T := TX6) (N := 7) (ci := 9) (k := 2) S hK hw zi_X6 tyX6 tyX6_ok nmX6 rfl (by decide) zu_284 rfl rfl rfl dX6_init_52 h (fun M17 H locs hw h => ?_)
  refine lv_aload_n hx hb dX6_init_55 rfl (lv_at hl 0 rfl) ?_
  refine zr_new (C := RX0) (T := TX0) (N := 5) (ci := 3) (fs := [.null, .null, .null, .null, .null]) S hK hw zi_X0 tyX0 tyX0_ok zu_659 zu_660 zu_90 rfl (fun j hj => by match j, hj with | 0, _ => rfl | 1, _ => rfl | 2, _ => rfl | 3, _ => rfl | 4, _ => rfl | j + 5, hj => exact absurd hj (by omega)) dX6_init_56 h (fun M18 H hw h => ?_)
  refine lv_dup hx hb dX6_init_59 rfl ?_
  obtain ⟨mc19, ms20, hmc19, hms20, h⟩ := h
  refine zr_IvN (As := []) (rest := [.ref (M17.1), .ref w13]) S hK hw (kX0_init l lo g M18 (M17.1)  mc19 ms20 _ h) ⟨va_cnB (host := "LeastTerms") 0 hts (zg_I zu_661) rfl rfl rfl (hK.2.2.1 (RX6, 28, yX0_init, "LeastTerms") (by decide +kernel)) (hts _ zu_90) (by decide +kernel) ⟨Nat.le_of_ble_eq_true rfl, Nat.le_of_ble_eq_true rfl⟩, rfl, hts _ zu_662⟩ rfl hl.1 rfl (Nat.le_of_ble_eq_true rfl) dX6_init_60 ⟨hmc19, hms20⟩ (fun M21 H locs hw h => ?_)
  refine zr_pF (C := RX6) (T := TX6) (N := 7) (ci := 9) (k := 3) S hK hw hin zi_X6 tyX6 tyX6_ok nmX6 rfl (by decide) zu_285 rfl rfl rfl rfl dX6_init_63 h (fun M22 H locs hw h => ?_)
  refine lv_aload_n hx hb dX6_init_66 rfl (lv_at hl 0 rfl) ?_
  refine zr_new (C := RX1) (T := TX1) (N := 11) (ci := 4) (fs := [.int 0, .null, .null, .null, .null, .null, .null, .null, .null, .null, .null]) S hK hw zi_X1 tyX1 tyX1_ok zu_663 zu_664 zu_191 rfl (fun j hj => by match j, hj with | 0, _ => rfl | 1, _ => rfl | 2, _ => rfl | 3, _ => rfl | 4, _ => rfl | 5, _ => rfl | 6, _ => rfl | 7, _ => rfl | 8, _ => rfl | 9, _ => rfl | 10, _ => rfl | j + 11, hj => exact absurd hj (by omega)) dX6_init_67 h (fun M23 H hw h => ?_)
  refine lv_dup hx hb dX6_init_70 rfl ?_
  obtain ⟨mc24, ms25, hmc24, hms25, h⟩ := h
  refine zr_IvN (As := []) (rest := [.ref (M22.1), .ref w13]) S hK hw (kX1_init l lo g M23 (M22.1)  mc24 ms25 _ h) ⟨va_cnB (host := "LeastTerms") 0 hts (zg_I zu_665) rfl rfl rfl (hK.2.2.1 (RX6, 35, yX1_init, "LeastTerms") (by decide +kernel)) (hts _ zu_191) (by decide +kernel) ⟨Nat.le_of_ble_eq_true rfl, Nat.le_of_ble_eq_true rfl⟩, rfl, hts _ zu_666⟩ rfl hl.1 rfl (Nat.le_of_ble_eq_true rfl) dX6_init_71 ⟨hmc24, hms25⟩ (fun M26 H locs hw h => ?_)
  refine zr_pF (C := RX6) (T := TX6) (N := 7) (ci := 9) (k := 4) S hK hw hin zi_X6 tyX6 tyX6_ok nmX6 rfl (by decide) zu_353 rfl rfl rfl rfl dX6_init_74 h (fun M27 H locs hw h => ?_)
  refine lv_aload_n hx hb dX6_init_77 rfl (lv_at hl 0 rfl) ?_
  refine zr_new (C := RX4) (T := TX4) (N := 5) (ci := 7) (fs := [.null, .int 0, .int 0, .int 0, .int 0]) S hK hw zi_X4 tyX4 tyX4_ok zu_667 zu_668 zu_264 rfl (fun j hj => by match j, hj with | 0, _ => rfl | 1, _ => rfl | 2, _ => rfl | 3, _ => rfl | 4, _ => rfl | j + 5, hj => exact absurd hj (by omega)) dX6_init_78 h (fun M28 H hw h => ?_)
  refine lv_dup hx hb dX6_init_81 rfl ?_
  obtain ⟨mc29, ms30, hmc29, hms30, h⟩ := h
  refine zr_IvN (As := []) (rest := [.ref (M27.1), .ref w13]) S hK hw (kX4_init l lo g M28 (M27.1)  mc29 ms30 _ h) ⟨va_cnB (host := "LeastTerms") 0 hts (zg_I zu_669) rfl rfl rfl (hK.2.2.1 (RX6, 42, yX4_init, "LeastTerms") (by decide +kernel)) (hts _ zu_264) (by decide +kernel) ⟨Nat.le_of_ble_eq_true rfl, Nat.le_of_ble_eq_true rfl⟩, rfl, hts _ zu_670⟩ rfl hl.1 rfl (Nat.le_of_ble_eq_true rfl) dX6_init_82 ⟨hmc29, hms30⟩ (fun M31 H locs hw h => ?_)
  refine zr_pF (C := RX6) (T := TX6) (N := 7) (ci := 9) (k := 5) S hK hw hin zi_X6 tyX6 tyX6_ok nmX6 rfl (by decide) zu_391 rfl rfl rfl rfl dX6_init_85 h (fun M32 H locs hw h => ?_)
  refine lv_aload_n hx hb dX6_init_88 rfl (lv_at hl 0 rfl) ?_
  refine zr_new (C := RX3) (T := TX3) (N := 5) (ci := 6) (fs := [.null, .int 0, .null, .null, .null]) S hK hw zi_X3 tyX3 tyX3_ok zu_671 zu_672 zu_240 rfl (fun j hj => by match j, hj with | 0, _ => rfl | 1, _ => rfl | 2, _ => rfl | 3, _ => rfl | 4, _ => rfl | j + 5, hj => exact absurd hj (by omega)) dX6_init_89 h (fun M33 H hw h => ?_)
  refine lv_dup hx hb dX6_init_92 rfl ?_
  obtain ⟨mc34, ms35, hmc34, hms35, h⟩ := h
  refine zr_IvN (As := []) (rest := [.ref (M32.1), .ref w13]) S hK hw (kX3_init l lo g M33 (M32.1)  mc34 ms35 _ h) ⟨va_cnB (host := "LeastTerms") 0 hts (zg_I zu_673) rfl rfl rfl (hK.2.2.1 (RX6, 49, yX3_init, "LeastTerms") (by decide +kernel)) (hts _ zu_240) (by decide +kernel) ⟨Nat.le_of_ble_eq_true rfl, Nat.le_of_ble_eq_true rfl⟩, rfl, hts _ zu_674⟩ rfl hl.1 rfl (Nat.le_of_ble_eq_true rfl) dX6_init_93 ⟨hmc34, hms35⟩ (fun M36 H locs hw h => ?_)
  refine zr_pF (C := RX6) (T := TX6) (N := 7) (ci := 9) (k := 6) S hK hw hin zi_X6 tyX6 tyX6_ok nmX6 rfl (by decide) zu_409 rfl rfl rfl rfl dX6_init_96 h (fun M37 H locs hw h => ?_)
  refine W.widen (k := bc) (n := bs) h.1 h.2.1 ?_
  exact zr_rv S hr hlocks hw h.2.2 dX6_init_99
set_option maxHeartbeats 4000000 in
set_option maxRecDepth 100000 in
theorem kX7_init (l : Launch) (lo : Nat) (g : zg) (M : zm_M) (a0 : Nat) (bc bs : Nat) (post : zm_M → Prop) (h : pX7_init g.2 a0 bc bs post M) : Met l yX7_init (Cond.code yX7_init cX7_init 1 none :: zU) (({ frames := 1, cells := bc, slots := bs, locals := 40 } : Room)) (zc_P zNF zNM lo g M [.ref a0]) (va_Qv post (zc_B lo g) (zA lo)) bc bs (zA lo) := by
  refine Met.ofW (cc := cX7_init) (maxL := 1) (ret := none) (by decide) rfl ?_
  intro p e s m args below meth c s₁ B hml hv
  obtain ⟨rfl, hR, hK⟩ := hv
  have hts := atoms_spec (ws := Cond.code yX7_init cX7_init 1 none :: zU) B.pre
  have hts : ∀ w ∈ zU, w.before _ s = true := fun w hw => hts w (List.mem_cons_of_mem _ hw)
  have hown : s.vm.findClass RX7 = some m.cls := findClass_of_methodNamed B.named
  have hx := B.exec
  have hb := B.bytes
  have hr := B.returns
  have hlocks := B.notSynchronized
  have hin : meth.name = "<init>" := (name_of_methodNamed B.named B.method).1
  have S : CallFix p m c cX7_init 1 s ([.ref a0] : List Value).toArray zU RX7 := ⟨hx, hb, hml, hown, hts⟩
  have hw : zW lo g s s.heap [] M := ⟨hR, va_S.rf⟩
  have hl := lv_entry ([.ref a0]) (n := 1) (Nat.le_of_ble_eq_true rfl)
  rw [lg_entry_eq]
  generalize (lg_sl ([.ref a0]) ++ List.replicate (1 - (lg_sl ([.ref a0])).length) Slot.unset).toArray = ls at hl ⊢
  have hl : lv_has ls 1 [(0, .ref a0)] := hl
  unfold pX7_init at h
  refine lv_aload_n hx hb dX7_init_0 rfl (lv_at hl 0 rfl) ?_
  refine zr_oi S hl.1 zu_675 zu_630 zu_631 (Nat.le_of_ble_eq_true rfl) (Nat.le_of_ble_eq_true rfl) dX7_init_1 ?_
  refine lv_aload_n hx hb dX7_init_4 rfl (lv_at hl 0 rfl) ?_
  refine lv_bipush (v := (24 : Int32)) hx hb dX7_init_5 (by decide) ?_
  refine zr_na (ty := .boolean) (t0 := 1) (kb := 1) (a0 := fun N => (N, .inl (fun _ => 0))) S hK hw rfl zu_657 rfl (fun h => h) (fun _ _ => rfl) rfl dX7_init_7 h (fun M1 H hw h => ?_)
  refine zr_pF (C := RX7) (T := TX7) (N := 14) (ci := 10) (k := 1) S hK hw hin zi_X7 tyX7 tyX7_ok nmX7 rfl (by decide) zu_485 rfl rfl rfl rfl dX7_init_9 h (fun M2 H locs hw h => ?_)
  refine lv_aload_n hx hb dX7_init_12 rfl (lv_at hl 0 rfl) ?_
  refine lv_bipush (v := (24 : Int32)) hx hb dX7_init_13 (by decide) ?_
  refine zr_na (ty := .int) (t0 := 0) (kb := 4) (a0 := fun N => (N, .inl (fun _ => 0))) S hK hw rfl zu_632 rfl (fun h => h) (fun _ _ => rfl) rfl dX7_init_15 h (fun M3 H hw h => ?_)
  refine zr_pF (C := RX7) (T := TX7) (N := 14) (ci := 10) (k := 2) S hK hw hin zi_X7 tyX7 tyX7_ok nmX7 rfl (by decide) zu_496 rfl rfl rfl rfl dX7_init_17 h (fun M4 H locs hw h => ?_)
  refine lv_aload_n hx hb dX7_init_20 rfl (lv_at hl 0 rfl) ?_
  refine lv_sipush (v := (768 : Int32)) hx hb dX7_init_21 (by decide) ?_
  refine zr_na (ty := .long) (t0 := 3) (kb := 8) (a0 := fun N => (N, .inr (.inl (fun _ => 0)))) S hK hw rfl zu_676 rfl (fun h => h) (fun _ _ => rfl) rfl dX7_init_24 h (fun M5 H hw h => ?_)
  refine zr_pF (C := RX7) (T := TX7) (N := 14) (ci := 10) (k := 3) S hK hw hin zi_X7 tyX7 tyX7_ok nmX7 rfl (by decide) zu_487 rfl rfl rfl rfl dX7_init_26 h (fun M6 H locs hw h => ?_)
  refine lv_aload_n hx hb dX7_init_29 rfl (lv_at hl 0 rfl) ?_
  refine lv_bipush (v := (48 : Int32)) hx hb dX7_init_30 (by decide) ?_
  refine zr_na (ty := .int) (t0 := 0) (kb := 4) (a0 := fun N => (N, .inl (fun _ => 0))) S hK hw rfl zu_632 rfl (fun h => h) (fun _ _ => rfl) rfl dX7_init_32 h (fun M7 H hw h => ?_)
  refine zr_pF (C := RX7) (T := TX7) (N := 14) (ci := 10) (k := 4) S hK hw hin zi_X7 tyX7 tyX7_ok nmX7 rfl (by decide) zu_486 rfl rfl rfl rfl dX7_init_34 h (fun M8 H locs hw h => ?_)
  refine lv_aload_n hx hb dX7_init_37 rfl (lv_at hl 0 rfl) ?_
  refine lv_sipush (v := (400 : Int32)) hx hb dX7_init_38 (by decide) ?_
  refine zr_na (ty := .int) (t0 := 0) (kb := 4) (a0 := fun N => (N, .inl (fun _ => 0))) S hK hw rfl zu_632 rfl (fun h => h) (fun _ _ => rfl) rfl dX7_init_41 h (fun M9 H hw h => ?_)
  refine zr_pF (C := RX7) (T := TX7) (N := 14) (ci := 10) (k := 5) S hK hw hin zi_X7 tyX7 tyX7_ok nmX7 rfl (by decide) zu_595 rfl rfl rfl rfl dX7_init_43 h (fun M10 H locs hw h => ?_)
  refine lv_aload_n hx hb dX7_init_46 rfl (lv_at hl 0 rfl) ?_
  refine lv_sipush (v := (800 : Int32)) hx hb dX7_init_47 (by decide) ?_
  refine zr_na (ty := .int) (t0 := 0) (kb := 4) (a0 := fun N => (N, .inl (fun _ => 0))) S hK hw rfl zu_632 rfl (fun h => h) (fun _ _ => rfl) rfl dX7_init_50 h (fun M11 H hw h => ?_)
  refine zr_pF (C := RX7) (T := TX7) (N := 14) (ci := 10) (k := 7) S hK hw hin zi_X7 tyX7 tyX7_ok nmX7 rfl (by decide) zu_611 rfl rfl rfl rfl dX7_init_52 h (fun M12 H locs hw h => ?_)
  refine lv_aload_n hx hb dX7_init_55 rfl (lv_at hl 0 rfl) ?_
  refine lv_sipush (v := (1728 : Int32)) hx hb dX7_init_56 (by decide) ?_
  refine zr_na (ty := .long) (t0 := 3) (kb := 8) (a0 := fun N => (N, .inr (.inl (fun _ => 0)))) S hK hw rfl zu_676 rfl (fun h => h) (fun _ _ => rfl) rfl dX7_init_59 h (fun M13 H hw h => ?_)
  refine zr_pF (C := RX7) (T := TX7) (N := 14) (ci := 10) (k := 9) S hK hw hin zi_X7 tyX7 tyX7_ok nmX7 rfl (by decide) zu_445 rfl rfl rfl rfl dX7_init_61 h (fun M14 H locs hw h => ?_)
  refine lv_aload_n hx hb dX7_init_64 rfl (lv_at hl 0 rfl) ?_
  refine lv_bipush (v := (24 : Int32)) hx hb dX7_init_65 (by decide) ?_
  refine zr_na (ty := .int) (t0 := 0) (kb := 4) (a0 := fun N => (N, .inl (fun _ => 0))) S hK hw rfl zu_632 rfl (fun h => h) (fun _ _ => rfl) rfl dX7_init_67 h (fun M15 H hw h => ?_)
  refine zr_pF (C := RX7) (T := TX7) (N := 14) (ci := 10) (k := 10) S hK hw hin zi_X7 tyX7 tyX7_ok nmX7 rfl (by decide) zu_444 rfl rfl rfl rfl dX7_init_69 h (fun M16 H locs hw h => ?_)
  refine lv_aload_n hx hb dX7_init_72 rfl (lv_at hl 0 rfl) ?_
  refine lv_sipush (v := (400 : Int32)) hx hb dX7_init_73 (by decide) ?_
  refine zr_na (ty := .int) (t0 := 0) (kb := 4) (a0 := fun N => (N, .inl (fun _ => 0))) S hK hw rfl zu_632 rfl (fun h => h) (fun _ _ => rfl) rfl dX7_init_76 h (fun M17 H hw h => ?_)
  refine zr_pF (C := RX7) (T := TX7) (N := 14) (ci := 10) (k := 13) S hK hw hin zi_X7 tyX7 tyX7_ok nmX7 rfl (by decide) zu_613 rfl rfl rfl rfl dX7_init_78 h (fun M18 H locs hw h => ?_)
  refine lv_aload_n hx hb dX7_init_81 rfl (lv_at hl 0 rfl) ?_
  refine lv_iconst (v := (0 : Int32)) hx hb dX7_init_82 (by decide) ?_
  refine zr_p (C := RX7) (T := TX7) (N := 14) (ci := 10) (k := 6) S hK hw zi_X7 tyX7 tyX7_ok nmX7 rfl (by decide) zu_594 rfl rfl rfl dX7_init_83 h (fun M19 H locs hw h => ?_)
  refine W.widen (k := bc) (n := bs) h.1 h.2.1 ?_
  exact zr_rv S hr hlocks hw h.2.2 dX7_init_86
