set_option maxHeartbeats 4000000 in
set_option maxRecDepth 100000 in
theorem sX5_addProduct_33 {p : Program} {l : Launch} {e : Env} {s : State} {m : MethodId} {args : Array Value} {below : List Frame} {meth : Method} {c : Code} {lo : Nat} {g : zg} {post : zm_M → Prop} {k52 : Nat → Nat → Nat → Int32 → zm_M → Prop} (S : CallFix p m c cX5_addProduct 5 s args zU RX5) (hr : meth.sig.returnType = none) (hlocks : meth.locks = false) (hK : zk_K zNF zNM g s) (hk52 : ∀ (v0 : Nat) (v1 : Nat) (v2 : Nat) (v3 : Int32) (M : zm_M), k52 v0 v1 v2 v3 M → ∀ (H : Heap) (locs : List Loc) (ls : Array Slot), zW lo g s H locs M → lv_has ls 5 [(0, .ref v0), (1, .ref v1), (2, .ref v2), (3, .int v3)] → W p l e ({ frames := 2, cells := 0, slots := 0, locals := 70 } : Room) s m args below meth c H locs 0 0 (MQ below (va_Qv post (zc_B lo g) (zA lo)) args s 0 0 (zA lo)) (F0 m 52 ls [])) : ∀ (n : Nat) (v0 : Nat) (v1 : Nat) (v2 : Nat) (v3 : Int32) (v4 : Int32) (M : zm_M), pX5_addProduct_33 g.2 post k52 n v0 v1 v2 v3 v4 M → ∀ (H : Heap) (locs : List Loc) (ls : Array Slot), zW lo g s H locs M → lv_has ls 5 [(0, .ref v0), (1, .ref v1), (2, .ref v2), (3, .int v3), (4, .int v4)] → W p l e ({ frames := 2, cells := 0, slots := 0, locals := 70 } : Room) s m args below meth c H locs 0 0 (MQ below (va_Qv post (zc_B lo g) (zA lo)) args s 0 0 (zA lo)) (F0 m 33 ls []) := by
  obtain ⟨hx, hb, hml, hown, hts⟩ := id S
  intro n
  induction n with
  | zero =>
    intro v0 v1 v2 v3 v4 M h
    exact False.elim h
  | succ n33 ih =>
    intro v0 v1 v2 v3 v4 M h H locs ls hw hl
    rw [pX5_addProduct_33] at h
    refine lv_iload hx hb dX5_addProduct_33 (lv_at hl 4 rfl) ?_
    refine lv_iload_n hx hb dX5_addProduct_35 rfl (lv_at hl 3 rfl) ?_
    refine lv_icmp_ge (tgt := 52) hx hb dX5_addProduct_36 (by decide) (fun hc => ?_) (fun hc => ?_)
    · have h := h.1 hc
      exact hk52 v0 v1 v2 v3 _ h _ _ _ hw (lv_sub hl [0, 1, 2, 3] rfl)
    · have h := h.2 hc
      refine lv_aload_n hx hb dX5_addProduct_39 rfl (lv_at hl 0 rfl) ?_
      refine lv_iload hx hb dX5_addProduct_40 (lv_at hl 4 rfl) ?_
      refine lv_lconst (v := (0 : Int64)) hx hb dX5_addProduct_42 (by decide) ?_
      obtain ⟨ho, h⟩ := h
      refine zr_Vv (As := [.int v4, .long (0 : Int64)]) (rest := []) S hK hw (kX5_put l lo g M v0 v4 (0 : Int64) _ h) (cwV 2 hts (zg_V zu_9 zu_10 zu_11 zu_12 zu_13) rfl rfl rfl (by decide +kernel) ⟨Nat.le_of_ble_eq_true rfl, Nat.le_of_ble_eq_true rfl⟩) (ci := 8) rfl ho rfl hl.1 rfl (Nat.le_of_ble_eq_true rfl) dX5_addProduct_43 ⟨Nat.le_of_ble_eq_true rfl, Nat.le_of_ble_eq_true rfl⟩ (fun M8 H locs hw h => ?_)
      obtain ⟨x9, ex9⟩ : ∃ z : Int32, z = v4 + (1 : Int32) := ⟨_, rfl⟩
      have h := h x9 ex9
      refine lv_iinc (v := x9) (lv' := [(4, .int x9), (0, .ref v0), (1, .ref v1), (2, .ref v2), (3, .int v3)]) hx hb dX5_addProduct_46 hl (k := 4) rfl (by rw [ex9]; rfl) (by decide) rfl (fun ls hl => ?_)
      refine lv_goto (tgt := 33) hx hb dX5_addProduct_49 (by decide) ?_
      exact ih v0 v1 v2 v3 x9 _ h _ _ _ hw (lv_sub hl [1, 2, 3, 4, 0] rfl)
set_option maxHeartbeats 4000000 in
set_option maxRecDepth 100000 in
theorem sX5_addProduct_60 {p : Program} {l : Launch} {e : Env} {s : State} {m : MethodId} {args : Array Value} {below : List Frame} {meth : Method} {c : Code} {lo : Nat} {g : zg} {post : zm_M → Prop} {k88 : Nat → Int32 → zm_M → Prop} (S : CallFix p m c cX5_addProduct 5 s args zU RX5) (hr : meth.sig.returnType = none) (hlocks : meth.locks = false) (hK : zk_K zNF zNM g s) (hk88 : ∀ (v0 : Nat) (v3 : Int32) (M : zm_M), k88 v0 v3 M → ∀ (H : Heap) (locs : List Loc) (ls : Array Slot), zW lo g s H locs M → lv_has ls 5 [(0, .ref v0), (3, .int v3)] → W p l e ({ frames := 2, cells := 0, slots := 0, locals := 70 } : Room) s m args below meth c H locs 0 0 (MQ below (va_Qv post (zc_B lo g) (zA lo)) args s 0 0 (zA lo)) (F0 m 88 ls [])) : ∀ (n : Nat) (v0 : Nat) (v1 : Nat) (v2 : Nat) (v3 : Int32) (v4 : Int32) (M : zm_M), pX5_addProduct_60 g.2 post k88 n v0 v1 v2 v3 v4 M → ∀ (H : Heap) (locs : List Loc) (ls : Array Slot), zW lo g s H locs M → lv_has ls 5 [(0, .ref v0), (1, .ref v1), (2, .ref v2), (3, .int v3), (4, .int v4)] → W p l e ({ frames := 2, cells := 0, slots := 0, locals := 70 } : Room) s m args below meth c H locs 0 0 (MQ below (va_Qv post (zc_B lo g) (zA lo)) args s 0 0 (zA lo)) (F0 m 60 ls []) := by
  obtain ⟨hx, hb, hml, hown, hts⟩ := id S
  intro n
  induction n with
  | zero =>
    intro v0 v1 v2 v3 v4 M h
    exact False.elim h
  | succ n60 ih =>
    intro v0 v1 v2 v3 v4 M h H locs ls hw hl
    rw [pX5_addProduct_60] at h
    refine lv_iload hx hb dX5_addProduct_60 (lv_at hl 4 rfl) ?_
    refine lv_aload_n hx hb dX5_addProduct_62 rfl (lv_at hl 1 rfl) ?_
    refine zr_gi (C := RX5) (T := TX5) (N := 2) (ci := 8) (k := 1) S hK hw zi_X5 rfl (by decide) zu_0 dX5_addProduct_63 h (fun used_17 h => ?_)
    refine lv_icmp_ge (tgt := 88) hx hb dX5_addProduct_66 (by decide) (fun hc => ?_) (fun hc => ?_)
    · have h := h.1 hc
      exact hk88 v0 v3 _ h _ _ _ hw (lv_sub hl [0, 3] rfl)
    · have h := h.2 hc
      refine lv_aload_n hx hb dX5_addProduct_69 rfl (lv_at hl 0 rfl) ?_
      refine lv_aload_n hx hb dX5_addProduct_70 rfl (lv_at hl 2 rfl) ?_
      refine lv_aload_n hx hb dX5_addProduct_71 rfl (lv_at hl 1 rfl) ?_
      refine lv_iload hx hb dX5_addProduct_72 (lv_at hl 4 rfl) ?_
      obtain ⟨ho, h⟩ := h
      refine zr_Vl (As := [.int v4]) (rest := [.ref v2, .ref v0]) S hK hw (kX5_limbAt l lo g M v1 v4 _ h) (cwV 1 hts (zg_V zu_26 zu_27 zu_28 zu_12 zu_29) rfl rfl rfl (by decide +kernel) ⟨Nat.le_of_ble_eq_true rfl, Nat.le_of_ble_eq_true rfl⟩) (ci := 8) rfl ho rfl hl.1 rfl (Nat.le_of_ble_eq_true rfl) dX5_addProduct_74 ⟨Nat.le_of_ble_eq_true rfl, Nat.le_of_ble_eq_true rfl⟩ (fun r19 M18 H locs hw h => ?_)
      refine lv_iload hx hb dX5_addProduct_77 (lv_at hl 4 rfl) ?_
      obtain ⟨ho, h⟩ := h
      refine zr_Vv (As := [.ref v2, .long r19, .int v4]) (rest := []) S hK hw (kX5_addTimes l lo g M18 v0 v2 r19 v4 _ h) (cwV 3 hts (zg_V zu_101 zu_102 zu_103 zu_12 zu_104) rfl rfl rfl (by decide +kernel) ⟨Nat.le_of_ble_eq_true rfl, Nat.le_of_ble_eq_true rfl⟩) (ci := 8) rfl ho rfl hl.1 rfl (Nat.le_of_ble_eq_true rfl) dX5_addProduct_79 ⟨Nat.le_of_ble_eq_true rfl, Nat.le_of_ble_eq_true rfl⟩ (fun M20 H locs hw h => ?_)
      obtain ⟨x21, ex21⟩ : ∃ z : Int32, z = v4 + (1 : Int32) := ⟨_, rfl⟩
      have h := h x21 ex21
      refine lv_iinc (v := x21) (lv' := [(4, .int x21), (0, .ref v0), (1, .ref v1), (2, .ref v2), (3, .int v3)]) hx hb dX5_addProduct_82 hl (k := 4) rfl (by rw [ex21]; rfl) (by decide) rfl (fun ls hl => ?_)
      refine lv_goto (tgt := 60) hx hb dX5_addProduct_85 (by decide) ?_
      exact ih v0 v1 v2 v3 x21 _ h _ _ _ hw (lv_sub hl [1, 2, 3, 4, 0] rfl)
set_option maxHeartbeats 4000000 in
set_option maxRecDepth 100000 in
theorem kX5_addProduct (l : Launch) (lo : Nat) (g : zg) (M : zm_M) (a0 : Nat) (a1 : Nat) (a2 : Nat) (post : zm_M → Prop) (h : pX5_addProduct g.2 a0 a1 a2 post M) : Met l yX5_addProduct (Cond.code yX5_addProduct cX5_addProduct 5 none :: zU) (({ frames := 2, cells := 0, slots := 0, locals := 70 } : Room)) (zc_P zNF zNM lo g M [.ref a0, .ref a1, .ref a2]) (va_Qv post (zc_B lo g) (zA lo)) 0 0 (zA lo) := by
  refine Met.ofW (cc := cX5_addProduct) (maxL := 5) (ret := none) (by decide) rfl ?_
  intro p e s m args below meth c s₁ B hml hv
  obtain ⟨rfl, hR, hK⟩ := hv
  have hts := atoms_spec (ws := Cond.code yX5_addProduct cX5_addProduct 5 none :: zU) B.pre
  have hts : ∀ w ∈ zU, w.before _ s = true := fun w hw => hts w (List.mem_cons_of_mem _ hw)
  have hown : s.vm.findClass RX5 = some m.cls := findClass_of_methodNamed B.named
  have hx := B.exec
  have hb := B.bytes
  have hr := B.returns
  have hlocks := B.notSynchronized
  have S : CallFix p m c cX5_addProduct 5 s ([.ref a0, .ref a1, .ref a2] : List Value).toArray zU RX5 := ⟨hx, hb, hml, hown, hts⟩
  have hw : zW lo g s s.heap [] M := ⟨hR, va_S.rf⟩
  have hl := lv_entry ([.ref a0, .ref a1, .ref a2]) (n := 5) (Nat.le_of_ble_eq_true rfl)
  rw [lg_entry_eq]
  generalize (lg_sl ([.ref a0, .ref a1, .ref a2]) ++ List.replicate (5 - (lg_sl ([.ref a0, .ref a1, .ref a2])).length) Slot.unset).toArray = ls at hl ⊢
  have hl : lv_has ls 5 [(0, .ref a0), (1, .ref a1), (2, .ref a2)] := hl
  unfold pX5_addProduct at h
  refine lv_aload_n hx hb dX5_addProduct_0 rfl (lv_at hl 0 rfl) ?_
  refine zr_gi (C := RX5) (T := TX5) (N := 2) (ci := 8) (k := 1) S hK hw zi_X5 rfl (by decide) zu_0 dX5_addProduct_1 h (fun used_1 h => ?_)
  refine lv_aload_n hx hb dX5_addProduct_4 rfl (lv_at hl 1 rfl) ?_
  refine zr_gi (C := RX5) (T := TX5) (N := 2) (ci := 8) (k := 1) S hK hw zi_X5 rfl (by decide) zu_0 dX5_addProduct_5 h (fun used_2 h => ?_)
  refine lv_aload_n hx hb dX5_addProduct_8 rfl (lv_at hl 2 rfl) ?_
  refine zr_gi (C := RX5) (T := TX5) (N := 2) (ci := 8) (k := 1) S hK hw zi_X5 rfl (by decide) zu_0 dX5_addProduct_9 h (fun used_3 h => ?_)
  refine lv_iadd hx hb dX5_addProduct_12 ?_
  refine zr_max S hl.1 zu_6 zu_7 zu_4 zu_8 (Nat.le_of_ble_eq_true rfl) (Nat.le_of_ble_eq_true rfl) (Nat.zero_le _) (Nat.zero_le _) dX5_addProduct_13 ?_
  refine lv_iconst (v := (1 : Int32)) hx hb dX5_addProduct_16 (by decide) ?_
  refine lv_iadd hx hb dX5_addProduct_17 ?_
  refine lv_aload_n hx hb dX5_addProduct_18 rfl (lv_at hl 0 rfl) ?_
  refine zr_ga (C := RX5) (T := TX5) (N := 2) (ci := 8) (k := 0) S hK hw zi_X5 rfl (by decide) zu_1 dX5_addProduct_19 h (fun row_4 h => ?_)
  refine zr_len (t0 := 0) (ty := .int) S hK hw rfl dX5_addProduct_22 h (fun len5 h => ?_)
  refine zr_min S hl.1 zu_2 zu_3 zu_4 zu_5 (Nat.le_of_ble_eq_true rfl) (Nat.le_of_ble_eq_true rfl) (Nat.zero_le _) (Nat.zero_le _) dX5_addProduct_23 ?_
  refine lv_topi (fun x6 ex6 => ?_)
  have h := h x6 ex6
  refine lv_istore_n (lv' := [(3, .int x6), (0, .ref a0), (1, .ref a1), (2, .ref a2)]) hx hb dX5_addProduct_26 rfl hl (by decide) rfl (fun ls hl => ?_)
  refine lv_aload_n hx hb dX5_addProduct_27 rfl (lv_at hl 1 rfl) ?_
  refine zr_gi (C := RX5) (T := TX5) (N := 2) (ci := 8) (k := 1) S hK hw zi_X5 rfl (by decide) zu_0 dX5_addProduct_28 h (fun used_7 h => ?_)
  refine lv_istore (lv' := [(4, .int used_7), (3, .int x6), (0, .ref a0), (1, .ref a1), (2, .ref a2)]) hx hb dX5_addProduct_31 hl (by decide) rfl (fun ls hl => ?_)
  obtain ⟨n33, h⟩ := h
  refine sX5_addProduct_33 S hr hlocks hK (fun w10 w11 w12 w13 M14 h H locs ls hw hl => ?_) n33 a0 a1 a2 x6 used_7 _ h _ _ _ hw (lv_sub hl [2, 3, 4, 1, 0] rfl)
  refine lv_aload_n hx hb dX5_addProduct_52 rfl (lv_at hl 0 rfl) ?_
  refine lv_iload_n hx hb dX5_addProduct_53 rfl (lv_at hl 3 rfl) ?_
  refine zr_p (C := RX5) (T := TX5) (N := 2) (ci := 8) (k := 1) S hK hw zi_X5 tyX5 tyX5_ok nmX5 rfl (by decide) zu_0 rfl rfl rfl dX5_addProduct_54 h (fun M15 H locs hw h => ?_)
  refine lv_iconst (v := (0 : Int32)) hx hb dX5_addProduct_57 (by decide) ?_
  refine lv_topi (fun x16 ex16 => ?_)
  have h := h x16 ex16
  refine lv_istore (lv' := [(4, .int x16), (0, .ref w10), (1, .ref w11), (2, .ref w12), (3, .int w13)]) hx hb dX5_addProduct_58 hl (by decide) rfl (fun ls hl => ?_)
  obtain ⟨n60, h⟩ := h
  refine sX5_addProduct_60 S hr hlocks hK (fun w22 w23 M24 h H locs ls hw hl => ?_) n60 w10 w11 w12 w13 x16 _ h _ _ _ hw (lv_sub hl [1, 2, 3, 4, 0] rfl)
  refine lv_aload_n hx hb dX5_addProduct_88 rfl (lv_at hl 0 rfl) ?_
  refine lv_iload_n hx hb dX5_addProduct_89 rfl (lv_at hl 1 rfl) ?_
  obtain ⟨ho, h⟩ := h
  refine zr_Vv (As := [.int w23]) (rest := []) S hK hw (kX5_trim l lo g M24 w22 w23 _ h) (cwV 1 hts (zg_V zu_14 zu_15 zu_16 zu_12 zu_17) rfl rfl rfl (by decide +kernel) ⟨Nat.le_of_ble_eq_true rfl, Nat.le_of_ble_eq_true rfl⟩) (ci := 8) rfl ho rfl hl.1 rfl (Nat.le_of_ble_eq_true rfl) dX5_addProduct_90 ⟨Nat.le_of_ble_eq_true rfl, Nat.le_of_ble_eq_true rfl⟩ (fun M25 H locs hw h => ?_)
  exact zr_rv S hr hlocks hw h dX5_addProduct_93
set_option maxHeartbeats 4000000 in
set_option maxRecDepth 100000 in
theorem kX5_multiply (l : Launch) (lo : Nat) (g : zg) (M : zm_M) (a0 : Nat) (a1 : Nat) (a2 : Nat) (post : zm_M → Prop) (h : pX5_multiply g.2 a0 a1 a2 post M) : Met l yX5_multiply (Cond.code yX5_multiply cX5_multiply 3 none :: zU) (({ frames := 3, cells := 0, slots := 0, locals := 94 } : Room)) (zc_P zNF zNM lo g M [.ref a0, .ref a1, .ref a2]) (va_Qv post (zc_B lo g) (zA lo)) 0 0 (zA lo) := by
  refine Met.ofW (cc := cX5_multiply) (maxL := 3) (ret := none) (by decide) rfl ?_
  intro p e s m args below meth c s₁ B hml hv
  obtain ⟨rfl, hR, hK⟩ := hv
  have hts := atoms_spec (ws := Cond.code yX5_multiply cX5_multiply 3 none :: zU) B.pre
  have hts : ∀ w ∈ zU, w.before _ s = true := fun w hw => hts w (List.mem_cons_of_mem _ hw)
  have hown : s.vm.findClass RX5 = some m.cls := findClass_of_methodNamed B.named
  have hx := B.exec
  have hb := B.bytes
  have hr := B.returns
  have hlocks := B.notSynchronized
  have S : CallFix p m c cX5_multiply 3 s ([.ref a0, .ref a1, .ref a2] : List Value).toArray zU RX5 := ⟨hx, hb, hml, hown, hts⟩
  have hw : zW lo g s s.heap [] M := ⟨hR, va_S.rf⟩
  have hl := lv_entry ([.ref a0, .ref a1, .ref a2]) (n := 3) (Nat.le_of_ble_eq_true rfl)
  rw [lg_entry_eq]
  generalize (lg_sl ([.ref a0, .ref a1, .ref a2]) ++ List.replicate (3 - (lg_sl ([.ref a0, .ref a1, .ref a2])).length) Slot.unset).toArray = ls at hl ⊢
  have hl : lv_has ls 3 [(0, .ref a0), (1, .ref a1), (2, .ref a2)] := hl
  unfold pX5_multiply at h
  refine lv_aload_n hx hb dX5_multiply_0 rfl (lv_at hl 0 rfl) ?_
  obtain ⟨ho, h⟩ := h
  refine zr_Vv (As := []) (rest := []) S hK hw (kX5_clear l lo g M a0  _ h) (cwV 0 hts (zg_V zu_39 zu_40 zu_41 zu_12 zu_42) rfl rfl rfl (by decide +kernel) ⟨Nat.le_of_ble_eq_true rfl, Nat.le_of_ble_eq_true rfl⟩) (ci := 8) rfl ho rfl hl.1 rfl (Nat.le_of_ble_eq_true rfl) dX5_multiply_1 ⟨Nat.le_of_ble_eq_true rfl, Nat.le_of_ble_eq_true rfl⟩ (fun M1 H locs hw h => ?_)
  refine lv_aload_n hx hb dX5_multiply_4 rfl (lv_at hl 0 rfl) ?_
  refine lv_aload_n hx hb dX5_multiply_5 rfl (lv_at hl 1 rfl) ?_
  refine lv_aload_n hx hb dX5_multiply_6 rfl (lv_at hl 2 rfl) ?_
  obtain ⟨ho, h⟩ := h
  refine zr_Vv (As := [.ref a1, .ref a2]) (rest := []) S hK hw (kX5_addProduct l lo g M1 a0 a1 a2 _ h) (cwV 2 hts (zg_V zu_105 zu_106 zu_107 zu_12 zu_108) rfl rfl rfl (by decide +kernel) ⟨Nat.le_of_ble_eq_true rfl, Nat.le_of_ble_eq_true rfl⟩) (ci := 8) rfl ho rfl hl.1 rfl (Nat.le_of_ble_eq_true rfl) dX5_multiply_7 ⟨Nat.le_of_ble_eq_true rfl, Nat.le_of_ble_eq_true rfl⟩ (fun M2 H locs hw h => ?_)
  exact zr_rv S hr hlocks hw h dX5_multiply_10
set_option maxHeartbeats 4000000 in
set_option maxRecDepth 100000 in
theorem sX5_add_27 {p : Program} {l : Launch} {e : Env} {s : State} {m : MethodId} {args : Array Value} {below : List Frame} {meth : Method} {c : Code} {lo : Nat} {g : zg} {post : zm_M → Prop} {k70 : Nat → Int32 → zm_M → Prop} (S : CallFix p m c cX5_add 8 s args zU RX5) (hr : meth.sig.returnType = none) (hlocks : meth.locks = false) (hK : zk_K zNF zNM g s) (hk70 : ∀ (v0 : Nat) (v2 : Int32) (M : zm_M), k70 v0 v2 M → ∀ (H : Heap) (locs : List Loc) (ls : Array Slot), zW lo g s H locs M → lv_has ls 8 [(0, .ref v0), (2, .int v2)] → W p l e ({ frames := 2, cells := 0, slots := 0, locals := 63 } : Room) s m args below meth c H locs 0 0 (MQ below (va_Qv post (zc_B lo g) (zA lo)) args s 0 0 (zA lo)) (F0 m 70 ls [])) : ∀ (n : Nat) (v0 : Nat) (v1 : Nat) (v2 : Int32) (v3 : Int64) (v5 : Int32) (M : zm_M), pX5_add_27 g.2 post k70 n v0 v1 v2 v3 v5 M → ∀ (H : Heap) (locs : List Loc) (ls : Array Slot), zW lo g s H locs M → lv_has ls 8 [(0, .ref v0), (1, .ref v1), (2, .int v2), (3, .long v3), (5, .int v5)] → W p l e ({ frames := 2, cells := 0, slots := 0, locals := 63 } : Room) s m args below meth c H locs 0 0 (MQ below (va_Qv post (zc_B lo g) (zA lo)) args s 0 0 (zA lo)) (F0 m 27 ls []) := by
  obtain ⟨hx, hb, hml, hown, hts⟩ := id S
  intro n
  induction n with
  | zero =>
    intro v0 v1 v2 v3 v5 M h
    exact False.elim h
  | succ n27 ih =>
    intro v0 v1 v2 v3 v5 M h H locs ls hw hl
    rw [pX5_add_27] at h
    refine lv_iload hx hb dX5_add_27 (lv_at hl 4 rfl) ?_
    refine lv_iload_n hx hb dX5_add_29 rfl (lv_at hl 2 rfl) ?_
    refine lv_icmp_ge (tgt := 70) hx hb dX5_add_30 (by decide) (fun hc => ?_) (fun hc => ?_)
    · have h := h.1 hc
      exact hk70 v0 v2 _ h _ _ _ hw (lv_sub hl [0, 2] rfl)
    · have h := h.2 hc
      refine lv_aload_n hx hb dX5_add_33 rfl (lv_at hl 0 rfl) ?_
      refine lv_iload hx hb dX5_add_34 (lv_at hl 4 rfl) ?_
      obtain ⟨ho, h⟩ := h
      refine zr_Vl (As := [.int v5]) (rest := []) S hK hw (kX5_limbAt l lo g M v0 v5 _ h) (cwV 1 hts (zg_V zu_26 zu_27 zu_28 zu_12 zu_29) rfl rfl rfl (by decide +kernel) ⟨Nat.le_of_ble_eq_true rfl, Nat.le_of_ble_eq_true rfl⟩) (ci := 8) rfl ho rfl hl.1 rfl (Nat.le_of_ble_eq_true rfl) dX5_add_36 ⟨Nat.le_of_ble_eq_true rfl, Nat.le_of_ble_eq_true rfl⟩ (fun r9 M8 H locs hw h => ?_)
      refine lv_aload_n hx hb dX5_add_39 rfl (lv_at hl 1 rfl) ?_
      refine lv_iload hx hb dX5_add_40 (lv_at hl 4 rfl) ?_
      obtain ⟨ho, h⟩ := h
      refine zr_Vl (As := [.int v5]) (rest := [.long r9]) S hK hw (kX5_limbAt l lo g M8 v1 v5 _ h) (cwV 1 hts (zg_V zu_26 zu_27 zu_28 zu_12 zu_29) rfl rfl rfl (by decide +kernel) ⟨Nat.le_of_ble_eq_true rfl, Nat.le_of_ble_eq_true rfl⟩) (ci := 8) rfl ho rfl hl.1 rfl (Nat.le_of_ble_eq_true rfl) dX5_add_42 ⟨Nat.le_of_ble_eq_true rfl, Nat.le_of_ble_eq_true rfl⟩ (fun r11 M10 H locs hw h => ?_)
      refine lv_ladd hx hb dX5_add_45 ?_
      refine lv_lload_n hx hb dX5_add_46 rfl (lv_at hl 3 rfl) ?_
      refine lv_ladd hx hb dX5_add_47 ?_
      refine lv_topl (fun x12 ex12 => ?_)
      have h := h x12 ex12
      refine lv_lstore (lv' := [(6, .long x12), (0, .ref v0), (1, .ref v1), (2, .int v2), (3, .long v3), (5, .int v5)]) hx hb dX5_add_48 hl (by decide) rfl (fun ls hl => ?_)
      refine lv_aload_n hx hb dX5_add_50 rfl (lv_at hl 1 rfl) ?_
      refine lv_iload hx hb dX5_add_51 (lv_at hl 5 rfl) ?_
      refine lv_lload hx hb dX5_add_53 (lv_at hl 0 rfl) ?_
      obtain ⟨ho, h⟩ := h
      refine zr_Vv (As := [.int v5, .long x12]) (rest := []) S hK hw (kX5_put l lo g M10 v0 v5 x12 _ h) (cwV 2 hts (zg_V zu_9 zu_10 zu_11 zu_12 zu_13) rfl rfl rfl (by decide +kernel) ⟨Nat.le_of_ble_eq_true rfl, Nat.le_of_ble_eq_true rfl⟩) (ci := 8) rfl ho rfl hl.1 rfl (Nat.le_of_ble_eq_true rfl) dX5_add_55 ⟨Nat.le_of_ble_eq_true rfl, Nat.le_of_ble_eq_true rfl⟩ (fun M13 H locs hw h => ?_)
      refine lv_lload hx hb dX5_add_58 (lv_at hl 0 rfl) ?_
      refine lv_bipush (v := (32 : Int32)) hx hb dX5_add_60 (by decide) ?_
      refine lv_lushr hx hb dX5_add_62 rfl ?_
      refine lv_topl (fun x14 ex14 => ?_)
      have h := h x14 ex14
      refine lv_lstore_n (lv' := [(3, .long x14), (6, .long x12), (0, .ref v0), (1, .ref v1), (2, .int v2), (5, .int v5)]) hx hb dX5_add_63 rfl hl (by decide) rfl (fun ls hl => ?_)
      obtain ⟨x15, ex15⟩ : ∃ z : Int32, z = v5 + (1 : Int32) := ⟨_, rfl⟩
      have h := h x15 ex15
      refine lv_iinc (v := x15) (lv' := [(5, .int x15), (3, .long x14), (6, .long x12), (0, .ref v0), (1, .ref v1), (2, .int v2)]) hx hb dX5_add_64 hl (k := 5) rfl (by rw [ex15]; rfl) (by decide) rfl (fun ls hl => ?_)
      refine lv_goto (tgt := 27) hx hb dX5_add_67 (by decide) ?_
      exact ih v0 v1 v2 x14 x15 _ h _ _ _ hw (lv_sub hl [3, 4, 5, 1, 0] rfl)
set_option maxHeartbeats 4000000 in
set_option maxRecDepth 100000 in
theorem kX5_add (l : Launch) (lo : Nat) (g : zg) (M : zm_M) (a0 : Nat) (a1 : Nat) (post : zm_M → Prop) (h : pX5_add g.2 a0 a1 post M) : Met l yX5_add (Cond.code yX5_add cX5_add 8 none :: zU) (({ frames := 2, cells := 0, slots := 0, locals := 63 } : Room)) (zc_P zNF zNM lo g M [.ref a0, .ref a1]) (va_Qv post (zc_B lo g) (zA lo)) 0 0 (zA lo) := by
  refine Met.ofW (cc := cX5_add) (maxL := 8) (ret := none) (by decide) rfl ?_
  intro p e s m args below meth c s₁ B hml hv
  obtain ⟨rfl, hR, hK⟩ := hv
  have hts := atoms_spec (ws := Cond.code yX5_add cX5_add 8 none :: zU) B.pre
  have hts : ∀ w ∈ zU, w.before _ s = true := fun w hw => hts w (List.mem_cons_of_mem _ hw)
  have hown : s.vm.findClass RX5 = some m.cls := findClass_of_methodNamed B.named
  have hx := B.exec
  have hb := B.bytes
  have hr := B.returns
  have hlocks := B.notSynchronized
  have S : CallFix p m c cX5_add 8 s ([.ref a0, .ref a1] : List Value).toArray zU RX5 := ⟨hx, hb, hml, hown, hts⟩
  have hw : zW lo g s s.heap [] M := ⟨hR, va_S.rf⟩
  have hl := lv_entry ([.ref a0, .ref a1]) (n := 8) (Nat.le_of_ble_eq_true rfl)
  rw [lg_entry_eq]
  generalize (lg_sl ([.ref a0, .ref a1]) ++ List.replicate (8 - (lg_sl ([.ref a0, .ref a1])).length) Slot.unset).toArray = ls at hl ⊢
  have hl : lv_has ls 8 [(0, .ref a0), (1, .ref a1)] := hl
  unfold pX5_add at h
  refine lv_aload_n hx hb dX5_add_0 rfl (lv_at hl 0 rfl) ?_
  refine zr_gi (C := RX5) (T := TX5) (N := 2) (ci := 8) (k := 1) S hK hw zi_X5 rfl (by decide) zu_0 dX5_add_1 h (fun used_1 h => ?_)
  refine lv_aload_n hx hb dX5_add_4 rfl (lv_at hl 1 rfl) ?_
  refine zr_gi (C := RX5) (T := TX5) (N := 2) (ci := 8) (k := 1) S hK hw zi_X5 rfl (by decide) zu_0 dX5_add_5 h (fun used_2 h => ?_)
  refine zr_max S hl.1 zu_6 zu_7 zu_4 zu_8 (Nat.le_of_ble_eq_true rfl) (Nat.le_of_ble_eq_true rfl) (Nat.zero_le _) (Nat.zero_le _) dX5_add_8 ?_
  refine lv_iconst (v := (1 : Int32)) hx hb dX5_add_11 (by decide) ?_
  refine lv_iadd hx hb dX5_add_12 ?_
  refine lv_aload_n hx hb dX5_add_13 rfl (lv_at hl 0 rfl) ?_
  refine zr_ga (C := RX5) (T := TX5) (N := 2) (ci := 8) (k := 0) S hK hw zi_X5 rfl (by decide) zu_1 dX5_add_14 h (fun row_3 h => ?_)
  refine zr_len (t0 := 0) (ty := .int) S hK hw rfl dX5_add_17 h (fun len4 h => ?_)
  refine zr_min S hl.1 zu_2 zu_3 zu_4 zu_5 (Nat.le_of_ble_eq_true rfl) (Nat.le_of_ble_eq_true rfl) (Nat.zero_le _) (Nat.zero_le _) dX5_add_18 ?_
  refine lv_topi (fun x5 ex5 => ?_)
  have h := h x5 ex5
  refine lv_istore_n (lv' := [(2, .int x5), (0, .ref a0), (1, .ref a1)]) hx hb dX5_add_21 rfl hl (by decide) rfl (fun ls hl => ?_)
  refine lv_lconst (v := (0 : Int64)) hx hb dX5_add_22 (by decide) ?_
  refine lv_topl (fun x6 ex6 => ?_)
  have h := h x6 ex6
  refine lv_lstore_n (lv' := [(3, .long x6), (2, .int x5), (0, .ref a0), (1, .ref a1)]) hx hb dX5_add_23 rfl hl (by decide) rfl (fun ls hl => ?_)
  refine lv_iconst (v := (0 : Int32)) hx hb dX5_add_24 (by decide) ?_
  refine lv_topi (fun x7 ex7 => ?_)
  have h := h x7 ex7
  refine lv_istore (lv' := [(5, .int x7), (3, .long x6), (2, .int x5), (0, .ref a0), (1, .ref a1)]) hx hb dX5_add_25 hl (by decide) rfl (fun ls hl => ?_)
  obtain ⟨n27, h⟩ := h
  refine sX5_add_27 S hr hlocks hK (fun w16 w17 M18 h H locs ls hw hl => ?_) n27 a0 a1 x5 x6 x7 _ h _ _ _ hw (lv_sub hl [3, 4, 2, 1, 0] rfl)
  refine lv_aload_n hx hb dX5_add_70 rfl (lv_at hl 0 rfl) ?_
  refine lv_iload_n hx hb dX5_add_71 rfl (lv_at hl 1 rfl) ?_
  obtain ⟨ho, h⟩ := h
  refine zr_Vv (As := [.int w17]) (rest := []) S hK hw (kX5_trim l lo g M18 w16 w17 _ h) (cwV 1 hts (zg_V zu_14 zu_15 zu_16 zu_12 zu_17) rfl rfl rfl (by decide +kernel) ⟨Nat.le_of_ble_eq_true rfl, Nat.le_of_ble_eq_true rfl⟩) (ci := 8) rfl ho rfl hl.1 rfl (Nat.le_of_ble_eq_true rfl) dX5_add_72 ⟨Nat.le_of_ble_eq_true rfl, Nat.le_of_ble_eq_true rfl⟩ (fun M19 H locs hw h => ?_)
  exact zr_rv S hr hlocks hw h dX5_add_75
set_option maxHeartbeats 4000000 in
set_option maxRecDepth 100000 in
theorem sX5_subtract_11 {p : Program} {l : Launch} {e : Env} {s : State} {m : MethodId} {args : Array Value} {below : List Frame} {meth : Method} {c : Code} {lo : Nat} {g : zg} {post : zm_M → Prop} {k56 : Nat → Int32 → zm_M → Prop} (S : CallFix p m c cX5_subtract 9 s args zU RX5) (hr : meth.sig.returnType = none) (hlocks : meth.locks = false) (hK : zk_K zNF zNM g s) (hk56 : ∀ (v0 : Nat) (v3 : Int32) (M : zm_M), k56 v0 v3 M → ∀ (H : Heap) (locs : List Loc) (ls : Array Slot), zW lo g s H locs M → lv_has ls 9 [(0, .ref v0), (3, .int v3)] → W p l e ({ frames := 2, cells := 0, slots := 0, locals := 63 } : Room) s m args below meth c H locs 0 0 (MQ below (va_Qv post (zc_B lo g) (zA lo)) args s 0 0 (zA lo)) (F0 m 56 ls [])) : ∀ (n : Nat) (v0 : Nat) (v1 : Nat) (v2 : Nat) (v3 : Int32) (v4 : Int64) (v6 : Int32) (M : zm_M), pX5_subtract_11 g.2 post k56 n v0 v1 v2 v3 v4 v6 M → ∀ (H : Heap) (locs : List Loc) (ls : Array Slot), zW lo g s H locs M → lv_has ls 9 [(0, .ref v0), (1, .ref v1), (2, .ref v2), (3, .int v3), (4, .long v4), (6, .int v6)] → W p l e ({ frames := 2, cells := 0, slots := 0, locals := 63 } : Room) s m args below meth c H locs 0 0 (MQ below (va_Qv post (zc_B lo g) (zA lo)) args s 0 0 (zA lo)) (F0 m 11 ls []) := by
  obtain ⟨hx, hb, hml, hown, hts⟩ := id S
  intro n
  induction n with
  | zero =>
    intro v0 v1 v2 v3 v4 v6 M h
    exact False.elim h
  | succ n11 ih =>
    intro v0 v1 v2 v3 v4 v6 M h H locs ls hw hl
    rw [pX5_subtract_11] at h
    refine lv_iload hx hb dX5_subtract_11 (lv_at hl 5 rfl) ?_
    refine lv_iload_n hx hb dX5_subtract_13 rfl (lv_at hl 3 rfl) ?_
    refine lv_icmp_ge (tgt := 56) hx hb dX5_subtract_14 (by decide) (fun hc => ?_) (fun hc => ?_)
    · have h := h.1 hc
      exact hk56 v0 v3 _ h _ _ _ hw (lv_sub hl [0, 3] rfl)
    · have h := h.2 hc
      refine lv_aload_n hx hb dX5_subtract_17 rfl (lv_at hl 1 rfl) ?_
      refine lv_iload hx hb dX5_subtract_18 (lv_at hl 5 rfl) ?_
      obtain ⟨ho, h⟩ := h
      refine zr_Vl (As := [.int v6]) (rest := []) S hK hw (kX5_limbAt l lo g M v1 v6 _ h) (cwV 1 hts (zg_V zu_26 zu_27 zu_28 zu_12 zu_29) rfl rfl rfl (by decide +kernel) ⟨Nat.le_of_ble_eq_true rfl, Nat.le_of_ble_eq_true rfl⟩) (ci := 8) rfl ho rfl hl.1 rfl (Nat.le_of_ble_eq_true rfl) dX5_subtract_20 ⟨Nat.le_of_ble_eq_true rfl, Nat.le_of_ble_eq_true rfl⟩ (fun r5 M4 H locs hw h => ?_)
      refine lv_aload_n hx hb dX5_subtract_23 rfl (lv_at hl 2 rfl) ?_
      refine lv_iload hx hb dX5_subtract_24 (lv_at hl 5 rfl) ?_
      obtain ⟨ho, h⟩ := h
      refine zr_Vl (As := [.int v6]) (rest := [.long r5]) S hK hw (kX5_limbAt l lo g M4 v2 v6 _ h) (cwV 1 hts (zg_V zu_26 zu_27 zu_28 zu_12 zu_29) rfl rfl rfl (by decide +kernel) ⟨Nat.le_of_ble_eq_true rfl, Nat.le_of_ble_eq_true rfl⟩) (ci := 8) rfl ho rfl hl.1 rfl (Nat.le_of_ble_eq_true rfl) dX5_subtract_26 ⟨Nat.le_of_ble_eq_true rfl, Nat.le_of_ble_eq_true rfl⟩ (fun r7 M6 H locs hw h => ?_)
      refine lv_lsub hx hb dX5_subtract_29 ?_
      refine lv_lload hx hb dX5_subtract_30 (lv_at hl 4 rfl) ?_
      refine lv_lsub hx hb dX5_subtract_32 ?_
      refine lv_topl (fun x8 ex8 => ?_)
      have h := h x8 ex8
      refine lv_lstore (lv' := [(7, .long x8), (0, .ref v0), (1, .ref v1), (2, .ref v2), (3, .int v3), (4, .long v4), (6, .int v6)]) hx hb dX5_subtract_33 hl (by decide) rfl (fun ls hl => ?_)
      refine lv_aload_n hx hb dX5_subtract_35 rfl (lv_at hl 1 rfl) ?_
      refine lv_iload hx hb dX5_subtract_36 (lv_at hl 6 rfl) ?_
      refine lv_lload hx hb dX5_subtract_38 (lv_at hl 0 rfl) ?_
      obtain ⟨ho, h⟩ := h
      refine zr_Vv (As := [.int v6, .long x8]) (rest := []) S hK hw (kX5_put l lo g M6 v0 v6 x8 _ h) (cwV 2 hts (zg_V zu_9 zu_10 zu_11 zu_12 zu_13) rfl rfl rfl (by decide +kernel) ⟨Nat.le_of_ble_eq_true rfl, Nat.le_of_ble_eq_true rfl⟩) (ci := 8) rfl ho rfl hl.1 rfl (Nat.le_of_ble_eq_true rfl) dX5_subtract_40 ⟨Nat.le_of_ble_eq_true rfl, Nat.le_of_ble_eq_true rfl⟩ (fun M9 H locs hw h => ?_)
      refine lv_lload hx hb dX5_subtract_43 (lv_at hl 0 rfl) ?_
      refine lv_bipush (v := (63 : Int32)) hx hb dX5_subtract_45 (by decide) ?_
      refine lv_lushr hx hb dX5_subtract_47 rfl ?_
      refine lv_topl (fun x10 ex10 => ?_)
      have h := h x10 ex10
      refine lv_lstore (lv' := [(4, .long x10), (7, .long x8), (0, .ref v0), (1, .ref v1), (2, .ref v2), (3, .int v3), (6, .int v6)]) hx hb dX5_subtract_48 hl (by decide) rfl (fun ls hl => ?_)
      obtain ⟨x11, ex11⟩ : ∃ z : Int32, z = v6 + (1 : Int32) := ⟨_, rfl⟩
      have h := h x11 ex11
      refine lv_iinc (v := x11) (lv' := [(6, .int x11), (4, .long x10), (7, .long x8), (0, .ref v0), (1, .ref v1), (2, .ref v2), (3, .int v3)]) hx hb dX5_subtract_50 hl (k := 6) rfl (by rw [ex11]; rfl) (by decide) rfl (fun ls hl => ?_)
      refine lv_goto (tgt := 11) hx hb dX5_subtract_53 (by decide) ?_
      exact ih v0 v1 v2 v3 x10 x11 _ h _ _ _ hw (lv_sub hl [3, 4, 5, 6, 1, 0] rfl)
set_option maxHeartbeats 4000000 in
set_option maxRecDepth 100000 in
theorem kX5_subtract (l : Launch) (lo : Nat) (g : zg) (M : zm_M) (a0 : Nat) (a1 : Nat) (a2 : Nat) (post : zm_M → Prop) (h : pX5_subtract g.2 a0 a1 a2 post M) : Met l yX5_subtract (Cond.code yX5_subtract cX5_subtract 9 none :: zU) (({ frames := 2, cells := 0, slots := 0, locals := 63 } : Room)) (zc_P zNF zNM lo g M [.ref a0, .ref a1, .ref a2]) (va_Qv post (zc_B lo g) (zA lo)) 0 0 (zA lo) := by
  refine Met.ofW (cc := cX5_subtract) (maxL := 9) (ret := none) (by decide) rfl ?_
  intro p e s m args below meth c s₁ B hml hv
  obtain ⟨rfl, hR, hK⟩ := hv
  have hts := atoms_spec (ws := Cond.code yX5_subtract cX5_subtract 9 none :: zU) B.pre
  have hts : ∀ w ∈ zU, w.before _ s = true := fun w hw => hts w (List.mem_cons_of_mem _ hw)
  have hown : s.vm.findClass RX5 = some m.cls := findClass_of_methodNamed B.named
  have hx := B.exec
  have hb := B.bytes
  have hr := B.returns
  have hlocks := B.notSynchronized
  have S : CallFix p m c cX5_subtract 9 s ([.ref a0, .ref a1, .ref a2] : List Value).toArray zU RX5 := ⟨hx, hb, hml, hown, hts⟩
  have hw : zW lo g s s.heap [] M := ⟨hR, va_S.rf⟩
  have hl := lv_entry ([.ref a0, .ref a1, .ref a2]) (n := 9) (Nat.le_of_ble_eq_true rfl)
  rw [lg_entry_eq]
  generalize (lg_sl ([.ref a0, .ref a1, .ref a2]) ++ List.replicate (9 - (lg_sl ([.ref a0, .ref a1, .ref a2])).length) Slot.unset).toArray = ls at hl ⊢
  have hl : lv_has ls 9 [(0, .ref a0), (1, .ref a1), (2, .ref a2)] := hl
  unfold pX5_subtract at h
  refine lv_aload_n hx hb dX5_subtract_0 rfl (lv_at hl 1 rfl) ?_
  refine zr_gi (C := RX5) (T := TX5) (N := 2) (ci := 8) (k := 1) S hK hw zi_X5 rfl (by decide) zu_0 dX5_subtract_1 h (fun used_1 h => ?_)
  refine lv_istore_n (lv' := [(3, .int used_1), (0, .ref a0), (1, .ref a1), (2, .ref a2)]) hx hb dX5_subtract_4 rfl hl (by decide) rfl (fun ls hl => ?_)
  refine lv_lconst (v := (0 : Int64)) hx hb dX5_subtract_5 (by decide) ?_
  refine lv_topl (fun x2 ex2 => ?_)
  have h := h x2 ex2
  refine lv_lstore (lv' := [(4, .long x2), (3, .int used_1), (0, .ref a0), (1, .ref a1), (2, .ref a2)]) hx hb dX5_subtract_6 hl (by decide) rfl (fun ls hl => ?_)
  refine lv_iconst (v := (0 : Int32)) hx hb dX5_subtract_8 (by decide) ?_
  refine lv_topi (fun x3 ex3 => ?_)
  have h := h x3 ex3
  refine lv_istore (lv' := [(6, .int x3), (4, .long x2), (3, .int used_1), (0, .ref a0), (1, .ref a1), (2, .ref a2)]) hx hb dX5_subtract_9 hl (by decide) rfl (fun ls hl => ?_)
  obtain ⟨n11, h⟩ := h
  refine sX5_subtract_11 S hr hlocks hK (fun w12 w13 M14 h H locs ls hw hl => ?_) n11 a0 a1 a2 used_1 x2 x3 _ h _ _ _ hw (lv_sub hl [3, 4, 5, 2, 1, 0] rfl)
  refine lv_aload_n hx hb dX5_subtract_56 rfl (lv_at hl 0 rfl) ?_
  refine lv_iload_n hx hb dX5_subtract_57 rfl (lv_at hl 1 rfl) ?_
  obtain ⟨ho, h⟩ := h
  refine zr_Vv (As := [.int w13]) (rest := []) S hK hw (kX5_trim l lo g M14 w12 w13 _ h) (cwV 1 hts (zg_V zu_14 zu_15 zu_16 zu_12 zu_17) rfl rfl rfl (by decide +kernel) ⟨Nat.le_of_ble_eq_true rfl, Nat.le_of_ble_eq_true rfl⟩) (ci := 8) rfl ho rfl hl.1 rfl (Nat.le_of_ble_eq_true rfl) dX5_subtract_58 ⟨Nat.le_of_ble_eq_true rfl, Nat.le_of_ble_eq_true rfl⟩ (fun M15 H locs hw h => ?_)
  exact zr_rv S hr hlocks hw h dX5_subtract_61
set_option maxHeartbeats 4000000 in
set_option maxRecDepth 100000 in
theorem kX2_addToTop (l : Launch) (lo : Nat) (g : zg) (M : zm_M) (a0 : Nat) (a1 : Int32) (a2 : Nat) (post : zm_M → Prop) (h : pX2_addToTop g.2 a0 a1 a2 post M) : Met l yX2_addToTop (Cond.code yX2_addToTop cX2_addToTop 3 none :: zU) (({ frames := 3, cells := 0, slots := 0, locals := 91 } : Room)) (zc_P zNF zNM lo g M [.ref a0, .int a1, .ref a2]) (va_Qv post (zc_B lo g) (zA lo)) 0 0 (zA lo) := by
  refine Met.ofW (cc := cX2_addToTop) (maxL := 3) (ret := none) (by decide) rfl ?_
  intro p e s m args below meth c s₁ B hml hv
  obtain ⟨rfl, hR, hK⟩ := hv
  have hts := atoms_spec (ws := Cond.code yX2_addToTop cX2_addToTop 3 none :: zU) B.pre
  have hts : ∀ w ∈ zU, w.before _ s = true := fun w hw => hts w (List.mem_cons_of_mem _ hw)
  have hown : s.vm.findClass RX2 = some m.cls := findClass_of_methodNamed B.named
  have hx := B.exec
  have hb := B.bytes
  have hr := B.returns
  have hlocks := B.notSynchronized
  have S : CallFix p m c cX2_addToTop 3 s ([.ref a0, .int a1, .ref a2] : List Value).toArray zU RX2 := ⟨hx, hb, hml, hown, hts⟩
  have hw : zW lo g s s.heap [] M := ⟨hR, va_S.rf⟩
  have hl := lv_entry ([.ref a0, .int a1, .ref a2]) (n := 3) (Nat.le_of_ble_eq_true rfl)
  rw [lg_entry_eq]
  generalize (lg_sl ([.ref a0, .int a1, .ref a2]) ++ List.replicate (3 - (lg_sl ([.ref a0, .int a1, .ref a2])).length) Slot.unset).toArray = ls at hl ⊢
  have hl : lv_has ls 3 [(0, .ref a0), (1, .int a1), (2, .ref a2)] := hl
  unfold pX2_addToTop at h
  refine lv_aload_n hx hb dX2_addToTop_0 rfl (lv_at hl 0 rfl) ?_
  refine zr_ga (C := RX2) (T := TX2) (N := 3) (ci := 5) (k := 1) S hK hw zi_X2 rfl (by decide) zu_19 dX2_addToTop_1 h (fun top_1 h => ?_)
  obtain ⟨ho, h⟩ := h
  refine zr_Vi (As := []) (rest := []) S hK hw (kX5_isZero l lo g M top_1  _ h) (cwV 0 hts (zg_V zu_109 zu_73 zu_74 zu_12 zu_75) rfl rfl rfl (by decide +kernel) ⟨Nat.le_of_ble_eq_true rfl, Nat.le_of_ble_eq_true rfl⟩) (ci := 8) rfl ho rfl hl.1 rfl (Nat.le_of_ble_eq_true rfl) dX2_addToTop_4 ⟨Nat.le_of_ble_eq_true rfl, Nat.le_of_ble_eq_true rfl⟩ (fun r3 M2 H locs hw h => ?_)
  refine lv_if_eq (tgt := 26) hx hb dX2_addToTop_7 (by decide) (fun hc => ?_) (fun hc => ?_)
  · have h := h.1 hc
    refine lv_aload_n hx hb dX2_addToTop_26 rfl (lv_at hl 0 rfl) ?_
    refine zr_gi (C := RX2) (T := TX2) (N := 3) (ci := 5) (k := 0) S hK hw zi_X2 rfl (by decide) zu_18 dX2_addToTop_27 h (fun sign_4 h => ?_)
    refine lv_iload_n hx hb dX2_addToTop_30 rfl (lv_at hl 1 rfl) ?_
    refine lv_icmp_ne (tgt := 45) hx hb dX2_addToTop_31 (by decide) (fun hc => ?_) (fun hc => ?_)
    · have h := h.1 hc
      refine lv_aload_n hx hb dX2_addToTop_45 rfl (lv_at hl 0 rfl) ?_
      refine zr_ga (C := RX2) (T := TX2) (N := 3) (ci := 5) (k := 1) S hK hw zi_X2 rfl (by decide) zu_19 dX2_addToTop_46 h (fun top_5 h => ?_)
      refine lv_aload_n hx hb dX2_addToTop_49 rfl (lv_at hl 2 rfl) ?_
      obtain ⟨ho, h⟩ := h
      refine zr_Vi (As := [.ref a2]) (rest := []) S hK hw (kX5_order l lo g M2 top_5 a2 _ h) (cwV 1 hts (zg_V zu_110 zu_44 zu_45 zu_12 zu_46) rfl rfl rfl (by decide +kernel) ⟨Nat.le_of_ble_eq_true rfl, Nat.le_of_ble_eq_true rfl⟩) (ci := 8) rfl ho rfl hl.1 rfl (Nat.le_of_ble_eq_true rfl) dX2_addToTop_50 ⟨Nat.le_of_ble_eq_true rfl, Nat.le_of_ble_eq_true rfl⟩ (fun r7 M6 H locs hw h => ?_)
      refine lv_if_lt (tgt := 71) hx hb dX2_addToTop_53 (by decide) (fun hc => ?_) (fun hc => ?_)
      · have h := h.1 hc
        refine lv_aload_n hx hb dX2_addToTop_71 rfl (lv_at hl 0 rfl) ?_
        refine lv_iload_n hx hb dX2_addToTop_72 rfl (lv_at hl 1 rfl) ?_
        refine zr_p (C := RX2) (T := TX2) (N := 3) (ci := 5) (k := 0) S hK hw zi_X2 tyX2 tyX2_ok nmX2 rfl (by decide) zu_18 rfl rfl rfl dX2_addToTop_73 h (fun M8 H locs hw h => ?_)
        refine lv_aload_n hx hb dX2_addToTop_76 rfl (lv_at hl 0 rfl) ?_
        refine zr_ga (C := RX2) (T := TX2) (N := 3) (ci := 5) (k := 1) S hK hw zi_X2 rfl (by decide) zu_19 dX2_addToTop_77 h (fun top_9 h => ?_)
        refine lv_aload_n hx hb dX2_addToTop_80 rfl (lv_at hl 2 rfl) ?_
        refine lv_aload_n hx hb dX2_addToTop_81 rfl (lv_at hl 0 rfl) ?_
        refine zr_ga (C := RX2) (T := TX2) (N := 3) (ci := 5) (k := 1) S hK hw zi_X2 rfl (by decide) zu_19 dX2_addToTop_82 h (fun top_10 h => ?_)
        obtain ⟨ho, h⟩ := h
        refine zr_Vv (As := [.ref a2, .ref top_10]) (rest := []) S hK hw (kX5_subtract l lo g M8 top_9 a2 top_10 _ h) (cwV 2 hts (zg_V zu_111 zu_112 zu_113 zu_12 zu_114) rfl rfl rfl (by decide +kernel) ⟨Nat.le_of_ble_eq_true rfl, Nat.le_of_ble_eq_true rfl⟩) (ci := 8) rfl ho rfl hl.1 rfl (Nat.le_of_ble_eq_true rfl) dX2_addToTop_85 ⟨Nat.le_of_ble_eq_true rfl, Nat.le_of_ble_eq_true rfl⟩ (fun M11 H locs hw h => ?_)
        exact zr_rv S hr hlocks hw h dX2_addToTop_88
      · have h := h.2 hc
        refine lv_aload_n hx hb dX2_addToTop_56 rfl (lv_at hl 0 rfl) ?_
        refine zr_ga (C := RX2) (T := TX2) (N := 3) (ci := 5) (k := 1) S hK hw zi_X2 rfl (by decide) zu_19 dX2_addToTop_57 h (fun top_12 h => ?_)
        refine lv_aload_n hx hb dX2_addToTop_60 rfl (lv_at hl 0 rfl) ?_
        refine zr_ga (C := RX2) (T := TX2) (N := 3) (ci := 5) (k := 1) S hK hw zi_X2 rfl (by decide) zu_19 dX2_addToTop_61 h (fun top_13 h => ?_)
        refine lv_aload_n hx hb dX2_addToTop_64 rfl (lv_at hl 2 rfl) ?_
        obtain ⟨ho, h⟩ := h
        refine zr_Vv (As := [.ref top_13, .ref a2]) (rest := []) S hK hw (kX5_subtract l lo g M6 top_12 top_13 a2 _ h) (cwV 2 hts (zg_V zu_111 zu_112 zu_113 zu_12 zu_114) rfl rfl rfl (by decide +kernel) ⟨Nat.le_of_ble_eq_true rfl, Nat.le_of_ble_eq_true rfl⟩) (ci := 8) rfl ho rfl hl.1 rfl (Nat.le_of_ble_eq_true rfl) dX2_addToTop_65 ⟨Nat.le_of_ble_eq_true rfl, Nat.le_of_ble_eq_true rfl⟩ (fun M14 H locs hw h => ?_)
        refine lv_goto (tgt := 88) hx hb dX2_addToTop_68 (by decide) ?_
        exact zr_rv S hr hlocks hw h dX2_addToTop_88
    · have h := h.2 hc
      refine lv_aload_n hx hb dX2_addToTop_34 rfl (lv_at hl 0 rfl) ?_
      refine zr_ga (C := RX2) (T := TX2) (N := 3) (ci := 5) (k := 1) S hK hw zi_X2 rfl (by decide) zu_19 dX2_addToTop_35 h (fun top_15 h => ?_)
      refine lv_aload_n hx hb dX2_addToTop_38 rfl (lv_at hl 2 rfl) ?_
      obtain ⟨ho, h⟩ := h
      refine zr_Vv (As := [.ref a2]) (rest := []) S hK hw (kX5_add l lo g M2 top_15 a2 _ h) (cwV 1 hts (zg_V zu_115 zu_116 zu_117 zu_12 zu_118) rfl rfl rfl (by decide +kernel) ⟨Nat.le_of_ble_eq_true rfl, Nat.le_of_ble_eq_true rfl⟩) (ci := 8) rfl ho rfl hl.1 rfl (Nat.le_of_ble_eq_true rfl) dX2_addToTop_39 ⟨Nat.le_of_ble_eq_true rfl, Nat.le_of_ble_eq_true rfl⟩ (fun M16 H locs hw h => ?_)
      refine lv_goto (tgt := 88) hx hb dX2_addToTop_42 (by decide) ?_
      exact zr_rv S hr hlocks hw h dX2_addToTop_88
  · have h := h.2 hc
    refine lv_aload_n hx hb dX2_addToTop_10 rfl (lv_at hl 0 rfl) ?_
    refine lv_iload_n hx hb dX2_addToTop_11 rfl (lv_at hl 1 rfl) ?_
    refine zr_p (C := RX2) (T := TX2) (N := 3) (ci := 5) (k := 0) S hK hw zi_X2 tyX2 tyX2_ok nmX2 rfl (by decide) zu_18 rfl rfl rfl dX2_addToTop_12 h (fun M17 H locs hw h => ?_)
    refine lv_aload_n hx hb dX2_addToTop_15 rfl (lv_at hl 0 rfl) ?_
    refine zr_ga (C := RX2) (T := TX2) (N := 3) (ci := 5) (k := 1) S hK hw zi_X2 rfl (by decide) zu_19 dX2_addToTop_16 h (fun top_18 h => ?_)
    refine lv_aload_n hx hb dX2_addToTop_19 rfl (lv_at hl 2 rfl) ?_
    obtain ⟨ho, h⟩ := h
    refine zr_Vv (As := [.ref a2]) (rest := []) S hK hw (kX5_copy l lo g M17 top_18 a2 _ h) (cwV 1 hts (zg_V zu_119 zu_69 zu_70 zu_12 zu_71) rfl rfl rfl (by decide +kernel) ⟨Nat.le_of_ble_eq_true rfl, Nat.le_of_ble_eq_true rfl⟩) (ci := 8) rfl ho rfl hl.1 rfl (Nat.le_of_ble_eq_true rfl) dX2_addToTop_20 ⟨Nat.le_of_ble_eq_true rfl, Nat.le_of_ble_eq_true rfl⟩ (fun M19 H locs hw h => ?_)
    refine lv_goto (tgt := 88) hx hb dX2_addToTop_23 (by decide) ?_
    exact zr_rv S hr hlocks hw h dX2_addToTop_88
set_option maxHeartbeats 4000000 in
set_option maxRecDepth 100000 in
theorem kX0_sumOf (l : Launch) (lo : Nat) (g : zg) (M : zm_M) (a0 : Nat) (a1 : Nat) (a2 : Nat) (a3 : Int32) (post : zm_M → Prop) (h : pX0_sumOf g.2 a0 a1 a2 a3 post M) : Met l yX0_sumOf (Cond.code yX0_sumOf cX0_sumOf 4 none :: zU) (({ frames := 4, cells := 0, slots := 0, locals := 116 } : Room)) (zc_P zNF zNM lo g M [.ref a0, .ref a1, .ref a2, .int a3]) (va_Qv post (zc_B lo g) (zA lo)) 0 0 (zA lo) := by
  refine Met.ofW (cc := cX0_sumOf) (maxL := 4) (ret := none) (by decide) rfl ?_
  intro p e s m args below meth c s₁ B hml hv
  obtain ⟨rfl, hR, hK⟩ := hv
  have hts := atoms_spec (ws := Cond.code yX0_sumOf cX0_sumOf 4 none :: zU) B.pre
  have hts : ∀ w ∈ zU, w.before _ s = true := fun w hw => hts w (List.mem_cons_of_mem _ hw)
  have hown : s.vm.findClass RX0 = some m.cls := findClass_of_methodNamed B.named
  have hx := B.exec
  have hb := B.bytes
  have hr := B.returns
  have hlocks := B.notSynchronized
  have S : CallFix p m c cX0_sumOf 4 s ([.ref a0, .ref a1, .ref a2, .int a3] : List Value).toArray zU RX0 := ⟨hx, hb, hml, hown, hts⟩
  have hw : zW lo g s s.heap [] M := ⟨hR, va_S.rf⟩
  have hl := lv_entry ([.ref a0, .ref a1, .ref a2, .int a3]) (n := 4) (Nat.le_of_ble_eq_true rfl)
  rw [lg_entry_eq]
  generalize (lg_sl ([.ref a0, .ref a1, .ref a2, .int a3]) ++ List.replicate (4 - (lg_sl ([.ref a0, .ref a1, .ref a2, .int a3])).length) Slot.unset).toArray = ls at hl ⊢
  have hl : lv_has ls 4 [(0, .ref a0), (1, .ref a1), (2, .ref a2), (3, .int a3)] := hl
  unfold pX0_sumOf at h
  refine lv_aload_n hx hb dX0_sumOf_0 rfl (lv_at hl 0 rfl) ?_
  refine zr_ga (C := RX0) (T := TX0) (N := 5) (ci := 3) (k := 0) S hK hw zi_X0 rfl (by decide) zu_82 dX0_sumOf_1 h (fun result_1 h => ?_)
  refine lv_aload_n hx hb dX0_sumOf_4 rfl (lv_at hl 1 rfl) ?_
  refine zr_giN (C := RX2) (T := TX2) (N := 3) (ci := 5) (k := 0) (host := "LeastTerms") S hK hw zi_X2 rfl (by decide) (by decide +kernel) dX0_sumOf_5 h (fun sign_2 h => ?_)
  refine zr_pN (C := RX2) (T := TX2) (N := 3) (ci := 5) (k := 0) (host := "LeastTerms") S hK hw zi_X2 tyX2 tyX2_ok nmX2 rfl (by decide) (by decide +kernel) rfl rfl rfl dX0_sumOf_8 h (fun M3 H locs hw h => ?_)
  refine lv_aload_n hx hb dX0_sumOf_11 rfl (lv_at hl 0 rfl) ?_
  refine zr_ga (C := RX0) (T := TX0) (N := 5) (ci := 3) (k := 0) S hK hw zi_X0 rfl (by decide) zu_82 dX0_sumOf_12 h (fun result_4 h => ?_)
  refine zr_gaN (C := RX2) (T := TX2) (N := 3) (ci := 5) (k := 1) (host := "LeastTerms") S hK hw zi_X2 rfl (by decide) (by decide +kernel) dX0_sumOf_15 h (fun top_5 h => ?_)
  refine lv_aload_n hx hb dX0_sumOf_18 rfl (lv_at hl 1 rfl) ?_
  refine zr_gaN (C := RX2) (T := TX2) (N := 3) (ci := 5) (k := 1) (host := "LeastTerms") S hK hw zi_X2 rfl (by decide) (by decide +kernel) dX0_sumOf_19 h (fun top_6 h => ?_)
  refine lv_aload_n hx hb dX0_sumOf_22 rfl (lv_at hl 2 rfl) ?_
  refine zr_gaN (C := RX2) (T := TX2) (N := 3) (ci := 5) (k := 2) (host := "LeastTerms") S hK hw zi_X2 rfl (by decide) (by decide +kernel) dX0_sumOf_23 h (fun bottom_7 h => ?_)
  obtain ⟨ho, h⟩ := h
  refine zr_Vv (As := [.ref top_6, .ref bottom_7]) (rest := []) S hK hw (kX5_multiply l lo g M3 top_5 top_6 bottom_7 _ h) (cwV 2 hts (zg_V zu_120 zu_121 zu_122 zu_12 zu_123) rfl rfl rfl (by decide +kernel) ⟨Nat.le_of_ble_eq_true rfl, Nat.le_of_ble_eq_true rfl⟩) (ci := 8) rfl ho rfl hl.1 rfl (Nat.le_of_ble_eq_true rfl) dX0_sumOf_26 ⟨Nat.le_of_ble_eq_true rfl, Nat.le_of_ble_eq_true rfl⟩ (fun M8 H locs hw h => ?_)
  refine lv_aload_n hx hb dX0_sumOf_29 rfl (lv_at hl 0 rfl) ?_
  refine zr_ga (C := RX0) (T := TX0) (N := 5) (ci := 3) (k := 4) S hK hw zi_X0 rfl (by decide) zu_81 dX0_sumOf_30 h (fun spare_9 h => ?_)
  refine lv_aload_n hx hb dX0_sumOf_33 rfl (lv_at hl 2 rfl) ?_
  refine zr_gaN (C := RX2) (T := TX2) (N := 3) (ci := 5) (k := 1) (host := "LeastTerms") S hK hw zi_X2 rfl (by decide) (by decide +kernel) dX0_sumOf_34 h (fun top_10 h => ?_)
  refine lv_aload_n hx hb dX0_sumOf_37 rfl (lv_at hl 1 rfl) ?_
  refine zr_gaN (C := RX2) (T := TX2) (N := 3) (ci := 5) (k := 2) (host := "LeastTerms") S hK hw zi_X2 rfl (by decide) (by decide +kernel) dX0_sumOf_38 h (fun bottom_11 h => ?_)
  obtain ⟨ho, h⟩ := h
  refine zr_Vv (As := [.ref top_10, .ref bottom_11]) (rest := []) S hK hw (kX5_multiply l lo g M8 spare_9 top_10 bottom_11 _ h) (cwV 2 hts (zg_V zu_120 zu_121 zu_122 zu_12 zu_123) rfl rfl rfl (by decide +kernel) ⟨Nat.le_of_ble_eq_true rfl, Nat.le_of_ble_eq_true rfl⟩) (ci := 8) rfl ho rfl hl.1 rfl (Nat.le_of_ble_eq_true rfl) dX0_sumOf_41 ⟨Nat.le_of_ble_eq_true rfl, Nat.le_of_ble_eq_true rfl⟩ (fun M12 H locs hw h => ?_)
  refine lv_aload_n hx hb dX0_sumOf_44 rfl (lv_at hl 0 rfl) ?_
  refine zr_ga (C := RX0) (T := TX0) (N := 5) (ci := 3) (k := 0) S hK hw zi_X0 rfl (by decide) zu_82 dX0_sumOf_45 h (fun result_13 h => ?_)
  refine lv_iload_n hx hb dX0_sumOf_48 rfl (lv_at hl 3 rfl) ?_
  refine lv_aload_n hx hb dX0_sumOf_49 rfl (lv_at hl 0 rfl) ?_
  refine zr_ga (C := RX0) (T := TX0) (N := 5) (ci := 3) (k := 4) S hK hw zi_X0 rfl (by decide) zu_81 dX0_sumOf_50 h (fun spare_14 h => ?_)
  obtain ⟨ho, h⟩ := h
  refine zr_Vv (As := [.int a3, .ref spare_14]) (rest := []) S hK hw (kX2_addToTop l lo g M12 result_13 a3 spare_14 _ h) (cwV 2 hts (zg_V zu_124 zu_125 zu_126 zu_99 zu_127) rfl rfl rfl (by decide +kernel) ⟨Nat.le_of_ble_eq_true rfl, Nat.le_of_ble_eq_true rfl⟩) (ci := 5) rfl ho rfl hl.1 rfl (Nat.le_of_ble_eq_true rfl) dX0_sumOf_53 ⟨Nat.le_of_ble_eq_true rfl, Nat.le_of_ble_eq_true rfl⟩ (fun M15 H locs hw h => ?_)
  refine lv_aload_n hx hb dX0_sumOf_56 rfl (lv_at hl 0 rfl) ?_
  refine zr_ga (C := RX0) (T := TX0) (N := 5) (ci := 3) (k := 0) S hK hw zi_X0 rfl (by decide) zu_82 dX0_sumOf_57 h (fun result_16 h => ?_)
  refine zr_gaN (C := RX2) (T := TX2) (N := 3) (ci := 5) (k := 2) (host := "LeastTerms") S hK hw zi_X2 rfl (by decide) (by decide +kernel) dX0_sumOf_60 h (fun bottom_17 h => ?_)
  refine lv_aload_n hx hb dX0_sumOf_63 rfl (lv_at hl 1 rfl) ?_
  refine zr_gaN (C := RX2) (T := TX2) (N := 3) (ci := 5) (k := 2) (host := "LeastTerms") S hK hw zi_X2 rfl (by decide) (by decide +kernel) dX0_sumOf_64 h (fun bottom_18 h => ?_)
  refine lv_aload_n hx hb dX0_sumOf_67 rfl (lv_at hl 2 rfl) ?_
  refine zr_gaN (C := RX2) (T := TX2) (N := 3) (ci := 5) (k := 2) (host := "LeastTerms") S hK hw zi_X2 rfl (by decide) (by decide +kernel) dX0_sumOf_68 h (fun bottom_19 h => ?_)
  obtain ⟨ho, h⟩ := h
  refine zr_Vv (As := [.ref bottom_18, .ref bottom_19]) (rest := []) S hK hw (kX5_multiply l lo g M15 bottom_17 bottom_18 bottom_19 _ h) (cwV 2 hts (zg_V zu_120 zu_121 zu_122 zu_12 zu_123) rfl rfl rfl (by decide +kernel) ⟨Nat.le_of_ble_eq_true rfl, Nat.le_of_ble_eq_true rfl⟩) (ci := 8) rfl ho rfl hl.1 rfl (Nat.le_of_ble_eq_true rfl) dX0_sumOf_71 ⟨Nat.le_of_ble_eq_true rfl, Nat.le_of_ble_eq_true rfl⟩ (fun M20 H locs hw h => ?_)
  exact zr_rv S hr hlocks hw h dX0_sumOf_74
set_option maxHeartbeats 4000000 in
set_option maxRecDepth 100000 in
theorem kX0_productOf (l : Launch) (lo : Nat) (g : zg) (M : zm_M) (a0 : Nat) (a1 : Nat) (a2 : Nat) (post : zm_M → Prop) (h : pX0_productOf g.2 a0 a1 a2 post M) : Met l yX0_productOf (Cond.code yX0_productOf cX0_productOf 3 none :: zU) (({ frames := 4, cells := 0, slots := 0, locals := 116 } : Room)) (zc_P zNF zNM lo g M [.ref a0, .ref a1, .ref a2]) (va_Qv post (zc_B lo g) (zA lo)) 0 0 (zA lo) := by
  refine Met.ofW (cc := cX0_productOf) (maxL := 3) (ret := none) (by decide) rfl ?_
  intro p e s m args below meth c s₁ B hml hv
  obtain ⟨rfl, hR, hK⟩ := hv
  have hts := atoms_spec (ws := Cond.code yX0_productOf cX0_productOf 3 none :: zU) B.pre
  have hts : ∀ w ∈ zU, w.before _ s = true := fun w hw => hts w (List.mem_cons_of_mem _ hw)
  have hown : s.vm.findClass RX0 = some m.cls := findClass_of_methodNamed B.named
  have hx := B.exec
  have hb := B.bytes
  have hr := B.returns
  have hlocks := B.notSynchronized
  have S : CallFix p m c cX0_productOf 3 s ([.ref a0, .ref a1, .ref a2] : List Value).toArray zU RX0 := ⟨hx, hb, hml, hown, hts⟩
  have hw : zW lo g s s.heap [] M := ⟨hR, va_S.rf⟩
  have hl := lv_entry ([.ref a0, .ref a1, .ref a2]) (n := 3) (Nat.le_of_ble_eq_true rfl)
  rw [lg_entry_eq]
  generalize (lg_sl ([.ref a0, .ref a1, .ref a2]) ++ List.replicate (3 - (lg_sl ([.ref a0, .ref a1, .ref a2])).length) Slot.unset).toArray = ls at hl ⊢
  have hl : lv_has ls 3 [(0, .ref a0), (1, .ref a1), (2, .ref a2)] := hl
  unfold pX0_productOf at h
  refine lv_aload_n hx hb dX0_productOf_0 rfl (lv_at hl 0 rfl) ?_
  refine zr_ga (C := RX0) (T := TX0) (N := 5) (ci := 3) (k := 0) S hK hw zi_X0 rfl (by decide) zu_82 dX0_productOf_1 h (fun result_1 h => ?_)
  refine lv_aload_n hx hb dX0_productOf_4 rfl (lv_at hl 1 rfl) ?_
  refine zr_giN (C := RX2) (T := TX2) (N := 3) (ci := 5) (k := 0) (host := "LeastTerms") S hK hw zi_X2 rfl (by decide) (by decide +kernel) dX0_productOf_5 h (fun sign_2 h => ?_)
  refine lv_aload_n hx hb dX0_productOf_8 rfl (lv_at hl 2 rfl) ?_
  refine zr_giN (C := RX2) (T := TX2) (N := 3) (ci := 5) (k := 0) (host := "LeastTerms") S hK hw zi_X2 rfl (by decide) (by decide +kernel) dX0_productOf_9 h (fun sign_3 h => ?_)
  refine lv_imul hx hb dX0_productOf_12 ?_
  refine zr_pN (C := RX2) (T := TX2) (N := 3) (ci := 5) (k := 0) (host := "LeastTerms") S hK hw zi_X2 tyX2 tyX2_ok nmX2 rfl (by decide) (by decide +kernel) rfl rfl rfl dX0_productOf_13 h (fun M4 H locs hw h => ?_)
  refine lv_aload_n hx hb dX0_productOf_16 rfl (lv_at hl 0 rfl) ?_
  refine zr_ga (C := RX0) (T := TX0) (N := 5) (ci := 3) (k := 0) S hK hw zi_X0 rfl (by decide) zu_82 dX0_productOf_17 h (fun result_5 h => ?_)
  refine zr_gaN (C := RX2) (T := TX2) (N := 3) (ci := 5) (k := 1) (host := "LeastTerms") S hK hw zi_X2 rfl (by decide) (by decide +kernel) dX0_productOf_20 h (fun top_6 h => ?_)
  refine lv_aload_n hx hb dX0_productOf_23 rfl (lv_at hl 1 rfl) ?_
  refine zr_gaN (C := RX2) (T := TX2) (N := 3) (ci := 5) (k := 1) (host := "LeastTerms") S hK hw zi_X2 rfl (by decide) (by decide +kernel) dX0_productOf_24 h (fun top_7 h => ?_)
  refine lv_aload_n hx hb dX0_productOf_27 rfl (lv_at hl 2 rfl) ?_
  refine zr_gaN (C := RX2) (T := TX2) (N := 3) (ci := 5) (k := 1) (host := "LeastTerms") S hK hw zi_X2 rfl (by decide) (by decide +kernel) dX0_productOf_28 h (fun top_8 h => ?_)
  obtain ⟨ho, h⟩ := h
  refine zr_Vv (As := [.ref top_7, .ref top_8]) (rest := []) S hK hw (kX5_multiply l lo g M4 top_6 top_7 top_8 _ h) (cwV 2 hts (zg_V zu_120 zu_121 zu_122 zu_12 zu_123) rfl rfl rfl (by decide +kernel) ⟨Nat.le_of_ble_eq_true rfl, Nat.le_of_ble_eq_true rfl⟩) (ci := 8) rfl ho rfl hl.1 rfl (Nat.le_of_ble_eq_true rfl) dX0_productOf_31 ⟨Nat.le_of_ble_eq_true rfl, Nat.le_of_ble_eq_true rfl⟩ (fun M9 H locs hw h => ?_)
  refine lv_aload_n hx hb dX0_productOf_34 rfl (lv_at hl 0 rfl) ?_
  refine zr_ga (C := RX0) (T := TX0) (N := 5) (ci := 3) (k := 0) S hK hw zi_X0 rfl (by decide) zu_82 dX0_productOf_35 h (fun result_10 h => ?_)
  refine zr_gaN (C := RX2) (T := TX2) (N := 3) (ci := 5) (k := 2) (host := "LeastTerms") S hK hw zi_X2 rfl (by decide) (by decide +kernel) dX0_productOf_38 h (fun bottom_11 h => ?_)
  refine lv_aload_n hx hb dX0_productOf_41 rfl (lv_at hl 1 rfl) ?_
  refine zr_gaN (C := RX2) (T := TX2) (N := 3) (ci := 5) (k := 2) (host := "LeastTerms") S hK hw zi_X2 rfl (by decide) (by decide +kernel) dX0_productOf_42 h (fun bottom_12 h => ?_)
  refine lv_aload_n hx hb dX0_productOf_45 rfl (lv_at hl 2 rfl) ?_
  refine zr_gaN (C := RX2) (T := TX2) (N := 3) (ci := 5) (k := 2) (host := "LeastTerms") S hK hw zi_X2 rfl (by decide) (by decide +kernel) dX0_productOf_46 h (fun bottom_13 h => ?_)
  obtain ⟨ho, h⟩ := h
  refine zr_Vv (As := [.ref bottom_12, .ref bottom_13]) (rest := []) S hK hw (kX5_multiply l lo g M9 bottom_11 bottom_12 bottom_13 _ h) (cwV 2 hts (zg_V zu_120 zu_121 zu_122 zu_12 zu_123) rfl rfl rfl (by decide +kernel) ⟨Nat.le_of_ble_eq_true rfl, Nat.le_of_ble_eq_true rfl⟩) (ci := 8) rfl ho rfl hl.1 rfl (Nat.le_of_ble_eq_true rfl) dX0_productOf_49 ⟨Nat.le_of_ble_eq_true rfl, Nat.le_of_ble_eq_true rfl⟩ (fun M14 H locs hw h => ?_)
  exact zr_rv S hr hlocks hw h dX0_productOf_52
set_option maxHeartbeats 4000000 in
set_option maxRecDepth 100000 in
theorem kX0_quotientOf (l : Launch) (lo : Nat) (g : zg) (M : zm_M) (a0 : Nat) (a1 : Nat) (a2 : Nat) (post : zm_M → Prop) (h : pX0_quotientOf g.2 a0 a1 a2 post M) : Met l yX0_quotientOf (Cond.code yX0_quotientOf cX0_quotientOf 3 none :: zU) (({ frames := 4, cells := 0, slots := 0, locals := 116 } : Room)) (zc_P zNF zNM lo g M [.ref a0, .ref a1, .ref a2]) (va_Qv post (zc_B lo g) (zA lo)) 0 0 (zA lo) := by
  refine Met.ofW (cc := cX0_quotientOf) (maxL := 3) (ret := none) (by decide) rfl ?_
  intro p e s m args below meth c s₁ B hml hv
  obtain ⟨rfl, hR, hK⟩ := hv
  have hts := atoms_spec (ws := Cond.code yX0_quotientOf cX0_quotientOf 3 none :: zU) B.pre
  have hts : ∀ w ∈ zU, w.before _ s = true := fun w hw => hts w (List.mem_cons_of_mem _ hw)
  have hown : s.vm.findClass RX0 = some m.cls := findClass_of_methodNamed B.named
  have hx := B.exec
  have hb := B.bytes
  have hr := B.returns
  have hlocks := B.notSynchronized
  have S : CallFix p m c cX0_quotientOf 3 s ([.ref a0, .ref a1, .ref a2] : List Value).toArray zU RX0 := ⟨hx, hb, hml, hown, hts⟩
  have hw : zW lo g s s.heap [] M := ⟨hR, va_S.rf⟩
  have hl := lv_entry ([.ref a0, .ref a1, .ref a2]) (n := 3) (Nat.le_of_ble_eq_true rfl)
  rw [lg_entry_eq]
  generalize (lg_sl ([.ref a0, .ref a1, .ref a2]) ++ List.replicate (3 - (lg_sl ([.ref a0, .ref a1, .ref a2])).length) Slot.unset).toArray = ls at hl ⊢
  have hl : lv_has ls 3 [(0, .ref a0), (1, .ref a1), (2, .ref a2)] := hl
  unfold pX0_quotientOf at h
  refine lv_aload_n hx hb dX0_quotientOf_0 rfl (lv_at hl 0 rfl) ?_
  refine zr_ga (C := RX0) (T := TX0) (N := 5) (ci := 3) (k := 0) S hK hw zi_X0 rfl (by decide) zu_82 dX0_quotientOf_1 h (fun result_1 h => ?_)
  refine lv_aload_n hx hb dX0_quotientOf_4 rfl (lv_at hl 1 rfl) ?_
  refine zr_giN (C := RX2) (T := TX2) (N := 3) (ci := 5) (k := 0) (host := "LeastTerms") S hK hw zi_X2 rfl (by decide) (by decide +kernel) dX0_quotientOf_5 h (fun sign_2 h => ?_)
  refine lv_aload_n hx hb dX0_quotientOf_8 rfl (lv_at hl 2 rfl) ?_
  refine zr_giN (C := RX2) (T := TX2) (N := 3) (ci := 5) (k := 0) (host := "LeastTerms") S hK hw zi_X2 rfl (by decide) (by decide +kernel) dX0_quotientOf_9 h (fun sign_3 h => ?_)
  refine lv_imul hx hb dX0_quotientOf_12 ?_
  refine zr_pN (C := RX2) (T := TX2) (N := 3) (ci := 5) (k := 0) (host := "LeastTerms") S hK hw zi_X2 tyX2 tyX2_ok nmX2 rfl (by decide) (by decide +kernel) rfl rfl rfl dX0_quotientOf_13 h (fun M4 H locs hw h => ?_)
  refine lv_aload_n hx hb dX0_quotientOf_16 rfl (lv_at hl 0 rfl) ?_
  refine zr_ga (C := RX0) (T := TX0) (N := 5) (ci := 3) (k := 0) S hK hw zi_X0 rfl (by decide) zu_82 dX0_quotientOf_17 h (fun result_5 h => ?_)
  refine zr_gaN (C := RX2) (T := TX2) (N := 3) (ci := 5) (k := 1) (host := "LeastTerms") S hK hw zi_X2 rfl (by decide) (by decide +kernel) dX0_quotientOf_20 h (fun top_6 h => ?_)
  refine lv_aload_n hx hb dX0_quotientOf_23 rfl (lv_at hl 1 rfl) ?_
  refine zr_gaN (C := RX2) (T := TX2) (N := 3) (ci := 5) (k := 1) (host := "LeastTerms") S hK hw zi_X2 rfl (by decide) (by decide +kernel) dX0_quotientOf_24 h (fun top_7 h => ?_)
  refine lv_aload_n hx hb dX0_quotientOf_27 rfl (lv_at hl 2 rfl) ?_
  refine zr_gaN (C := RX2) (T := TX2) (N := 3) (ci := 5) (k := 2) (host := "LeastTerms") S hK hw zi_X2 rfl (by decide) (by decide +kernel) dX0_quotientOf_28 h (fun bottom_8 h => ?_)
  obtain ⟨ho, h⟩ := h
  refine zr_Vv (As := [.ref top_7, .ref bottom_8]) (rest := []) S hK hw (kX5_multiply l lo g M4 top_6 top_7 bottom_8 _ h) (cwV 2 hts (zg_V zu_120 zu_121 zu_122 zu_12 zu_123) rfl rfl rfl (by decide +kernel) ⟨Nat.le_of_ble_eq_true rfl, Nat.le_of_ble_eq_true rfl⟩) (ci := 8) rfl ho rfl hl.1 rfl (Nat.le_of_ble_eq_true rfl) dX0_quotientOf_31 ⟨Nat.le_of_ble_eq_true rfl, Nat.le_of_ble_eq_true rfl⟩ (fun M9 H locs hw h => ?_)
  refine lv_aload_n hx hb dX0_quotientOf_34 rfl (lv_at hl 0 rfl) ?_
  refine zr_ga (C := RX0) (T := TX0) (N := 5) (ci := 3) (k := 0) S hK hw zi_X0 rfl (by decide) zu_82 dX0_quotientOf_35 h (fun result_10 h => ?_)
  refine zr_gaN (C := RX2) (T := TX2) (N := 3) (ci := 5) (k := 2) (host := "LeastTerms") S hK hw zi_X2 rfl (by decide) (by decide +kernel) dX0_quotientOf_38 h (fun bottom_11 h => ?_)
  refine lv_aload_n hx hb dX0_quotientOf_41 rfl (lv_at hl 1 rfl) ?_
  refine zr_gaN (C := RX2) (T := TX2) (N := 3) (ci := 5) (k := 2) (host := "LeastTerms") S hK hw zi_X2 rfl (by decide) (by decide +kernel) dX0_quotientOf_42 h (fun bottom_12 h => ?_)
  refine lv_aload_n hx hb dX0_quotientOf_45 rfl (lv_at hl 2 rfl) ?_
  refine zr_gaN (C := RX2) (T := TX2) (N := 3) (ci := 5) (k := 1) (host := "LeastTerms") S hK hw zi_X2 rfl (by decide) (by decide +kernel) dX0_quotientOf_46 h (fun top_13 h => ?_)
  obtain ⟨ho, h⟩ := h
  refine zr_Vv (As := [.ref bottom_12, .ref top_13]) (rest := []) S hK hw (kX5_multiply l lo g M9 bottom_11 bottom_12 top_13 _ h) (cwV 2 hts (zg_V zu_120 zu_121 zu_122 zu_12 zu_123) rfl rfl rfl (by decide +kernel) ⟨Nat.le_of_ble_eq_true rfl, Nat.le_of_ble_eq_true rfl⟩) (ci := 8) rfl ho rfl hl.1 rfl (Nat.le_of_ble_eq_true rfl) dX0_quotientOf_49 ⟨Nat.le_of_ble_eq_true rfl, Nat.le_of_ble_eq_true rfl⟩ (fun M14 H locs hw h => ?_)
  exact zr_rv S hr hlocks hw h dX0_quotientOf_52
set_option maxHeartbeats 4000000 in
set_option maxRecDepth 100000 in
theorem sX0_restOf_107 {p : Program} {l : Launch} {e : Env} {s : State} {m : MethodId} {args : Array Value} {below : List Frame} {meth : Method} {c : Code} {lo : Nat} {g : zg} {post : zm_M → Prop}  (S : CallFix p m c cX0_restOf 3 s args zU RX0) (hr : meth.sig.returnType = none) (hlocks : meth.locks = false) (hK : zk_K zNF zNM g s)  : ∀ (v0 : Nat) (v1 : Nat) (v2 : Nat) (M : zm_M), pX0_restOf_107 g.2 post  v0 v1 v2 M → ∀ (H : Heap) (locs : List Loc) (ls : Array Slot), zW lo g s H locs M → lv_has ls 3 [(0, .ref v0), (1, .ref v1), (2, .ref v2)] → W p l e ({ frames := 4, cells := 0, slots := 0, locals := 129 } : Room) s m args below meth c H locs 0 0 (MQ below (va_Qv post (zc_B lo g) (zA lo)) args s 0 0 (zA lo)) (F0 m 107 ls []) := by
  obtain ⟨hx, hb, hml, hown, hts⟩ := id S
  intro v0 v1 v2 M h H locs ls hw hl
  unfold pX0_restOf_107 at h
  refine lv_aload_n hx hb dX0_restOf_107 rfl (lv_at hl 0 rfl) ?_
  refine zr_ga (C := RX0) (T := TX0) (N := 5) (ci := 3) (k := 0) S hK hw zi_X0 rfl (by decide) zu_82 dX0_restOf_108 h (fun result_20 h => ?_)
  refine zr_gaN (C := RX2) (T := TX2) (N := 3) (ci := 5) (k := 2) (host := "LeastTerms") S hK hw zi_X2 rfl (by decide) (by decide +kernel) dX0_restOf_111 h (fun bottom_21 h => ?_)
  refine lv_aload_n hx hb dX0_restOf_114 rfl (lv_at hl 1 rfl) ?_
  refine zr_gaN (C := RX2) (T := TX2) (N := 3) (ci := 5) (k := 2) (host := "LeastTerms") S hK hw zi_X2 rfl (by decide) (by decide +kernel) dX0_restOf_115 h (fun bottom_22 h => ?_)
  refine lv_aload_n hx hb dX0_restOf_118 rfl (lv_at hl 2 rfl) ?_
  refine zr_gaN (C := RX2) (T := TX2) (N := 3) (ci := 5) (k := 2) (host := "LeastTerms") S hK hw zi_X2 rfl (by decide) (by decide +kernel) dX0_restOf_119 h (fun bottom_23 h => ?_)
  obtain ⟨ho, h⟩ := h
  refine zr_Vv (As := [.ref bottom_22, .ref bottom_23]) (rest := []) S hK hw (kX5_multiply l lo g M bottom_21 bottom_22 bottom_23 _ h) (cwV 2 hts (zg_V zu_120 zu_121 zu_122 zu_12 zu_123) rfl rfl rfl (by decide +kernel) ⟨Nat.le_of_ble_eq_true rfl, Nat.le_of_ble_eq_true rfl⟩) (ci := 8) rfl ho rfl hl.1 rfl (Nat.le_of_ble_eq_true rfl) dX0_restOf_122 ⟨Nat.le_of_ble_eq_true rfl, Nat.le_of_ble_eq_true rfl⟩ (fun M24 H locs hw h => ?_)
  exact zr_rv S hr hlocks hw h dX0_restOf_125
set_option maxHeartbeats 4000000 in
set_option maxRecDepth 100000 in
theorem kX0_restOf (l : Launch) (lo : Nat) (g : zg) (M : zm_M) (a0 : Nat) (a1 : Nat) (a2 : Nat) (post : zm_M → Prop) (h : pX0_restOf g.2 a0 a1 a2 post M) : Met l yX0_restOf (Cond.code yX0_restOf cX0_restOf 3 none :: zU) (({ frames := 4, cells := 0, slots := 0, locals := 129 } : Room)) (zc_P zNF zNM lo g M [.ref a0, .ref a1, .ref a2]) (va_Qv post (zc_B lo g) (zA lo)) 0 0 (zA lo) := by
  refine Met.ofW (cc := cX0_restOf) (maxL := 3) (ret := none) (by decide) rfl ?_
  intro p e s m args below meth c s₁ B hml hv
  obtain ⟨rfl, hR, hK⟩ := hv
  have hts := atoms_spec (ws := Cond.code yX0_restOf cX0_restOf 3 none :: zU) B.pre
  have hts : ∀ w ∈ zU, w.before _ s = true := fun w hw => hts w (List.mem_cons_of_mem _ hw)
  have hown : s.vm.findClass RX0 = some m.cls := findClass_of_methodNamed B.named
  have hx := B.exec
  have hb := B.bytes
  have hr := B.returns
  have hlocks := B.notSynchronized
  have S : CallFix p m c cX0_restOf 3 s ([.ref a0, .ref a1, .ref a2] : List Value).toArray zU RX0 := ⟨hx, hb, hml, hown, hts⟩
  have hw : zW lo g s s.heap [] M := ⟨hR, va_S.rf⟩
  have hl := lv_entry ([.ref a0, .ref a1, .ref a2]) (n := 3) (Nat.le_of_ble_eq_true rfl)
  rw [lg_entry_eq]
  generalize (lg_sl ([.ref a0, .ref a1, .ref a2]) ++ List.replicate (3 - (lg_sl ([.ref a0, .ref a1, .ref a2])).length) Slot.unset).toArray = ls at hl ⊢
  have hl : lv_has ls 3 [(0, .ref a0), (1, .ref a1), (2, .ref a2)] := hl
  unfold pX0_restOf at h
  refine lv_aload_n hx hb dX0_restOf_0 rfl (lv_at hl 0 rfl) ?_
  refine zr_ga (C := RX0) (T := TX0) (N := 5) (ci := 3) (k := 0) S hK hw zi_X0 rfl (by decide) zu_82 dX0_restOf_1 h (fun result_1 h => ?_)
  refine lv_aload_n hx hb dX0_restOf_4 rfl (lv_at hl 2 rfl) ?_
  refine zr_giN (C := RX2) (T := TX2) (N := 3) (ci := 5) (k := 0) (host := "LeastTerms") S hK hw zi_X2 rfl (by decide) (by decide +kernel) dX0_restOf_5 h (fun sign_2 h => ?_)
  refine zr_pN (C := RX2) (T := TX2) (N := 3) (ci := 5) (k := 0) (host := "LeastTerms") S hK hw zi_X2 tyX2 tyX2_ok nmX2 rfl (by decide) (by decide +kernel) rfl rfl rfl dX0_restOf_8 h (fun M3 H locs hw h => ?_)
  refine lv_aload_n hx hb dX0_restOf_11 rfl (lv_at hl 0 rfl) ?_
  refine zr_ga (C := RX0) (T := TX0) (N := 5) (ci := 3) (k := 0) S hK hw zi_X0 rfl (by decide) zu_82 dX0_restOf_12 h (fun result_4 h => ?_)
  refine zr_gaN (C := RX2) (T := TX2) (N := 3) (ci := 5) (k := 1) (host := "LeastTerms") S hK hw zi_X2 rfl (by decide) (by decide +kernel) dX0_restOf_15 h (fun top_5 h => ?_)
  refine lv_aload_n hx hb dX0_restOf_18 rfl (lv_at hl 1 rfl) ?_
  refine zr_gaN (C := RX2) (T := TX2) (N := 3) (ci := 5) (k := 1) (host := "LeastTerms") S hK hw zi_X2 rfl (by decide) (by decide +kernel) dX0_restOf_19 h (fun top_6 h => ?_)
  refine lv_aload_n hx hb dX0_restOf_22 rfl (lv_at hl 2 rfl) ?_
  refine zr_gaN (C := RX2) (T := TX2) (N := 3) (ci := 5) (k := 2) (host := "LeastTerms") S hK hw zi_X2 rfl (by decide) (by decide +kernel) dX0_restOf_23 h (fun bottom_7 h => ?_)
  obtain ⟨ho, h⟩ := h
  refine zr_Vv (As := [.ref top_6, .ref bottom_7]) (rest := []) S hK hw (kX5_multiply l lo g M3 top_5 top_6 bottom_7 _ h) (cwV 2 hts (zg_V zu_120 zu_121 zu_122 zu_12 zu_123) rfl rfl rfl (by decide +kernel) ⟨Nat.le_of_ble_eq_true rfl, Nat.le_of_ble_eq_true rfl⟩) (ci := 8) rfl ho rfl hl.1 rfl (Nat.le_of_ble_eq_true rfl) dX0_restOf_26 ⟨Nat.le_of_ble_eq_true rfl, Nat.le_of_ble_eq_true rfl⟩ (fun M8 H locs hw h => ?_)
  refine lv_aload_n hx hb dX0_restOf_29 rfl (lv_at hl 0 rfl) ?_
  refine zr_ga (C := RX0) (T := TX0) (N := 5) (ci := 3) (k := 4) S hK hw zi_X0 rfl (by decide) zu_81 dX0_restOf_30 h (fun spare_9 h => ?_)
  refine lv_aload_n hx hb dX0_restOf_33 rfl (lv_at hl 2 rfl) ?_
  refine zr_gaN (C := RX2) (T := TX2) (N := 3) (ci := 5) (k := 1) (host := "LeastTerms") S hK hw zi_X2 rfl (by decide) (by decide +kernel) dX0_restOf_34 h (fun top_10 h => ?_)
  refine lv_aload_n hx hb dX0_restOf_37 rfl (lv_at hl 1 rfl) ?_
  refine zr_gaN (C := RX2) (T := TX2) (N := 3) (ci := 5) (k := 2) (host := "LeastTerms") S hK hw zi_X2 rfl (by decide) (by decide +kernel) dX0_restOf_38 h (fun bottom_11 h => ?_)
  obtain ⟨ho, h⟩ := h
  refine zr_Vv (As := [.ref top_10, .ref bottom_11]) (rest := []) S hK hw (kX5_multiply l lo g M8 spare_9 top_10 bottom_11 _ h) (cwV 2 hts (zg_V zu_120 zu_121 zu_122 zu_12 zu_123) rfl rfl rfl (by decide +kernel) ⟨Nat.le_of_ble_eq_true rfl, Nat.le_of_ble_eq_true rfl⟩) (ci := 8) rfl ho rfl hl.1 rfl (Nat.le_of_ble_eq_true rfl) dX0_restOf_41 ⟨Nat.le_of_ble_eq_true rfl, Nat.le_of_ble_eq_true rfl⟩ (fun M12 H locs hw h => ?_)
  refine lv_aload_n hx hb dX0_restOf_44 rfl (lv_at hl 0 rfl) ?_
  refine zr_ga (C := RX0) (T := TX0) (N := 5) (ci := 3) (k := 0) S hK hw zi_X0 rfl (by decide) zu_82 dX0_restOf_45 h (fun result_13 h => ?_)
  refine zr_gaN (C := RX2) (T := TX2) (N := 3) (ci := 5) (k := 1) (host := "LeastTerms") S hK hw zi_X2 rfl (by decide) (by decide +kernel) dX0_restOf_48 h (fun top_14 h => ?_)
  refine lv_aload_n hx hb dX0_restOf_51 rfl (lv_at hl 0 rfl) ?_
  refine zr_ga (C := RX0) (T := TX0) (N := 5) (ci := 3) (k := 4) S hK hw zi_X0 rfl (by decide) zu_81 dX0_restOf_52 h (fun spare_15 h => ?_)
  refine lv_aload_n hx hb dX0_restOf_55 rfl (lv_at hl 0 rfl) ?_
  refine zr_ga (C := RX0) (T := TX0) (N := 5) (ci := 3) (k := 3) S hK hw zi_X0 rfl (by decide) zu_76 dX0_restOf_56 h (fun quotient_16 h => ?_)
  obtain ⟨ho, h⟩ := h
  refine zr_Vv (As := [.ref spare_15, .ref quotient_16]) (rest := []) S hK hw (kX5_divide l lo g M12 top_14 spare_15 quotient_16 _ h) (cwV 2 hts (zg_V zu_77 zu_78 zu_79 zu_12 zu_80) rfl rfl rfl (by decide +kernel) ⟨Nat.le_of_ble_eq_true rfl, Nat.le_of_ble_eq_true rfl⟩) (ci := 8) rfl ho rfl hl.1 rfl (Nat.le_of_ble_eq_true rfl) dX0_restOf_59 ⟨Nat.le_of_ble_eq_true rfl, Nat.le_of_ble_eq_true rfl⟩ (fun M17 H locs hw h => ?_)
  refine lv_aload_n hx hb dX0_restOf_62 rfl (lv_at hl 1 rfl) ?_
  refine zr_giN (C := RX2) (T := TX2) (N := 3) (ci := 5) (k := 0) (host := "LeastTerms") S hK hw zi_X2 rfl (by decide) (by decide +kernel) dX0_restOf_63 h (fun sign_18 h => ?_)
  refine lv_aload_n hx hb dX0_restOf_66 rfl (lv_at hl 2 rfl) ?_
  refine zr_giN (C := RX2) (T := TX2) (N := 3) (ci := 5) (k := 0) (host := "LeastTerms") S hK hw zi_X2 rfl (by decide) (by decide +kernel) dX0_restOf_67 h (fun sign_19 h => ?_)
  refine lv_icmp_eq (tgt := 107) hx hb dX0_restOf_70 (by decide) (fun hc => ?_) (fun hc => ?_)
  · have h := h.1 hc
    exact sX0_restOf_107 S hr hlocks hK  a0 a1 a2 _ h _ _ _ hw (lv_sub hl [0, 1, 2] rfl)
  · have h := h.2 hc
    refine lv_aload_n hx hb dX0_restOf_73 rfl (lv_at hl 0 rfl) ?_
    refine zr_ga (C := RX0) (T := TX0) (N := 5) (ci := 3) (k := 0) S hK hw zi_X0 rfl (by decide) zu_82 dX0_restOf_74 h (fun result_25 h => ?_)
    refine zr_gaN (C := RX2) (T := TX2) (N := 3) (ci := 5) (k := 1) (host := "LeastTerms") S hK hw zi_X2 rfl (by decide) (by decide +kernel) dX0_restOf_77 h (fun top_26 h => ?_)
    obtain ⟨ho, h⟩ := h
    refine zr_Vi (As := []) (rest := []) S hK hw (kX5_isZero l lo g M17 top_26  _ h) (cwV 0 hts (zg_V zu_72 zu_73 zu_74 zu_12 zu_75) rfl rfl rfl (by decide +kernel) ⟨Nat.le_of_ble_eq_true rfl, Nat.le_of_ble_eq_true rfl⟩) (ci := 8) rfl ho rfl hl.1 rfl (Nat.le_of_ble_eq_true rfl) dX0_restOf_80 ⟨Nat.le_of_ble_eq_true rfl, Nat.le_of_ble_eq_true rfl⟩ (fun r28 M27 H locs hw h => ?_)
    refine lv_if_ne (tgt := 107) hx hb dX0_restOf_83 (by decide) (fun hc => ?_) (fun hc => ?_)
    · have h := h.1 hc
      exact sX0_restOf_107 S hr hlocks hK  a0 a1 a2 _ h _ _ _ hw (lv_sub hl [0, 1, 2] rfl)
    · have h := h.2 hc
      refine lv_aload_n hx hb dX0_restOf_86 rfl (lv_at hl 0 rfl) ?_
      refine zr_ga (C := RX0) (T := TX0) (N := 5) (ci := 3) (k := 0) S hK hw zi_X0 rfl (by decide) zu_82 dX0_restOf_87 h (fun result_29 h => ?_)
      refine zr_gaN (C := RX2) (T := TX2) (N := 3) (ci := 5) (k := 1) (host := "LeastTerms") S hK hw zi_X2 rfl (by decide) (by decide +kernel) dX0_restOf_90 h (fun top_30 h => ?_)
      refine lv_aload_n hx hb dX0_restOf_93 rfl (lv_at hl 0 rfl) ?_
      refine zr_ga (C := RX0) (T := TX0) (N := 5) (ci := 3) (k := 4) S hK hw zi_X0 rfl (by decide) zu_81 dX0_restOf_94 h (fun spare_31 h => ?_)
      refine lv_aload_n hx hb dX0_restOf_97 rfl (lv_at hl 0 rfl) ?_
      refine zr_ga (C := RX0) (T := TX0) (N := 5) (ci := 3) (k := 0) S hK hw zi_X0 rfl (by decide) zu_82 dX0_restOf_98 h (fun result_32 h => ?_)
      refine zr_gaN (C := RX2) (T := TX2) (N := 3) (ci := 5) (k := 1) (host := "LeastTerms") S hK hw zi_X2 rfl (by decide) (by decide +kernel) dX0_restOf_101 h (fun top_33 h => ?_)
      obtain ⟨ho, h⟩ := h
      refine zr_Vv (As := [.ref spare_31, .ref top_33]) (rest := []) S hK hw (kX5_subtract l lo g M27 top_30 spare_31 top_33 _ h) (cwV 2 hts (zg_V zu_128 zu_112 zu_113 zu_12 zu_114) rfl rfl rfl (by decide +kernel) ⟨Nat.le_of_ble_eq_true rfl, Nat.le_of_ble_eq_true rfl⟩) (ci := 8) rfl ho rfl hl.1 rfl (Nat.le_of_ble_eq_true rfl) dX0_restOf_104 ⟨Nat.le_of_ble_eq_true rfl, Nat.le_of_ble_eq_true rfl⟩ (fun M34 H locs hw h => ?_)
      exact sX0_restOf_107 S hr hlocks hK  a0 a1 a2 _ h _ _ _ hw (lv_sub hl [0, 1, 2] rfl)
set_option maxHeartbeats 4000000 in
set_option maxRecDepth 100000 in
theorem kX5_bits (l : Launch) (lo : Nat) (g : zg) (M : zm_M) (a0 : Nat) (post : Int32 → zm_M → Prop) (h : pX5_bits g.2 a0 post M) : Met l yX5_bits (Cond.code yX5_bits cX5_bits 1 (some .int) :: zU) (({ frames := 2, cells := 0, slots := 0, locals := 61 } : Room)) (zc_P zNF zNM lo g M [.ref a0]) (va_Qi post (zc_B lo g) (zA lo)) 0 0 (zA lo) := by
  refine Met.ofW (cc := cX5_bits) (maxL := 1) (ret := (some .int)) (by decide) rfl ?_
  intro p e s m args below meth c s₁ B hml hv
  obtain ⟨rfl, hR, hK⟩ := hv
  have hts := atoms_spec (ws := Cond.code yX5_bits cX5_bits 1 (some .int) :: zU) B.pre
  have hts : ∀ w ∈ zU, w.before _ s = true := fun w hw => hts w (List.mem_cons_of_mem _ hw)
  have hown : s.vm.findClass RX5 = some m.cls := findClass_of_methodNamed B.named
  have hx := B.exec
  have hb := B.bytes
  have hr := B.returns
  have hlocks := B.notSynchronized
  have S : CallFix p m c cX5_bits 1 s ([.ref a0] : List Value).toArray zU RX5 := ⟨hx, hb, hml, hown, hts⟩
  have hw : zW lo g s s.heap [] M := ⟨hR, va_S.rf⟩
  have hl := lv_entry ([.ref a0]) (n := 1) (Nat.le_of_ble_eq_true rfl)
  rw [lg_entry_eq]
  generalize (lg_sl ([.ref a0]) ++ List.replicate (1 - (lg_sl ([.ref a0])).length) Slot.unset).toArray = ls at hl ⊢
  have hl : lv_has ls 1 [(0, .ref a0)] := hl
  unfold pX5_bits at h
  refine lv_aload_n hx hb dX5_bits_0 rfl (lv_at hl 0 rfl) ?_
  refine zr_gi (C := RX5) (T := TX5) (N := 2) (ci := 8) (k := 1) S hK hw zi_X5 rfl (by decide) zu_0 dX5_bits_1 h (fun used_1 h => ?_)
  refine lv_if_ne (tgt := 11) hx hb dX5_bits_4 (by decide) (fun hc => ?_) (fun hc => ?_)
  · have h := h.1 hc
    refine lv_bipush (v := (32 : Int32)) hx hb dX5_bits_11 (by decide) ?_
    refine lv_aload_n hx hb dX5_bits_13 rfl (lv_at hl 0 rfl) ?_
    refine zr_gi (C := RX5) (T := TX5) (N := 2) (ci := 8) (k := 1) S hK hw zi_X5 rfl (by decide) zu_0 dX5_bits_14 h (fun used_2 h => ?_)
    refine lv_imul hx hb dX5_bits_17 ?_
    refine lv_aload_n hx hb dX5_bits_18 rfl (lv_at hl 0 rfl) ?_
    refine lv_aload_n hx hb dX5_bits_19 rfl (lv_at hl 0 rfl) ?_
    refine zr_gi (C := RX5) (T := TX5) (N := 2) (ci := 8) (k := 1) S hK hw zi_X5 rfl (by decide) zu_0 dX5_bits_20 h (fun used_3 h => ?_)
    refine lv_iconst (v := (1 : Int32)) hx hb dX5_bits_23 (by decide) ?_
    refine lv_isub hx hb dX5_bits_24 ?_
    obtain ⟨ho, h⟩ := h
    refine zr_Vl (As := [.int (used_3 - (1 : Int32))]) (rest := [.int ((32 : Int32) * used_2)]) S hK hw (kX5_limbAt l lo g M a0 (used_3 - (1 : Int32)) _ h) (cwV 1 hts (zg_V zu_26 zu_27 zu_28 zu_12 zu_29) rfl rfl rfl (by decide +kernel) ⟨Nat.le_of_ble_eq_true rfl, Nat.le_of_ble_eq_true rfl⟩) (ci := 8) rfl ho rfl hl.1 rfl (Nat.le_of_ble_eq_true rfl) dX5_bits_25 ⟨Nat.le_of_ble_eq_true rfl, Nat.le_of_ble_eq_true rfl⟩ (fun r5 M4 H locs hw h => ?_)
    refine lv_l2i hx hb dX5_bits_28 rfl ?_
    refine zr_Si (As := [.int (r5.toInt32)]) (rest := [.int ((32 : Int32) * used_2)]) S hK hw (kJ6_numberOfLeadingZeros_0f7a4 l lo g M4 (r5.toInt32) _ h) (va_cwS 1 hts (zg_S zu_47 zu_48 zu_49 zu_50) rfl rfl rfl (by decide +kernel) ⟨Nat.le_of_ble_eq_true rfl, Nat.le_of_ble_eq_true rfl⟩) rfl hl.1 rfl (Nat.le_of_ble_eq_true rfl) dX5_bits_29 ⟨Nat.le_of_ble_eq_true rfl, Nat.le_of_ble_eq_true rfl⟩ (fun r7 M6 H locs hw h => ?_)
    refine lv_isub hx hb dX5_bits_32 ?_
    exact zr_ri S hr hlocks hw h dX5_bits_33
  · have h := h.2 hc
    refine lv_iconst (v := (0 : Int32)) hx hb dX5_bits_7 (by decide) ?_
    refine lv_goto (tgt := 33) hx hb dX5_bits_8 (by decide) ?_
    exact zr_ri S hr hlocks hw h dX5_bits_33
set_option maxHeartbeats 4000000 in
set_option maxRecDepth 100000 in
theorem kX0_grow (l : Launch) (lo : Nat) (g : zg) (M : zm_M) (a0 : Nat) (a1 : Nat) (a2 : Nat) (post : zm_M → Prop) (h : pX0_grow g.2 a0 a1 a2 post M) : Met l yX0_grow (Cond.code yX0_grow cX0_grow 3 none :: zU) (({ frames := 4, cells := 0, slots := 0, locals := 116 } : Room)) (zc_P zNF zNM lo g M [.ref a0, .ref a1, .ref a2]) (va_Qv post (zc_B lo g) (zA lo)) 0 0 (zA lo) := by
  refine Met.ofW (cc := cX0_grow) (maxL := 3) (ret := none) (by decide) rfl ?_
  intro p e s m args below meth c s₁ B hml hv
  obtain ⟨rfl, hR, hK⟩ := hv
  have hts := atoms_spec (ws := Cond.code yX0_grow cX0_grow 3 none :: zU) B.pre
  have hts : ∀ w ∈ zU, w.before _ s = true := fun w hw => hts w (List.mem_cons_of_mem _ hw)
  have hown : s.vm.findClass RX0 = some m.cls := findClass_of_methodNamed B.named
  have hx := B.exec
  have hb := B.bytes
  have hr := B.returns
  have hlocks := B.notSynchronized
  have S : CallFix p m c cX0_grow 3 s ([.ref a0, .ref a1, .ref a2] : List Value).toArray zU RX0 := ⟨hx, hb, hml, hown, hts⟩
  have hw : zW lo g s s.heap [] M := ⟨hR, va_S.rf⟩
  have hl := lv_entry ([.ref a0, .ref a1, .ref a2]) (n := 3) (Nat.le_of_ble_eq_true rfl)
  rw [lg_entry_eq]
  generalize (lg_sl ([.ref a0, .ref a1, .ref a2]) ++ List.replicate (3 - (lg_sl ([.ref a0, .ref a1, .ref a2])).length) Slot.unset).toArray = ls at hl ⊢
  have hl : lv_has ls 3 [(0, .ref a0), (1, .ref a1), (2, .ref a2)] := hl
  unfold pX0_grow at h
  refine lv_aload_n hx hb dX0_grow_0 rfl (lv_at hl 1 rfl) ?_
  obtain ⟨ho, h⟩ := h
  refine zr_Vi (As := []) (rest := []) S hK hw (kX5_bits l lo g M a1  _ h) (cwV 0 hts (zg_V zu_129 zu_130 zu_131 zu_12 zu_132) rfl rfl rfl (by decide +kernel) ⟨Nat.le_of_ble_eq_true rfl, Nat.le_of_ble_eq_true rfl⟩) (ci := 8) rfl ho rfl hl.1 rfl (Nat.le_of_ble_eq_true rfl) dX0_grow_1 ⟨Nat.le_of_ble_eq_true rfl, Nat.le_of_ble_eq_true rfl⟩ (fun r2 M1 H locs hw h => ?_)
  refine lv_sipush (v := (512 : Int32)) hx hb dX0_grow_4 (by decide) ?_
  refine lv_icmp_gt (tgt := 27) hx hb dX0_grow_7 (by decide) (fun hc => ?_) (fun hc => ?_)
  · have h := h.1 hc
    exact zr_rv S hr hlocks hw h dX0_grow_27
  · have h := h.2 hc
    refine lv_aload_n hx hb dX0_grow_10 rfl (lv_at hl 0 rfl) ?_
    refine zr_ga (C := RX0) (T := TX0) (N := 5) (ci := 3) (k := 4) S hK hw zi_X0 rfl (by decide) zu_81 dX0_grow_11 h (fun spare_3 h => ?_)
    refine lv_aload_n hx hb dX0_grow_14 rfl (lv_at hl 2 rfl) ?_
    refine lv_aload_n hx hb dX0_grow_15 rfl (lv_at hl 1 rfl) ?_
    obtain ⟨ho, h⟩ := h
    refine zr_Vv (As := [.ref a2, .ref a1]) (rest := []) S hK hw (kX5_multiply l lo g M1 spare_3 a2 a1 _ h) (cwV 2 hts (zg_V zu_120 zu_121 zu_122 zu_12 zu_123) rfl rfl rfl (by decide +kernel) ⟨Nat.le_of_ble_eq_true rfl, Nat.le_of_ble_eq_true rfl⟩) (ci := 8) rfl ho rfl hl.1 rfl (Nat.le_of_ble_eq_true rfl) dX0_grow_16 ⟨Nat.le_of_ble_eq_true rfl, Nat.le_of_ble_eq_true rfl⟩ (fun M4 H locs hw h => ?_)
    refine lv_aload_n hx hb dX0_grow_19 rfl (lv_at hl 1 rfl) ?_
    refine lv_aload_n hx hb dX0_grow_20 rfl (lv_at hl 0 rfl) ?_
    refine zr_ga (C := RX0) (T := TX0) (N := 5) (ci := 3) (k := 4) S hK hw zi_X0 rfl (by decide) zu_81 dX0_grow_21 h (fun spare_5 h => ?_)
    obtain ⟨ho, h⟩ := h
    refine zr_Vv (As := [.ref spare_5]) (rest := []) S hK hw (kX5_copy l lo g M4 a1 spare_5 _ h) (cwV 1 hts (zg_V zu_68 zu_69 zu_70 zu_12 zu_71) rfl rfl rfl (by decide +kernel) ⟨Nat.le_of_ble_eq_true rfl, Nat.le_of_ble_eq_true rfl⟩) (ci := 8) rfl ho rfl hl.1 rfl (Nat.le_of_ble_eq_true rfl) dX0_grow_24 ⟨Nat.le_of_ble_eq_true rfl, Nat.le_of_ble_eq_true rfl⟩ (fun M6 H locs hw h => ?_)
    exact zr_rv S hr hlocks hw h dX0_grow_27
set_option maxHeartbeats 4000000 in
set_option maxRecDepth 100000 in
theorem sX0_raise_10 {p : Program} {l : Launch} {e : Env} {s : State} {m : MethodId} {args : Array Value} {below : List Frame} {meth : Method} {c : Code} {lo : Nat} {g : zg} {post : zm_M → Prop}  (S : CallFix p m c cX0_raise 5 s args zU RX0) (hr : meth.sig.returnType = none) (hlocks : meth.locks = false) (hK : zk_K zNF zNM g s)  : ∀ (n : Nat) (v0 : Nat) (v1 : Nat) (v2 : Nat) (v3 : Int32) (v4 : Int32) (M : zm_M), pX0_raise_10 g.2 post  n v0 v1 v2 v3 v4 M → ∀ (H : Heap) (locs : List Loc) (ls : Array Slot), zW lo g s H locs M → lv_has ls 5 [(0, .ref v0), (1, .ref v1), (2, .ref v2), (3, .int v3), (4, .int v4)] → W p l e ({ frames := 5, cells := 0, slots := 0, locals := 138 } : Room) s m args below meth c H locs 0 0 (MQ below (va_Qv post (zc_B lo g) (zA lo)) args s 0 0 (zA lo)) (F0 m 10 ls []) := by
  obtain ⟨hx, hb, hml, hown, hts⟩ := id S
  intro n
  induction n with
  | zero =>
    intro v0 v1 v2 v3 v4 M h
    exact False.elim h
  | succ n10 ih =>
    intro v0 v1 v2 v3 v4 M h H locs ls hw hl
    rw [pX0_raise_10] at h
    refine lv_iload hx hb dX0_raise_10 (lv_at hl 4 rfl) ?_
    refine lv_if_le (tgt := 43) hx hb dX0_raise_12 (by decide) (fun hc => ?_) (fun hc => ?_)
    · have h := h.1 hc
      exact zr_rv S hr hlocks hw h dX0_raise_43
    · have h := h.2 hc
      refine lv_aload_n hx hb dX0_raise_15 rfl (lv_at hl 0 rfl) ?_
      refine lv_aload_n hx hb dX0_raise_16 rfl (lv_at hl 1 rfl) ?_
      refine lv_aload_n hx hb dX0_raise_17 rfl (lv_at hl 1 rfl) ?_
      obtain ⟨ho, h⟩ := h
      refine zr_Vv (As := [.ref v1, .ref v1]) (rest := []) S hK hw (kX0_grow l lo g M v0 v1 v1 _ h) (cwV 2 hts (zg_V zu_134 zu_135 zu_136 zu_90 zu_137) rfl rfl rfl (by decide +kernel) ⟨Nat.le_of_ble_eq_true rfl, Nat.le_of_ble_eq_true rfl⟩) (ci := 3) rfl ho rfl hl.1 rfl (Nat.le_of_ble_eq_true rfl) dX0_raise_18 ⟨Nat.le_of_ble_eq_true rfl, Nat.le_of_ble_eq_true rfl⟩ (fun M3 H locs hw h => ?_)
      refine lv_iload_n hx hb dX0_raise_21 rfl (lv_at hl 3 rfl) ?_
      refine lv_iload hx hb dX0_raise_22 (lv_at hl 4 rfl) ?_
      refine lv_iand hx hb dX0_raise_24 ?_
      refine lv_if_eq (tgt := 34) hx hb dX0_raise_25 (by decide) (fun hc => ?_) (fun hc => ?_)
      · have h := h.1 hc
        refine lv_iload hx hb dX0_raise_34 (lv_at hl 4 rfl) ?_
        refine lv_iconst (v := (1 : Int32)) hx hb dX0_raise_36 (by decide) ?_
        refine lv_ishr hx hb dX0_raise_37 ?_
        refine lv_topi (fun x4 ex4 => ?_)
        have h := h x4 ex4
        refine lv_istore (lv' := [(4, .int x4), (0, .ref v0), (1, .ref v1), (2, .ref v2), (3, .int v3)]) hx hb dX0_raise_38 hl (by decide) rfl (fun ls hl => ?_)
        refine lv_goto (tgt := 10) hx hb dX0_raise_40 (by decide) ?_
        exact ih v0 v1 v2 v3 x4 _ h _ _ _ hw (lv_sub hl [1, 2, 3, 4, 0] rfl)
      · have h := h.2 hc
        refine lv_aload_n hx hb dX0_raise_28 rfl (lv_at hl 0 rfl) ?_
        refine lv_aload_n hx hb dX0_raise_29 rfl (lv_at hl 1 rfl) ?_
        refine lv_aload_n hx hb dX0_raise_30 rfl (lv_at hl 2 rfl) ?_
        obtain ⟨ho, h⟩ := h
        refine zr_Vv (As := [.ref v1, .ref v2]) (rest := []) S hK hw (kX0_grow l lo g M3 v0 v1 v2 _ h) (cwV 2 hts (zg_V zu_134 zu_135 zu_136 zu_90 zu_137) rfl rfl rfl (by decide +kernel) ⟨Nat.le_of_ble_eq_true rfl, Nat.le_of_ble_eq_true rfl⟩) (ci := 3) rfl ho rfl hl.1 rfl (Nat.le_of_ble_eq_true rfl) dX0_raise_31 ⟨Nat.le_of_ble_eq_true rfl, Nat.le_of_ble_eq_true rfl⟩ (fun M5 H locs hw h => ?_)
        refine lv_iload hx hb dX0_raise_34 (lv_at hl 4 rfl) ?_
        refine lv_iconst (v := (1 : Int32)) hx hb dX0_raise_36 (by decide) ?_
        refine lv_ishr hx hb dX0_raise_37 ?_
        refine lv_topi (fun x6 ex6 => ?_)
        have h := h x6 ex6
        refine lv_istore (lv' := [(4, .int x6), (0, .ref v0), (1, .ref v1), (2, .ref v2), (3, .int v3)]) hx hb dX0_raise_38 hl (by decide) rfl (fun ls hl => ?_)
        refine lv_goto (tgt := 10) hx hb dX0_raise_40 (by decide) ?_
        exact ih v0 v1 v2 v3 x6 _ h _ _ _ hw (lv_sub hl [1, 2, 3, 4, 0] rfl)
set_option maxHeartbeats 4000000 in
set_option maxRecDepth 100000 in
theorem kX0_raise (l : Launch) (lo : Nat) (g : zg) (M : zm_M) (a0 : Nat) (a1 : Nat) (a2 : Nat) (a3 : Int32) (post : zm_M → Prop) (h : pX0_raise g.2 a0 a1 a2 a3 post M) : Met l yX0_raise (Cond.code yX0_raise cX0_raise 5 none :: zU) (({ frames := 5, cells := 0, slots := 0, locals := 138 } : Room)) (zc_P zNF zNM lo g M [.ref a0, .ref a1, .ref a2, .int a3]) (va_Qv post (zc_B lo g) (zA lo)) 0 0 (zA lo) := by
  refine Met.ofW (cc := cX0_raise) (maxL := 5) (ret := none) (by decide) rfl ?_
  intro p e s m args below meth c s₁ B hml hv
  obtain ⟨rfl, hR, hK⟩ := hv
  have hts := atoms_spec (ws := Cond.code yX0_raise cX0_raise 5 none :: zU) B.pre
  have hts : ∀ w ∈ zU, w.before _ s = true := fun w hw => hts w (List.mem_cons_of_mem _ hw)
  have hown : s.vm.findClass RX0 = some m.cls := findClass_of_methodNamed B.named
  have hx := B.exec
  have hb := B.bytes
  have hr := B.returns
  have hlocks := B.notSynchronized
  have S : CallFix p m c cX0_raise 5 s ([.ref a0, .ref a1, .ref a2, .int a3] : List Value).toArray zU RX0 := ⟨hx, hb, hml, hown, hts⟩
  have hw : zW lo g s s.heap [] M := ⟨hR, va_S.rf⟩
  have hl := lv_entry ([.ref a0, .ref a1, .ref a2, .int a3]) (n := 5) (Nat.le_of_ble_eq_true rfl)
  rw [lg_entry_eq]
  generalize (lg_sl ([.ref a0, .ref a1, .ref a2, .int a3]) ++ List.replicate (5 - (lg_sl ([.ref a0, .ref a1, .ref a2, .int a3])).length) Slot.unset).toArray = ls at hl ⊢
  have hl : lv_has ls 5 [(0, .ref a0), (1, .ref a1), (2, .ref a2), (3, .int a3)] := hl
  unfold pX0_raise at h
  refine lv_aload_n hx hb dX0_raise_0 rfl (lv_at hl 1 rfl) ?_
  refine lv_lconst (v := (1 : Int64)) hx hb dX0_raise_1 (by decide) ?_
  obtain ⟨ho, h⟩ := h
  refine zr_Vv (As := [.long (1 : Int64)]) (rest := []) S hK hw (kX5_become l lo g M a1 (1 : Int64) _ h) (cwV 1 hts (zg_V zu_133 zu_21 zu_22 zu_12 zu_23) rfl rfl rfl (by decide +kernel) ⟨Nat.le_of_ble_eq_true rfl, Nat.le_of_ble_eq_true rfl⟩) (ci := 8) rfl ho rfl hl.1 rfl (Nat.le_of_ble_eq_true rfl) dX0_raise_2 ⟨Nat.le_of_ble_eq_true rfl, Nat.le_of_ble_eq_true rfl⟩ (fun M1 H locs hw h => ?_)
  refine lv_sipush (v := (512 : Int32)) hx hb dX0_raise_5 (by decide) ?_
  refine lv_topi (fun x2 ex2 => ?_)
  have h := h x2 ex2
  refine lv_istore (lv' := [(4, .int x2), (0, .ref a0), (1, .ref a1), (2, .ref a2), (3, .int a3)]) hx hb dX0_raise_8 hl (by decide) rfl (fun ls hl => ?_)
  obtain ⟨n10, h⟩ := h
  refine sX0_raise_10 S hr hlocks hK  n10 a0 a1 a2 a3 x2 _ h _ _ _ hw (lv_sub hl [1, 2, 3, 4, 0] rfl)
set_option maxHeartbeats 4000000 in
set_option maxRecDepth 100000 in
theorem sX0_powerOf_77 {p : Program} {l : Launch} {e : Env} {s : State} {m : MethodId} {args : Array Value} {below : List Frame} {meth : Method} {c : Code} {lo : Nat} {g : zg} {post : zm_M → Prop}  (S : CallFix p m c cX0_powerOf 4 s args zU RX0) (hr : meth.sig.returnType = none) (hlocks : meth.locks = false) (hK : zk_K zNF zNM g s)  : ∀ (v3 : Int32) (s0 : Nat) (s1 : Nat) (s2 : Nat) (M : zm_M), pX0_powerOf_77 g.2 post  v3 s0 s1 s2 M → ∀ (H : Heap) (locs : List Loc) (ls : Array Slot), zW lo g s H locs M → lv_has ls 4 [(3, .int v3)] → W p l e ({ frames := 6, cells := 0, slots := 0, locals := 162 } : Room) s m args below meth c H locs 0 0 (MQ below (va_Qv post (zc_B lo g) (zA lo)) args s 0 0 (zA lo)) (F0 m 77 ls [.ref s2, .ref s1, .ref s0]) := by
  obtain ⟨hx, hb, hml, hown, hts⟩ := id S
  intro v3 s0 s1 s2 M h H locs ls hw hl
  unfold pX0_powerOf_77 at h
  refine lv_iload_n hx hb dX0_powerOf_77 rfl (lv_at hl 0 rfl) ?_
  obtain ⟨ho, h⟩ := h
  refine zr_Vv (As := [.ref s1, .ref s2, .int v3]) (rest := []) S hK hw (kX0_raise l lo g M s0 s1 s2 v3 _ h) (cwV 3 hts (zg_V zu_141 zu_142 zu_143 zu_90 zu_144) rfl rfl rfl (by decide +kernel) ⟨Nat.le_of_ble_eq_true rfl, Nat.le_of_ble_eq_true rfl⟩) (ci := 3) rfl ho rfl hl.1 rfl (Nat.le_of_ble_eq_true rfl) dX0_powerOf_78 ⟨Nat.le_of_ble_eq_true rfl, Nat.le_of_ble_eq_true rfl⟩ (fun M11 H locs hw h => ?_)
  exact zr_rv S hr hlocks hw h dX0_powerOf_81
set_option maxHeartbeats 4000000 in
set_option maxRecDepth 100000 in
theorem sX0_powerOf_50 {p : Program} {l : Launch} {e : Env} {s : State} {m : MethodId} {args : Array Value} {below : List Frame} {meth : Method} {c : Code} {lo : Nat} {g : zg} {post : zm_M → Prop}  (S : CallFix p m c cX0_powerOf 4 s args zU RX0) (hr : meth.sig.returnType = none) (hlocks : meth.locks = false) (hK : zk_K zNF zNM g s)  : ∀ (v0 : Nat) (v1 : Nat) (v2 : Int32) (v3 : Int32) (s0 : Nat) (s1 : Nat) (s2 : Nat) (M : zm_M), pX0_powerOf_50 g.2 post  v0 v1 v2 v3 s0 s1 s2 M → ∀ (H : Heap) (locs : List Loc) (ls : Array Slot), zW lo g s H locs M → lv_has ls 4 [(0, .ref v0), (1, .ref v1), (2, .int v2), (3, .int v3)] → W p l e ({ frames := 6, cells := 0, slots := 0, locals := 162 } : Room) s m args below meth c H locs 0 0 (MQ below (va_Qv post (zc_B lo g) (zA lo)) args s 0 0 (zA lo)) (F0 m 50 ls [.ref s2, .ref s1, .ref s0]) := by
  obtain ⟨hx, hb, hml, hown, hts⟩ := id S
  intro v0 v1 v2 v3 s0 s1 s2 M h H locs ls hw hl
  unfold pX0_powerOf_50 at h
  refine lv_iload_n hx hb dX0_powerOf_50 rfl (lv_at hl 3 rfl) ?_
  obtain ⟨ho, h⟩ := h
  refine zr_Vv (As := [.ref s1, .ref s2, .int v3]) (rest := []) S hK hw (kX0_raise l lo g M s0 s1 s2 v3 _ h) (cwV 3 hts (zg_V zu_141 zu_142 zu_143 zu_90 zu_144) rfl rfl rfl (by decide +kernel) ⟨Nat.le_of_ble_eq_true rfl, Nat.le_of_ble_eq_true rfl⟩) (ci := 3) rfl ho rfl hl.1 rfl (Nat.le_of_ble_eq_true rfl) dX0_powerOf_51 ⟨Nat.le_of_ble_eq_true rfl, Nat.le_of_ble_eq_true rfl⟩ (fun M7 H locs hw h => ?_)
  refine lv_aload_n hx hb dX0_powerOf_54 rfl (lv_at hl 0 rfl) ?_
  refine lv_aload_n hx hb dX0_powerOf_55 rfl (lv_at hl 0 rfl) ?_
  refine zr_ga (C := RX0) (T := TX0) (N := 5) (ci := 3) (k := 0) S hK hw zi_X0 rfl (by decide) zu_82 dX0_powerOf_56 h (fun result_8 h => ?_)
  refine zr_gaN (C := RX2) (T := TX2) (N := 3) (ci := 5) (k := 2) (host := "LeastTerms") S hK hw zi_X2 rfl (by decide) (by decide +kernel) dX0_powerOf_59 h (fun bottom_9 h => ?_)
  refine lv_iload_n hx hb dX0_powerOf_62 rfl (lv_at hl 2 rfl) ?_
  refine lv_if_ge (tgt := 73) hx hb dX0_powerOf_63 (by decide) (fun hc => ?_) (fun hc => ?_)
  · have h := h.1 hc
    refine lv_aload_n hx hb dX0_powerOf_73 rfl (lv_at hl 1 rfl) ?_
    refine zr_gaN (C := RX2) (T := TX2) (N := 3) (ci := 5) (k := 2) (host := "LeastTerms") S hK hw zi_X2 rfl (by decide) (by decide +kernel) dX0_powerOf_74 h (fun bottom_10 h => ?_)
    exact sX0_powerOf_77 S hr hlocks hK  v3 v0 bottom_9 bottom_10 _ h _ _ _ hw (lv_sub hl [3] rfl)
  · have h := h.2 hc
    refine lv_aload_n hx hb dX0_powerOf_66 rfl (lv_at hl 1 rfl) ?_
    refine zr_gaN (C := RX2) (T := TX2) (N := 3) (ci := 5) (k := 1) (host := "LeastTerms") S hK hw zi_X2 rfl (by decide) (by decide +kernel) dX0_powerOf_67 h (fun top_12 h => ?_)
    refine lv_goto (tgt := 77) hx hb dX0_powerOf_70 (by decide) ?_
    exact sX0_powerOf_77 S hr hlocks hK  v3 v0 bottom_9 top_12 _ h _ _ _ hw (lv_sub hl [3] rfl)
set_option maxHeartbeats 4000000 in
set_option maxRecDepth 100000 in
theorem sX0_powerOf_24 {p : Program} {l : Launch} {e : Env} {s : State} {m : MethodId} {args : Array Value} {below : List Frame} {meth : Method} {c : Code} {lo : Nat} {g : zg} {post : zm_M → Prop}  (S : CallFix p m c cX0_powerOf 4 s args zU RX0) (hr : meth.sig.returnType = none) (hlocks : meth.locks = false) (hK : zk_K zNF zNM g s)  : ∀ (v0 : Nat) (v1 : Nat) (v2 : Int32) (v3 : Int32) (s0 : Nat) (s1 : Int32) (M : zm_M), pX0_powerOf_24 g.2 post  v0 v1 v2 v3 s0 s1 M → ∀ (H : Heap) (locs : List Loc) (ls : Array Slot), zW lo g s H locs M → lv_has ls 4 [(0, .ref v0), (1, .ref v1), (2, .int v2), (3, .int v3)] → W p l e ({ frames := 6, cells := 0, slots := 0, locals := 162 } : Room) s m args below meth c H locs 0 0 (MQ below (va_Qv post (zc_B lo g) (zA lo)) args s 0 0 (zA lo)) (F0 m 24 ls [.int s1, .ref s0]) := by
  obtain ⟨hx, hb, hml, hown, hts⟩ := id S
  intro v0 v1 v2 v3 s0 s1 M h H locs ls hw hl
  unfold pX0_powerOf_24 at h
  refine zr_pN (C := RX2) (T := TX2) (N := 3) (ci := 5) (k := 0) (host := "LeastTerms") S hK hw zi_X2 tyX2 tyX2_ok nmX2 rfl (by decide) (by decide +kernel) rfl rfl rfl dX0_powerOf_24 h (fun M3 H locs hw h => ?_)
  refine lv_aload_n hx hb dX0_powerOf_27 rfl (lv_at hl 0 rfl) ?_
  refine lv_aload_n hx hb dX0_powerOf_28 rfl (lv_at hl 0 rfl) ?_
  refine zr_ga (C := RX0) (T := TX0) (N := 5) (ci := 3) (k := 0) S hK hw zi_X0 rfl (by decide) zu_82 dX0_powerOf_29 h (fun result_4 h => ?_)
  refine zr_gaN (C := RX2) (T := TX2) (N := 3) (ci := 5) (k := 1) (host := "LeastTerms") S hK hw zi_X2 rfl (by decide) (by decide +kernel) dX0_powerOf_32 h (fun top_5 h => ?_)
  refine lv_iload_n hx hb dX0_powerOf_35 rfl (lv_at hl 2 rfl) ?_
  refine lv_if_ge (tgt := 46) hx hb dX0_powerOf_36 (by decide) (fun hc => ?_) (fun hc => ?_)
  · have h := h.1 hc
    refine lv_aload_n hx hb dX0_powerOf_46 rfl (lv_at hl 1 rfl) ?_
    refine zr_gaN (C := RX2) (T := TX2) (N := 3) (ci := 5) (k := 1) (host := "LeastTerms") S hK hw zi_X2 rfl (by decide) (by decide +kernel) dX0_powerOf_47 h (fun top_6 h => ?_)
    exact sX0_powerOf_50 S hr hlocks hK  v0 v1 v2 v3 v0 top_5 top_6 _ h _ _ _ hw (lv_sub hl [0, 1, 2, 3] rfl)
  · have h := h.2 hc
    refine lv_aload_n hx hb dX0_powerOf_39 rfl (lv_at hl 1 rfl) ?_
    refine zr_gaN (C := RX2) (T := TX2) (N := 3) (ci := 5) (k := 2) (host := "LeastTerms") S hK hw zi_X2 rfl (by decide) (by decide +kernel) dX0_powerOf_40 h (fun bottom_13 h => ?_)
    refine lv_goto (tgt := 50) hx hb dX0_powerOf_43 (by decide) ?_
    exact sX0_powerOf_50 S hr hlocks hK  v0 v1 v2 v3 v0 top_5 bottom_13 _ h _ _ _ hw (lv_sub hl [0, 1, 2, 3] rfl)
set_option maxHeartbeats 4000000 in
set_option maxRecDepth 100000 in
theorem kX0_powerOf (l : Launch) (lo : Nat) (g : zg) (M : zm_M) (a0 : Nat) (a1 : Nat) (a2 : Int32) (post : zm_M → Prop) (h : pX0_powerOf g.2 a0 a1 a2 post M) : Met l yX0_powerOf (Cond.code yX0_powerOf cX0_powerOf 4 none :: zU) (({ frames := 6, cells := 0, slots := 0, locals := 162 } : Room)) (zc_P zNF zNM lo g M [.ref a0, .ref a1, .int a2]) (va_Qv post (zc_B lo g) (zA lo)) 0 0 (zA lo) := by
  refine Met.ofW (cc := cX0_powerOf) (maxL := 4) (ret := none) (by decide) rfl ?_
  intro p e s m args below meth c s₁ B hml hv
  obtain ⟨rfl, hR, hK⟩ := hv
  have hts := atoms_spec (ws := Cond.code yX0_powerOf cX0_powerOf 4 none :: zU) B.pre
  have hts : ∀ w ∈ zU, w.before _ s = true := fun w hw => hts w (List.mem_cons_of_mem _ hw)
  have hown : s.vm.findClass RX0 = some m.cls := findClass_of_methodNamed B.named
  have hx := B.exec
  have hb := B.bytes
  have hr := B.returns
  have hlocks := B.notSynchronized
  have S : CallFix p m c cX0_powerOf 4 s ([.ref a0, .ref a1, .int a2] : List Value).toArray zU RX0 := ⟨hx, hb, hml, hown, hts⟩
  have hw : zW lo g s s.heap [] M := ⟨hR, va_S.rf⟩
  have hl := lv_entry ([.ref a0, .ref a1, .int a2]) (n := 4) (Nat.le_of_ble_eq_true rfl)
  rw [lg_entry_eq]
  generalize (lg_sl ([.ref a0, .ref a1, .int a2]) ++ List.replicate (4 - (lg_sl ([.ref a0, .ref a1, .int a2])).length) Slot.unset).toArray = ls at hl ⊢
  have hl : lv_has ls 4 [(0, .ref a0), (1, .ref a1), (2, .int a2)] := hl
  unfold pX0_powerOf at h
  refine lv_iload_n hx hb dX0_powerOf_0 rfl (lv_at hl 2 rfl) ?_
  refine zr_abs S hl.1 zu_138 zu_139 zu_4 zu_140 (Nat.le_of_ble_eq_true rfl) (Nat.le_of_ble_eq_true rfl) (Nat.zero_le _) (Nat.zero_le _) dX0_powerOf_1 ?_
  refine lv_topi (fun x1 ex1 => ?_)
  have h := h x1 ex1
  refine lv_istore_n (lv' := [(3, .int x1), (0, .ref a0), (1, .ref a1), (2, .int a2)]) hx hb dX0_powerOf_4 rfl hl (by decide) rfl (fun ls hl => ?_)
  refine lv_aload_n hx hb dX0_powerOf_5 rfl (lv_at hl 1 rfl) ?_
  refine zr_ga (C := RX0) (T := TX0) (N := 5) (ci := 3) (k := 0) S hK hw zi_X0 rfl (by decide) zu_82 dX0_powerOf_6 h (fun result_2 h => ?_)
  refine lv_iload_n hx hb dX0_powerOf_9 rfl (lv_at hl 0 rfl) ?_
  refine lv_iconst (v := (1 : Int32)) hx hb dX0_powerOf_10 (by decide) ?_
  refine lv_iand hx hb dX0_powerOf_11 ?_
  refine lv_iconst (v := (1 : Int32)) hx hb dX0_powerOf_12 (by decide) ?_
  refine lv_icmp_ne (tgt := 23) hx hb dX0_powerOf_13 (by decide) (fun hc => ?_) (fun hc => ?_)
  · have h := h.1 hc
    refine lv_iconst (v := (1 : Int32)) hx hb dX0_powerOf_23 (by decide) ?_
    exact sX0_powerOf_24 S hr hlocks hK  a0 a1 a2 x1 result_2 (1 : Int32) _ h _ _ _ hw (lv_sub hl [1, 2, 3, 0] rfl)
  · have h := h.2 hc
    refine lv_aload_n hx hb dX0_powerOf_16 rfl (lv_at hl 2 rfl) ?_
    refine zr_giN (C := RX2) (T := TX2) (N := 3) (ci := 5) (k := 0) (host := "LeastTerms") S hK hw zi_X2 rfl (by decide) (by decide +kernel) dX0_powerOf_17 h (fun sign_14 h => ?_)
    refine lv_goto (tgt := 24) hx hb dX0_powerOf_20 (by decide) ?_
    exact sX0_powerOf_24 S hr hlocks hK  a0 a1 a2 x1 result_2 sign_14 _ h _ _ _ hw (lv_sub hl [1, 2, 3, 0] rfl)
set_option maxHeartbeats 4000000 in
set_option maxRecDepth 100000 in
theorem kX5_isOdd (l : Launch) (lo : Nat) (g : zg) (M : zm_M) (a0 : Nat) (post : Int32 → zm_M → Prop) (h : pX5_isOdd g.2 a0 post M) : Met l yX5_isOdd (Cond.code yX5_isOdd cX5_isOdd 1 (some .boolean) :: zU) (({ frames := 2, cells := 0, slots := 0, locals := 61 } : Room)) (zc_P zNF zNM lo g M [.ref a0]) (va_Qi post (zc_B lo g) (zA lo)) 0 0 (zA lo) := by
  refine Met.ofW (cc := cX5_isOdd) (maxL := 1) (ret := (some .boolean)) (by decide) rfl ?_
  intro p e s m args below meth c s₁ B hml hv
  obtain ⟨rfl, hR, hK⟩ := hv
  have hts := atoms_spec (ws := Cond.code yX5_isOdd cX5_isOdd 1 (some .boolean) :: zU) B.pre
  have hts : ∀ w ∈ zU, w.before _ s = true := fun w hw => hts w (List.mem_cons_of_mem _ hw)
  have hown : s.vm.findClass RX5 = some m.cls := findClass_of_methodNamed B.named
  have hx := B.exec
  have hb := B.bytes
  have hr := B.returns
  have hlocks := B.notSynchronized
  have S : CallFix p m c cX5_isOdd 1 s ([.ref a0] : List Value).toArray zU RX5 := ⟨hx, hb, hml, hown, hts⟩
  have hw : zW lo g s s.heap [] M := ⟨hR, va_S.rf⟩
  have hl := lv_entry ([.ref a0]) (n := 1) (Nat.le_of_ble_eq_true rfl)
  rw [lg_entry_eq]
  generalize (lg_sl ([.ref a0]) ++ List.replicate (1 - (lg_sl ([.ref a0])).length) Slot.unset).toArray = ls at hl ⊢
  have hl : lv_has ls 1 [(0, .ref a0)] := hl
  unfold pX5_isOdd at h
  refine lv_aload_n hx hb dX5_isOdd_0 rfl (lv_at hl 0 rfl) ?_
  refine lv_iconst (v := (0 : Int32)) hx hb dX5_isOdd_1 (by decide) ?_
  obtain ⟨ho, h⟩ := h
  refine zr_Vl (As := [.int (0 : Int32)]) (rest := []) S hK hw (kX5_limbAt l lo g M a0 (0 : Int32) _ h) (cwV 1 hts (zg_V zu_26 zu_27 zu_28 zu_12 zu_29) rfl rfl rfl (by decide +kernel) ⟨Nat.le_of_ble_eq_true rfl, Nat.le_of_ble_eq_true rfl⟩) (ci := 8) rfl ho rfl hl.1 rfl (Nat.le_of_ble_eq_true rfl) dX5_isOdd_2 ⟨Nat.le_of_ble_eq_true rfl, Nat.le_of_ble_eq_true rfl⟩ (fun r2 M1 H locs hw h => ?_)
  refine lv_lconst (v := (1 : Int64)) hx hb dX5_isOdd_5 (by decide) ?_
  refine lv_land hx hb dX5_isOdd_6 ?_
  refine lv_lconst (v := (1 : Int64)) hx hb dX5_isOdd_7 (by decide) ?_
  refine W.lcmp hx hb dX5_isOdd_8 ?_
  refine lv_if_ne (tgt := 16) hx hb dX5_isOdd_9 (by decide) (fun hc => ?_) (fun hc => ?_)
  · have h := h.1 (fun q => hc (zc_eq.mpr q))
    refine lv_iconst (v := (0 : Int32)) hx hb dX5_isOdd_16 (by decide) ?_
    exact zr_rz S hr hlocks hw h dX5_isOdd_17
  · have h := h.2 (zc_eq.mp hc)
    refine lv_iconst (v := (1 : Int32)) hx hb dX5_isOdd_12 (by decide) ?_
    refine lv_goto (tgt := 17) hx hb dX5_isOdd_13 (by decide) ?_
    exact zr_rz S hr hlocks hw h dX5_isOdd_17
set_option maxHeartbeats 4000000 in
set_option maxRecDepth 100000 in
theorem sX5_shiftLeft_38 {p : Program} {l : Launch} {e : Env} {s : State} {m : MethodId} {args : Array Value} {below : List Frame} {meth : Method} {c : Code} {lo : Nat} {g : zg} {post : zm_M → Prop} {k82 : Nat → Int32 → zm_M → Prop} (S : CallFix p m c cX5_shiftLeft 6 s args zU RX5) (hr : meth.sig.returnType = none) (hlocks : meth.locks = false) (hK : zk_K zNF zNM g s) (hk82 : ∀ (v0 : Nat) (v4 : Int32) (M : zm_M), k82 v0 v4 M → ∀ (H : Heap) (locs : List Loc) (ls : Array Slot), zW lo g s H locs M → lv_has ls 6 [(0, .ref v0), (4, .int v4)] → W p l e ({ frames := 2, cells := 0, slots := 0, locals := 63 } : Room) s m args below meth c H locs 0 0 (MQ below (va_Qv post (zc_B lo g) (zA lo)) args s 0 0 (zA lo)) (F0 m 82 ls [])) : ∀ (n : Nat) (v0 : Nat) (v2 : Int32) (v3 : Int32) (v4 : Int32) (v5 : Int32) (M : zm_M), pX5_shiftLeft_38 g.2 post k82 n v0 v2 v3 v4 v5 M → ∀ (H : Heap) (locs : List Loc) (ls : Array Slot), zW lo g s H locs M → lv_has ls 6 [(0, .ref v0), (2, .int v2), (3, .int v3), (4, .int v4), (5, .int v5)] → W p l e ({ frames := 2, cells := 0, slots := 0, locals := 63 } : Room) s m args below meth c H locs 0 0 (MQ below (va_Qv post (zc_B lo g) (zA lo)) args s 0 0 (zA lo)) (F0 m 38 ls []) := by
  obtain ⟨hx, hb, hml, hown, hts⟩ := id S
  intro n
  induction n with
  | zero =>
    intro v0 v2 v3 v4 v5 M h
    exact False.elim h
  | succ n38 ih =>
    intro v0 v2 v3 v4 v5 M h H locs ls hw hl
    rw [pX5_shiftLeft_38] at h
    refine lv_iload hx hb dX5_shiftLeft_38 (lv_at hl 4 rfl) ?_
    refine lv_if_lt (tgt := 82) hx hb dX5_shiftLeft_40 (by decide) (fun hc => ?_) (fun hc => ?_)
    · have h := h.1 hc
      exact hk82 v0 v4 _ h _ _ _ hw (lv_sub hl [0, 3] rfl)
    · have h := h.2 hc
      refine lv_aload_n hx hb dX5_shiftLeft_43 rfl (lv_at hl 0 rfl) ?_
      refine lv_iload hx hb dX5_shiftLeft_44 (lv_at hl 4 rfl) ?_
      refine lv_aload_n hx hb dX5_shiftLeft_46 rfl (lv_at hl 0 rfl) ?_
      refine lv_iload hx hb dX5_shiftLeft_47 (lv_at hl 4 rfl) ?_
      refine lv_iload_n hx hb dX5_shiftLeft_49 rfl (lv_at hl 1 rfl) ?_
      refine lv_isub hx hb dX5_shiftLeft_50 ?_
      obtain ⟨ho, h⟩ := h
      refine zr_Vl (As := [.int (v5 - v2)]) (rest := [.int v5, .ref v0]) S hK hw (kX5_limbAt l lo g M v0 (v5 - v2) _ h) (cwV 1 hts (zg_V zu_26 zu_27 zu_28 zu_12 zu_29) rfl rfl rfl (by decide +kernel) ⟨Nat.le_of_ble_eq_true rfl, Nat.le_of_ble_eq_true rfl⟩) (ci := 8) rfl ho rfl hl.1 rfl (Nat.le_of_ble_eq_true rfl) dX5_shiftLeft_51 ⟨Nat.le_of_ble_eq_true rfl, Nat.le_of_ble_eq_true rfl⟩ (fun r9 M8 H locs hw h => ?_)
      refine lv_bipush (v := (32 : Int32)) hx hb dX5_shiftLeft_54 (by decide) ?_
      refine lv_lshl hx hb dX5_shiftLeft_56 rfl ?_
      refine lv_aload_n hx hb dX5_shiftLeft_57 rfl (lv_at hl 0 rfl) ?_
      refine lv_iload hx hb dX5_shiftLeft_58 (lv_at hl 4 rfl) ?_
      refine lv_iload_n hx hb dX5_shiftLeft_60 rfl (lv_at hl 1 rfl) ?_
      refine lv_isub hx hb dX5_shiftLeft_61 ?_
      refine lv_iconst (v := (1 : Int32)) hx hb dX5_shiftLeft_62 (by decide) ?_
      refine lv_isub hx hb dX5_shiftLeft_63 ?_
      obtain ⟨ho, h⟩ := h
      refine zr_Vl (As := [.int ((v5 - v2) - (1 : Int32))]) (rest := [.long (r9 <<< ((32 : Int32).toInt64 &&& 63)), .int v5, .ref v0]) S hK hw (kX5_limbAt l lo g M8 v0 ((v5 - v2) - (1 : Int32)) _ h) (cwV 1 hts (zg_V zu_26 zu_27 zu_28 zu_12 zu_29) rfl rfl rfl (by decide +kernel) ⟨Nat.le_of_ble_eq_true rfl, Nat.le_of_ble_eq_true rfl⟩) (ci := 8) rfl ho rfl hl.1 rfl (Nat.le_of_ble_eq_true rfl) dX5_shiftLeft_64 ⟨Nat.le_of_ble_eq_true rfl, Nat.le_of_ble_eq_true rfl⟩ (fun r11 M10 H locs hw h => ?_)
      refine lv_lor hx hb dX5_shiftLeft_67 ?_
      refine lv_iload_n hx hb dX5_shiftLeft_68 rfl (lv_at hl 2 rfl) ?_
      refine lv_lshl hx hb dX5_shiftLeft_69 rfl ?_
      refine lv_bipush (v := (32 : Int32)) hx hb dX5_shiftLeft_70 (by decide) ?_
      refine lv_lushr hx hb dX5_shiftLeft_72 rfl ?_
      obtain ⟨ho, h⟩ := h
      refine zr_Vv (As := [.int v5, .long (((((r9 <<< ((32 : Int32).toInt64 &&& 63)) ||| r11) <<< (v3.toInt64 &&& 63)).toUInt64 >>> ((32 : Int32).toInt64.toUInt64 &&& Int64.toUInt64 63)).toInt64)]) (rest := []) S hK hw (kX5_put l lo g M10 v0 v5 (((((r9 <<< ((32 : Int32).toInt64 &&& 63)) ||| r11) <<< (v3.toInt64 &&& 63)).toUInt64 >>> ((32 : Int32).toInt64.toUInt64 &&& Int64.toUInt64 63)).toInt64) _ h) (cwV 2 hts (zg_V zu_9 zu_10 zu_11 zu_12 zu_13) rfl rfl rfl (by decide +kernel) ⟨Nat.le_of_ble_eq_true rfl, Nat.le_of_ble_eq_true rfl⟩) (ci := 8) rfl ho rfl hl.1 rfl (Nat.le_of_ble_eq_true rfl) dX5_shiftLeft_73 ⟨Nat.le_of_ble_eq_true rfl, Nat.le_of_ble_eq_true rfl⟩ (fun M12 H locs hw h => ?_)
      obtain ⟨x13, ex13⟩ : ∃ z : Int32, z = v5 + (-1 : Int32) := ⟨_, rfl⟩
      have h := h x13 ex13
      refine lv_iinc (v := x13) (lv' := [(5, .int x13), (0, .ref v0), (2, .int v2), (3, .int v3), (4, .int v4)]) hx hb dX5_shiftLeft_76 hl (k := 4) rfl (by rw [ex13]; rfl) (by decide) rfl (fun ls hl => ?_)
      refine lv_goto (tgt := 38) hx hb dX5_shiftLeft_79 (by decide) ?_
      exact ih v0 v2 v3 v4 x13 _ h _ _ _ hw (lv_sub hl [1, 2, 3, 4, 0] rfl)
set_option maxHeartbeats 4000000 in
set_option maxRecDepth 100000 in
theorem kX5_shiftLeft (l : Launch) (lo : Nat) (g : zg) (M : zm_M) (a0 : Nat) (a1 : Int32) (post : zm_M → Prop) (h : pX5_shiftLeft g.2 a0 a1 post M) : Met l yX5_shiftLeft (Cond.code yX5_shiftLeft cX5_shiftLeft 6 none :: zU) (({ frames := 2, cells := 0, slots := 0, locals := 63 } : Room)) (zc_P zNF zNM lo g M [.ref a0, .int a1]) (va_Qv post (zc_B lo g) (zA lo)) 0 0 (zA lo) := by
  refine Met.ofW (cc := cX5_shiftLeft) (maxL := 6) (ret := none) (by decide) rfl ?_
  intro p e s m args below meth c s₁ B hml hv
  obtain ⟨rfl, hR, hK⟩ := hv
  have hts := atoms_spec (ws := Cond.code yX5_shiftLeft cX5_shiftLeft 6 none :: zU) B.pre
  have hts : ∀ w ∈ zU, w.before _ s = true := fun w hw => hts w (List.mem_cons_of_mem _ hw)
  have hown : s.vm.findClass RX5 = some m.cls := findClass_of_methodNamed B.named
  have hx := B.exec
  have hb := B.bytes
  have hr := B.returns
  have hlocks := B.notSynchronized
  have S : CallFix p m c cX5_shiftLeft 6 s ([.ref a0, .int a1] : List Value).toArray zU RX5 := ⟨hx, hb, hml, hown, hts⟩
  have hw : zW lo g s s.heap [] M := ⟨hR, va_S.rf⟩
  have hl := lv_entry ([.ref a0, .int a1]) (n := 6) (Nat.le_of_ble_eq_true rfl)
  rw [lg_entry_eq]
  generalize (lg_sl ([.ref a0, .int a1]) ++ List.replicate (6 - (lg_sl ([.ref a0, .int a1])).length) Slot.unset).toArray = ls at hl ⊢
  have hl : lv_has ls 6 [(0, .ref a0), (1, .int a1)] := hl
  unfold pX5_shiftLeft at h
  refine lv_iload_n hx hb dX5_shiftLeft_0 rfl (lv_at hl 1 rfl) ?_
  refine lv_if_gt (tgt := 5) hx hb dX5_shiftLeft_1 (by decide) (fun hc => ?_) (fun hc => ?_)
  · have h := h.1 hc
    refine lv_iload_n hx hb dX5_shiftLeft_5 rfl (lv_at hl 1 rfl) ?_
    refine lv_iconst (v := (5 : Int32)) hx hb dX5_shiftLeft_6 (by decide) ?_
    refine lv_ishr hx hb dX5_shiftLeft_7 ?_
    refine lv_topi (fun x1 ex1 => ?_)
    have h := h x1 ex1
    refine lv_istore_n (lv' := [(2, .int x1), (0, .ref a0), (1, .int a1)]) hx hb dX5_shiftLeft_8 rfl hl (by decide) rfl (fun ls hl => ?_)
    refine lv_iload_n hx hb dX5_shiftLeft_9 rfl (lv_at hl 2 rfl) ?_
    refine lv_bipush (v := (31 : Int32)) hx hb dX5_shiftLeft_10 (by decide) ?_
    refine lv_iand hx hb dX5_shiftLeft_12 ?_
    refine lv_topi (fun x2 ex2 => ?_)
    have h := h x2 ex2
    refine lv_istore_n (lv' := [(3, .int x2), (2, .int x1), (0, .ref a0), (1, .int a1)]) hx hb dX5_shiftLeft_13 rfl hl (by decide) rfl (fun ls hl => ?_)
    refine lv_aload_n hx hb dX5_shiftLeft_14 rfl (lv_at hl 2 rfl) ?_
    refine zr_gi (C := RX5) (T := TX5) (N := 2) (ci := 8) (k := 1) S hK hw zi_X5 rfl (by decide) zu_0 dX5_shiftLeft_15 h (fun used_3 h => ?_)
    refine lv_iload_n hx hb dX5_shiftLeft_18 rfl (lv_at hl 1 rfl) ?_
    refine lv_iadd hx hb dX5_shiftLeft_19 ?_
    refine lv_iconst (v := (1 : Int32)) hx hb dX5_shiftLeft_20 (by decide) ?_
    refine lv_iadd hx hb dX5_shiftLeft_21 ?_
    refine lv_aload_n hx hb dX5_shiftLeft_22 rfl (lv_at hl 2 rfl) ?_
    refine zr_ga (C := RX5) (T := TX5) (N := 2) (ci := 8) (k := 0) S hK hw zi_X5 rfl (by decide) zu_1 dX5_shiftLeft_23 h (fun row_4 h => ?_)
    refine zr_len (t0 := 0) (ty := .int) S hK hw rfl dX5_shiftLeft_26 h (fun len5 h => ?_)
    refine zr_min S hl.1 zu_2 zu_3 zu_4 zu_5 (Nat.le_of_ble_eq_true rfl) (Nat.le_of_ble_eq_true rfl) (Nat.zero_le _) (Nat.zero_le _) dX5_shiftLeft_27 ?_
    refine lv_topi (fun x6 ex6 => ?_)
    have h := h x6 ex6
    refine lv_istore (lv' := [(4, .int x6), (3, .int x2), (2, .int x1), (0, .ref a0), (1, .int a1)]) hx hb dX5_shiftLeft_30 hl (by decide) rfl (fun ls hl => ?_)
    refine lv_iload hx hb dX5_shiftLeft_32 (lv_at hl 0 rfl) ?_
    refine lv_iconst (v := (1 : Int32)) hx hb dX5_shiftLeft_34 (by decide) ?_
    refine lv_isub hx hb dX5_shiftLeft_35 ?_
    refine lv_topi (fun x7 ex7 => ?_)
    have h := h x7 ex7
    refine lv_istore (lv' := [(5, .int x7), (4, .int x6), (3, .int x2), (2, .int x1), (0, .ref a0), (1, .int a1)]) hx hb dX5_shiftLeft_36 hl (by decide) rfl (fun ls hl => ?_)
    obtain ⟨n38, h⟩ := h
    refine sX5_shiftLeft_38 S hr hlocks hK (fun w14 w15 M16 h H locs ls hw hl => ?_) n38 a0 x1 x2 x6 x7 _ h _ _ _ hw (lv_sub hl [4, 3, 2, 1, 0] rfl)
    refine lv_aload_n hx hb dX5_shiftLeft_82 rfl (lv_at hl 0 rfl) ?_
    refine lv_iload hx hb dX5_shiftLeft_83 (lv_at hl 1 rfl) ?_
    obtain ⟨ho, h⟩ := h
    refine zr_Vv (As := [.int w15]) (rest := []) S hK hw (kX5_trim l lo g M16 w14 w15 _ h) (cwV 1 hts (zg_V zu_14 zu_15 zu_16 zu_12 zu_17) rfl rfl rfl (by decide +kernel) ⟨Nat.le_of_ble_eq_true rfl, Nat.le_of_ble_eq_true rfl⟩) (ci := 8) rfl ho rfl hl.1 rfl (Nat.le_of_ble_eq_true rfl) dX5_shiftLeft_85 ⟨Nat.le_of_ble_eq_true rfl, Nat.le_of_ble_eq_true rfl⟩ (fun M17 H locs hw h => ?_)
    exact zr_rv S hr hlocks hw h dX5_shiftLeft_88
  · have h := h.2 hc
    exact zr_rv S hr hlocks hw h dX5_shiftLeft_4
set_option maxHeartbeats 4000000 in
set_option maxRecDepth 100000 in
theorem kX0_isRoundedUp (l : Launch) (lo : Nat) (g : zg) (M : zm_M) (a0 : Nat) (a1 : Nat) (a2 : Int32) (post : Int32 → zm_M → Prop) (h : pX0_isRoundedUp g.2 a0 a1 a2 post M) : Met l yX0_isRoundedUp (Cond.code yX0_isRoundedUp cX0_isRoundedUp 4 (some .boolean) :: zU) (({ frames := 3, cells := 0, slots := 0, locals := 88 } : Room)) (zc_P zNF zNM lo g M [.ref a0, .ref a1, .int a2]) (va_Qi post (zc_B lo g) (zA lo)) 0 0 (zA lo) := by
  refine Met.ofW (cc := cX0_isRoundedUp) (maxL := 4) (ret := (some .boolean)) (by decide) rfl ?_
  intro p e s m args below meth c s₁ B hml hv
  obtain ⟨rfl, hR, hK⟩ := hv
  have hts := atoms_spec (ws := Cond.code yX0_isRoundedUp cX0_isRoundedUp 4 (some .boolean) :: zU) B.pre
  have hts : ∀ w ∈ zU, w.before _ s = true := fun w hw => hts w (List.mem_cons_of_mem _ hw)
  have hown : s.vm.findClass RX0 = some m.cls := findClass_of_methodNamed B.named
  have hx := B.exec
  have hb := B.bytes
  have hr := B.returns
  have hlocks := B.notSynchronized
  have S : CallFix p m c cX0_isRoundedUp 4 s ([.ref a0, .ref a1, .int a2] : List Value).toArray zU RX0 := ⟨hx, hb, hml, hown, hts⟩
  have hw : zW lo g s s.heap [] M := ⟨hR, va_S.rf⟩
  have hl := lv_entry ([.ref a0, .ref a1, .int a2]) (n := 4) (Nat.le_of_ble_eq_true rfl)
  rw [lg_entry_eq]
  generalize (lg_sl ([.ref a0, .ref a1, .int a2]) ++ List.replicate (4 - (lg_sl ([.ref a0, .ref a1, .int a2])).length) Slot.unset).toArray = ls at hl ⊢
  have hl : lv_has ls 4 [(0, .ref a0), (1, .ref a1), (2, .int a2)] := hl
  unfold pX0_isRoundedUp at h
  refine lv_aload_n hx hb dX0_isRoundedUp_0 rfl (lv_at hl 0 rfl) ?_
  refine lv_iconst (v := (1 : Int32)) hx hb dX0_isRoundedUp_1 (by decide) ?_
  obtain ⟨ho, h⟩ := h
  refine zr_Vv (As := [.int (1 : Int32)]) (rest := []) S hK hw (kX5_shiftLeft l lo g M a0 (1 : Int32) _ h) (cwV 1 hts (zg_V zu_145 zu_146 zu_147 zu_12 zu_148) rfl rfl rfl (by decide +kernel) ⟨Nat.le_of_ble_eq_true rfl, Nat.le_of_ble_eq_true rfl⟩) (ci := 8) rfl ho rfl hl.1 rfl (Nat.le_of_ble_eq_true rfl) dX0_isRoundedUp_2 ⟨Nat.le_of_ble_eq_true rfl, Nat.le_of_ble_eq_true rfl⟩ (fun M1 H locs hw h => ?_)
  refine lv_aload_n hx hb dX0_isRoundedUp_5 rfl (lv_at hl 0 rfl) ?_
  refine lv_aload_n hx hb dX0_isRoundedUp_6 rfl (lv_at hl 1 rfl) ?_
  obtain ⟨ho, h⟩ := h
  refine zr_Vi (As := [.ref a1]) (rest := []) S hK hw (kX5_order l lo g M1 a0 a1 _ h) (cwV 1 hts (zg_V zu_149 zu_44 zu_45 zu_12 zu_46) rfl rfl rfl (by decide +kernel) ⟨Nat.le_of_ble_eq_true rfl, Nat.le_of_ble_eq_true rfl⟩) (ci := 8) rfl ho rfl hl.1 rfl (Nat.le_of_ble_eq_true rfl) dX0_isRoundedUp_7 ⟨Nat.le_of_ble_eq_true rfl, Nat.le_of_ble_eq_true rfl⟩ (fun r3 M2 H locs hw h => ?_)
  refine lv_istore_n (lv' := [(3, .int r3), (0, .ref a0), (1, .ref a1), (2, .int a2)]) hx hb dX0_isRoundedUp_10 rfl hl (by decide) rfl (fun ls hl => ?_)
  refine lv_iload_n hx hb dX0_isRoundedUp_11 rfl (lv_at hl 0 rfl) ?_
  refine lv_if_gt (tgt := 23) hx hb dX0_isRoundedUp_12 (by decide) (fun hc => ?_) (fun hc => ?_)
  · have h := h.1 hc
    refine lv_iconst (v := (1 : Int32)) hx hb dX0_isRoundedUp_23 (by decide) ?_
    refine lv_goto (tgt := 28) hx hb dX0_isRoundedUp_24 (by decide) ?_
    exact zr_rz S hr hlocks hw h dX0_isRoundedUp_28
  · have h := h.2 hc
    refine lv_iload_n hx hb dX0_isRoundedUp_15 rfl (lv_at hl 0 rfl) ?_
    refine lv_if_ne (tgt := 27) hx hb dX0_isRoundedUp_16 (by decide) (fun hc => ?_) (fun hc => ?_)
    · have h := h.1 hc
      refine lv_iconst (v := (0 : Int32)) hx hb dX0_isRoundedUp_27 (by decide) ?_
      exact zr_rz S hr hlocks hw h dX0_isRoundedUp_28
    · have h := h.2 hc
      refine lv_iload_n hx hb dX0_isRoundedUp_19 rfl (lv_at hl 3 rfl) ?_
      refine lv_if_eq (tgt := 27) hx hb dX0_isRoundedUp_20 (by decide) (fun hc => ?_) (fun hc => ?_)
      · have h := h.1 hc
        refine lv_iconst (v := (0 : Int32)) hx hb dX0_isRoundedUp_27 (by decide) ?_
        exact zr_rz S hr hlocks hw h dX0_isRoundedUp_28
      · have h := h.2 hc
        refine lv_iconst (v := (1 : Int32)) hx hb dX0_isRoundedUp_23 (by decide) ?_
        refine lv_goto (tgt := 28) hx hb dX0_isRoundedUp_24 (by decide) ?_
        exact zr_rz S hr hlocks hw h dX0_isRoundedUp_28
set_option maxHeartbeats 4000000 in
set_option maxRecDepth 100000 in
theorem sX5_timesPlus_22 {p : Program} {l : Launch} {e : Env} {s : State} {m : MethodId} {args : Array Value} {below : List Frame} {meth : Method} {c : Code} {lo : Nat} {g : zg} {post : zm_M → Prop} {k63 : Nat → Int32 → zm_M → Prop} (S : CallFix p m c cX5_timesPlus 9 s args zU RX5) (hr : meth.sig.returnType = none) (hlocks : meth.locks = false) (hK : zk_K zNF zNM g s) (hk63 : ∀ (v0 : Nat) (v3 : Int32) (M : zm_M), k63 v0 v3 M → ∀ (H : Heap) (locs : List Loc) (ls : Array Slot), zW lo g s H locs M → lv_has ls 9 [(0, .ref v0), (3, .int v3)] → W p l e ({ frames := 2, cells := 0, slots := 0, locals := 63 } : Room) s m args below meth c H locs 0 0 (MQ below (va_Qv post (zc_B lo g) (zA lo)) args s 0 0 (zA lo)) (F0 m 63 ls [])) : ∀ (n : Nat) (v0 : Nat) (v1 : Int32) (v3 : Int32) (v4 : Int64) (v6 : Int32) (M : zm_M), pX5_timesPlus_22 g.2 post k63 n v0 v1 v3 v4 v6 M → ∀ (H : Heap) (locs : List Loc) (ls : Array Slot), zW lo g s H locs M → lv_has ls 9 [(0, .ref v0), (1, .int v1), (3, .int v3), (4, .long v4), (6, .int v6)] → W p l e ({ frames := 2, cells := 0, slots := 0, locals := 63 } : Room) s m args below meth c H locs 0 0 (MQ below (va_Qv post (zc_B lo g) (zA lo)) args s 0 0 (zA lo)) (F0 m 22 ls []) := by
  obtain ⟨hx, hb, hml, hown, hts⟩ := id S
  intro n
  induction n with
  | zero =>
    intro v0 v1 v3 v4 v6 M h
    exact False.elim h
  | succ n22 ih =>
    intro v0 v1 v3 v4 v6 M h H locs ls hw hl
    rw [pX5_timesPlus_22] at h
    refine lv_iload hx hb dX5_timesPlus_22 (lv_at hl 4 rfl) ?_
    refine lv_iload_n hx hb dX5_timesPlus_24 rfl (lv_at hl 2 rfl) ?_
    refine lv_icmp_ge (tgt := 63) hx hb dX5_timesPlus_25 (by decide) (fun hc => ?_) (fun hc => ?_)
    · have h := h.1 hc
      exact hk63 v0 v3 _ h _ _ _ hw (lv_sub hl [0, 2] rfl)
    · have h := h.2 hc
      refine lv_aload_n hx hb dX5_timesPlus_28 rfl (lv_at hl 0 rfl) ?_
      refine lv_iload hx hb dX5_timesPlus_29 (lv_at hl 4 rfl) ?_
      obtain ⟨ho, h⟩ := h
      refine zr_Vl (As := [.int v6]) (rest := []) S hK hw (kX5_limbAt l lo g M v0 v6 _ h) (cwV 1 hts (zg_V zu_26 zu_27 zu_28 zu_12 zu_29) rfl rfl rfl (by decide +kernel) ⟨Nat.le_of_ble_eq_true rfl, Nat.le_of_ble_eq_true rfl⟩) (ci := 8) rfl ho rfl hl.1 rfl (Nat.le_of_ble_eq_true rfl) dX5_timesPlus_31 ⟨Nat.le_of_ble_eq_true rfl, Nat.le_of_ble_eq_true rfl⟩ (fun r8 M7 H locs hw h => ?_)
      refine lv_iload_n hx hb dX5_timesPlus_34 rfl (lv_at hl 1 rfl) ?_
      refine lv_i2l hx hb dX5_timesPlus_35 rfl ?_
      refine lv_lmul hx hb dX5_timesPlus_36 ?_
      refine lv_lload hx hb dX5_timesPlus_37 (lv_at hl 3 rfl) ?_
      refine lv_ladd hx hb dX5_timesPlus_39 ?_
      refine lv_topl (fun x9 ex9 => ?_)
      have h := h x9 ex9
      refine lv_lstore (lv' := [(7, .long x9), (0, .ref v0), (1, .int v1), (3, .int v3), (4, .long v4), (6, .int v6)]) hx hb dX5_timesPlus_40 hl (by decide) rfl (fun ls hl => ?_)
      refine lv_aload_n hx hb dX5_timesPlus_42 rfl (lv_at hl 1 rfl) ?_
      refine lv_iload hx hb dX5_timesPlus_43 (lv_at hl 5 rfl) ?_
      refine lv_lload hx hb dX5_timesPlus_45 (lv_at hl 0 rfl) ?_
      obtain ⟨ho, h⟩ := h
      refine zr_Vv (As := [.int v6, .long x9]) (rest := []) S hK hw (kX5_put l lo g M7 v0 v6 x9 _ h) (cwV 2 hts (zg_V zu_9 zu_10 zu_11 zu_12 zu_13) rfl rfl rfl (by decide +kernel) ⟨Nat.le_of_ble_eq_true rfl, Nat.le_of_ble_eq_true rfl⟩) (ci := 8) rfl ho rfl hl.1 rfl (Nat.le_of_ble_eq_true rfl) dX5_timesPlus_47 ⟨Nat.le_of_ble_eq_true rfl, Nat.le_of_ble_eq_true rfl⟩ (fun M10 H locs hw h => ?_)
      refine lv_lload hx hb dX5_timesPlus_50 (lv_at hl 0 rfl) ?_
      refine lv_bipush (v := (32 : Int32)) hx hb dX5_timesPlus_52 (by decide) ?_
      refine lv_lushr hx hb dX5_timesPlus_54 rfl ?_
      refine lv_topl (fun x11 ex11 => ?_)
      have h := h x11 ex11
      refine lv_lstore (lv' := [(4, .long x11), (7, .long x9), (0, .ref v0), (1, .int v1), (3, .int v3), (6, .int v6)]) hx hb dX5_timesPlus_55 hl (by decide) rfl (fun ls hl => ?_)
      obtain ⟨x12, ex12⟩ : ∃ z : Int32, z = v6 + (1 : Int32) := ⟨_, rfl⟩
      have h := h x12 ex12
      refine lv_iinc (v := x12) (lv' := [(6, .int x12), (4, .long x11), (7, .long x9), (0, .ref v0), (1, .int v1), (3, .int v3)]) hx hb dX5_timesPlus_57 hl (k := 5) rfl (by rw [ex12]; rfl) (by decide) rfl (fun ls hl => ?_)
      refine lv_goto (tgt := 22) hx hb dX5_timesPlus_60 (by decide) ?_
      exact ih v0 v1 v3 x11 x12 _ h _ _ _ hw (lv_sub hl [3, 4, 5, 1, 0] rfl)
set_option maxHeartbeats 4000000 in
set_option maxRecDepth 100000 in
theorem kX5_timesPlus (l : Launch) (lo : Nat) (g : zg) (M : zm_M) (a0 : Nat) (a1 : Int32) (a2 : Int32) (post : zm_M → Prop) (h : pX5_timesPlus g.2 a0 a1 a2 post M) : Met l yX5_timesPlus (Cond.code yX5_timesPlus cX5_timesPlus 9 none :: zU) (({ frames := 2, cells := 0, slots := 0, locals := 63 } : Room)) (zc_P zNF zNM lo g M [.ref a0, .int a1, .int a2]) (va_Qv post (zc_B lo g) (zA lo)) 0 0 (zA lo) := by
  refine Met.ofW (cc := cX5_timesPlus) (maxL := 9) (ret := none) (by decide) rfl ?_
  intro p e s m args below meth c s₁ B hml hv
  obtain ⟨rfl, hR, hK⟩ := hv
  have hts := atoms_spec (ws := Cond.code yX5_timesPlus cX5_timesPlus 9 none :: zU) B.pre
  have hts : ∀ w ∈ zU, w.before _ s = true := fun w hw => hts w (List.mem_cons_of_mem _ hw)
  have hown : s.vm.findClass RX5 = some m.cls := findClass_of_methodNamed B.named
  have hx := B.exec
  have hb := B.bytes
  have hr := B.returns
  have hlocks := B.notSynchronized
  have S : CallFix p m c cX5_timesPlus 9 s ([.ref a0, .int a1, .int a2] : List Value).toArray zU RX5 := ⟨hx, hb, hml, hown, hts⟩
  have hw : zW lo g s s.heap [] M := ⟨hR, va_S.rf⟩
  have hl := lv_entry ([.ref a0, .int a1, .int a2]) (n := 9) (Nat.le_of_ble_eq_true rfl)
  rw [lg_entry_eq]
  generalize (lg_sl ([.ref a0, .int a1, .int a2]) ++ List.replicate (9 - (lg_sl ([.ref a0, .int a1, .int a2])).length) Slot.unset).toArray = ls at hl ⊢
  have hl : lv_has ls 9 [(0, .ref a0), (1, .int a1), (2, .int a2)] := hl
  unfold pX5_timesPlus at h
  refine lv_aload_n hx hb dX5_timesPlus_0 rfl (lv_at hl 0 rfl) ?_
  refine zr_gi (C := RX5) (T := TX5) (N := 2) (ci := 8) (k := 1) S hK hw zi_X5 rfl (by decide) zu_0 dX5_timesPlus_1 h (fun used_1 h => ?_)
  refine lv_iconst (v := (1 : Int32)) hx hb dX5_timesPlus_4 (by decide) ?_
  refine lv_iadd hx hb dX5_timesPlus_5 ?_
  refine lv_aload_n hx hb dX5_timesPlus_6 rfl (lv_at hl 0 rfl) ?_
  refine zr_ga (C := RX5) (T := TX5) (N := 2) (ci := 8) (k := 0) S hK hw zi_X5 rfl (by decide) zu_1 dX5_timesPlus_7 h (fun row_2 h => ?_)
  refine zr_len (t0 := 0) (ty := .int) S hK hw rfl dX5_timesPlus_10 h (fun len3 h => ?_)
  refine zr_min S hl.1 zu_2 zu_3 zu_4 zu_5 (Nat.le_of_ble_eq_true rfl) (Nat.le_of_ble_eq_true rfl) (Nat.zero_le _) (Nat.zero_le _) dX5_timesPlus_11 ?_
  refine lv_topi (fun x4 ex4 => ?_)
  have h := h x4 ex4
  refine lv_istore_n (lv' := [(3, .int x4), (0, .ref a0), (1, .int a1), (2, .int a2)]) hx hb dX5_timesPlus_14 rfl hl (by decide) rfl (fun ls hl => ?_)
  refine lv_iload_n hx hb dX5_timesPlus_15 rfl (lv_at hl 3 rfl) ?_
  refine lv_i2l hx hb dX5_timesPlus_16 rfl ?_
  refine lv_topl (fun x5 ex5 => ?_)
  have h := h x5 ex5
  refine lv_lstore (lv' := [(4, .long x5), (3, .int x4), (0, .ref a0), (1, .int a1), (2, .int a2)]) hx hb dX5_timesPlus_17 hl (by decide) rfl (fun ls hl => ?_)
  refine lv_iconst (v := (0 : Int32)) hx hb dX5_timesPlus_19 (by decide) ?_
  refine lv_topi (fun x6 ex6 => ?_)
  have h := h x6 ex6
  refine lv_istore (lv' := [(6, .int x6), (4, .long x5), (3, .int x4), (0, .ref a0), (1, .int a1), (2, .int a2)]) hx hb dX5_timesPlus_20 hl (by decide) rfl (fun ls hl => ?_)
  obtain ⟨n22, h⟩ := h
  refine sX5_timesPlus_22 S hr hlocks hK (fun w13 w14 M15 h H locs ls hw hl => ?_) n22 a0 a1 x4 x5 x6 _ h _ _ _ hw (lv_sub hl [3, 4, 2, 1, 0] rfl)
  refine lv_aload_n hx hb dX5_timesPlus_63 rfl (lv_at hl 0 rfl) ?_
  refine lv_iload_n hx hb dX5_timesPlus_64 rfl (lv_at hl 1 rfl) ?_
  obtain ⟨ho, h⟩ := h
  refine zr_Vv (As := [.int w14]) (rest := []) S hK hw (kX5_trim l lo g M15 w13 w14 _ h) (cwV 1 hts (zg_V zu_14 zu_15 zu_16 zu_12 zu_17) rfl rfl rfl (by decide +kernel) ⟨Nat.le_of_ble_eq_true rfl, Nat.le_of_ble_eq_true rfl⟩) (ci := 8) rfl ho rfl hl.1 rfl (Nat.le_of_ble_eq_true rfl) dX5_timesPlus_65 ⟨Nat.le_of_ble_eq_true rfl, Nat.le_of_ble_eq_true rfl⟩ (fun M16 H locs hw h => ?_)
  exact zr_rv S hr hlocks hw h dX5_timesPlus_68
set_option maxHeartbeats 4000000 in
set_option maxRecDepth 100000 in
theorem sX0_wholeNear_135 {p : Program} {l : Launch} {e : Env} {s : State} {m : MethodId} {args : Array Value} {below : List Frame} {meth : Method} {c : Code} {lo : Nat} {g : zg} {post : zm_M → Prop}  (S : CallFix p m c cX0_wholeNear 4 s args zU RX0) (hr : meth.sig.returnType = none) (hlocks : meth.locks = false) (hK : zk_K zNF zNM g s)  : ∀ (v0 : Nat) (v1 : Nat) (M : zm_M), pX0_wholeNear_135 g.2 post  v0 v1 M → ∀ (H : Heap) (locs : List Loc) (ls : Array Slot), zW lo g s H locs M → lv_has ls 4 [(0, .ref v0), (1, .ref v1)] → W p l e ({ frames := 4, cells := 0, slots := 0, locals := 129 } : Room) s m args below meth c H locs 0 0 (MQ below (va_Qv post (zc_B lo g) (zA lo)) args s 0 0 (zA lo)) (F0 m 135 ls []) := by
  obtain ⟨hx, hb, hml, hown, hts⟩ := id S
  intro v0 v1 M h H locs ls hw hl
  unfold pX0_wholeNear_135 at h
  refine lv_aload_n hx hb dX0_wholeNear_135 rfl (lv_at hl 0 rfl) ?_
  refine zr_ga (C := RX0) (T := TX0) (N := 5) (ci := 3) (k := 0) S hK hw zi_X0 rfl (by decide) zu_82 dX0_wholeNear_136 h (fun result_10 h => ?_)
  refine lv_aload_n hx hb dX0_wholeNear_139 rfl (lv_at hl 1 rfl) ?_
  refine zr_giN (C := RX2) (T := TX2) (N := 3) (ci := 5) (k := 0) (host := "LeastTerms") S hK hw zi_X2 rfl (by decide) (by decide +kernel) dX0_wholeNear_140 h (fun sign_11 h => ?_)
  refine zr_pN (C := RX2) (T := TX2) (N := 3) (ci := 5) (k := 0) (host := "LeastTerms") S hK hw zi_X2 tyX2 tyX2_ok nmX2 rfl (by decide) (by decide +kernel) rfl rfl rfl dX0_wholeNear_143 h (fun M12 H locs hw h => ?_)
  refine lv_aload_n hx hb dX0_wholeNear_146 rfl (lv_at hl 0 rfl) ?_
  refine zr_ga (C := RX0) (T := TX0) (N := 5) (ci := 3) (k := 0) S hK hw zi_X0 rfl (by decide) zu_82 dX0_wholeNear_147 h (fun result_13 h => ?_)
  refine zr_gaN (C := RX2) (T := TX2) (N := 3) (ci := 5) (k := 2) (host := "LeastTerms") S hK hw zi_X2 rfl (by decide) (by decide +kernel) dX0_wholeNear_150 h (fun bottom_14 h => ?_)
  refine lv_lconst (v := (1 : Int64)) hx hb dX0_wholeNear_153 (by decide) ?_
  obtain ⟨ho, h⟩ := h
  refine zr_Vv (As := [.long (1 : Int64)]) (rest := []) S hK hw (kX5_become l lo g M12 bottom_14 (1 : Int64) _ h) (cwV 1 hts (zg_V zu_133 zu_21 zu_22 zu_12 zu_23) rfl rfl rfl (by decide +kernel) ⟨Nat.le_of_ble_eq_true rfl, Nat.le_of_ble_eq_true rfl⟩) (ci := 8) rfl ho rfl hl.1 rfl (Nat.le_of_ble_eq_true rfl) dX0_wholeNear_154 ⟨Nat.le_of_ble_eq_true rfl, Nat.le_of_ble_eq_true rfl⟩ (fun M15 H locs hw h => ?_)
  exact zr_rv S hr hlocks hw h dX0_wholeNear_157
set_option maxHeartbeats 4000000 in
set_option maxRecDepth 100000 in
theorem sX0_wholeNear_119 {p : Program} {l : Launch} {e : Env} {s : State} {m : MethodId} {args : Array Value} {below : List Frame} {meth : Method} {c : Code} {lo : Nat} {g : zg} {post : zm_M → Prop}  (S : CallFix p m c cX0_wholeNear 4 s args zU RX0) (hr : meth.sig.returnType = none) (hlocks : meth.locks = false) (hK : zk_K zNF zNM g s)  : ∀ (v0 : Nat) (v1 : Nat) (v3 : Int32) (M : zm_M), pX0_wholeNear_119 g.2 post  v0 v1 v3 M → ∀ (H : Heap) (locs : List Loc) (ls : Array Slot), zW lo g s H locs M → lv_has ls 4 [(0, .ref v0), (1, .ref v1), (3, .int v3)] → W p l e ({ frames := 4, cells := 0, slots := 0, locals := 129 } : Room) s m args below meth c H locs 0 0 (MQ below (va_Qv post (zc_B lo g) (zA lo)) args s 0 0 (zA lo)) (F0 m 119 ls []) := by
  obtain ⟨hx, hb, hml, hown, hts⟩ := id S
  intro v0 v1 v3 M h H locs ls hw hl
  unfold pX0_wholeNear_119 at h
  refine lv_iload_n hx hb dX0_wholeNear_119 rfl (lv_at hl 2 rfl) ?_
  refine lv_if_eq (tgt := 135) hx hb dX0_wholeNear_120 (by decide) (fun hc => ?_) (fun hc => ?_)
  · have h := h.1 hc
    exact sX0_wholeNear_135 S hr hlocks hK  v0 v1 _ h _ _ _ hw (lv_sub hl [0, 1] rfl)
  · have h := h.2 hc
    refine lv_aload_n hx hb dX0_wholeNear_123 rfl (lv_at hl 0 rfl) ?_
    refine zr_ga (C := RX0) (T := TX0) (N := 5) (ci := 3) (k := 0) S hK hw zi_X0 rfl (by decide) zu_82 dX0_wholeNear_124 h (fun result_16 h => ?_)
    refine zr_gaN (C := RX2) (T := TX2) (N := 3) (ci := 5) (k := 1) (host := "LeastTerms") S hK hw zi_X2 rfl (by decide) (by decide +kernel) dX0_wholeNear_127 h (fun top_17 h => ?_)
    refine lv_iconst (v := (1 : Int32)) hx hb dX0_wholeNear_130 (by decide) ?_
    refine lv_iconst (v := (1 : Int32)) hx hb dX0_wholeNear_131 (by decide) ?_
    obtain ⟨ho, h⟩ := h
    refine zr_Vv (As := [.int (1 : Int32), .int (1 : Int32)]) (rest := []) S hK hw (kX5_timesPlus l lo g M top_17 (1 : Int32) (1 : Int32) _ h) (cwV 2 hts (zg_V zu_150 zu_151 zu_152 zu_12 zu_153) rfl rfl rfl (by decide +kernel) ⟨Nat.le_of_ble_eq_true rfl, Nat.le_of_ble_eq_true rfl⟩) (ci := 8) rfl ho rfl hl.1 rfl (Nat.le_of_ble_eq_true rfl) dX0_wholeNear_132 ⟨Nat.le_of_ble_eq_true rfl, Nat.le_of_ble_eq_true rfl⟩ (fun M18 H locs hw h => ?_)
    exact sX0_wholeNear_135 S hr hlocks hK  v0 v1 _ h _ _ _ hw (lv_sub hl [0, 1] rfl)
set_option maxHeartbeats 4000000 in
set_option maxRecDepth 100000 in
theorem sX0_wholeNear_88 {p : Program} {l : Launch} {e : Env} {s : State} {m : MethodId} {args : Array Value} {below : List Frame} {meth : Method} {c : Code} {lo : Nat} {g : zg} {post : zm_M → Prop}  (S : CallFix p m c cX0_wholeNear 4 s args zU RX0) (hr : meth.sig.returnType = none) (hlocks : meth.locks = false) (hK : zk_K zNF zNM g s)  : ∀ (v0 : Nat) (v1 : Nat) (s0 : Int32) (M : zm_M), pX0_wholeNear_88 g.2 post  v0 v1 s0 M → ∀ (H : Heap) (locs : List Loc) (ls : Array Slot), zW lo g s H locs M → lv_has ls 4 [(0, .ref v0), (1, .ref v1)] → W p l e ({ frames := 4, cells := 0, slots := 0, locals := 129 } : Room) s m args below meth c H locs 0 0 (MQ below (va_Qv post (zc_B lo g) (zA lo)) args s 0 0 (zA lo)) (F0 m 88 ls [.int s0]) := by
  obtain ⟨hx, hb, hml, hown, hts⟩ := id S
  intro v0 v1 s0 M h H locs ls hw hl
  unfold pX0_wholeNear_88 at h
  refine lv_istore_n (lv' := [(3, .int s0), (0, .ref v0), (1, .ref v1)]) hx hb dX0_wholeNear_88 rfl hl (by decide) rfl (fun ls hl => ?_)
  refine lv_goto (tgt := 119) hx hb dX0_wholeNear_89 (by decide) ?_
  exact sX0_wholeNear_119 S hr hlocks hK  v0 v1 s0 _ h _ _ _ hw (lv_sub hl [1, 2, 0] rfl)
set_option maxHeartbeats 4000000 in
set_option maxRecDepth 100000 in
theorem sX0_wholeNear_87 {p : Program} {l : Launch} {e : Env} {s : State} {m : MethodId} {args : Array Value} {below : List Frame} {meth : Method} {c : Code} {lo : Nat} {g : zg} {post : zm_M → Prop}  (S : CallFix p m c cX0_wholeNear 4 s args zU RX0) (hr : meth.sig.returnType = none) (hlocks : meth.locks = false) (hK : zk_K zNF zNM g s)  : ∀ (v0 : Nat) (v1 : Nat) (M : zm_M), pX0_wholeNear_87 g.2 post  v0 v1 M → ∀ (H : Heap) (locs : List Loc) (ls : Array Slot), zW lo g s H locs M → lv_has ls 4 [(0, .ref v0), (1, .ref v1)] → W p l e ({ frames := 4, cells := 0, slots := 0, locals := 129 } : Room) s m args below meth c H locs 0 0 (MQ below (va_Qv post (zc_B lo g) (zA lo)) args s 0 0 (zA lo)) (F0 m 87 ls []) := by
  obtain ⟨hx, hb, hml, hown, hts⟩ := id S
  intro v0 v1 M h H locs ls hw hl
  unfold pX0_wholeNear_87 at h
  refine lv_iconst (v := (0 : Int32)) hx hb dX0_wholeNear_87 (by decide) ?_
  exact sX0_wholeNear_88 S hr hlocks hK  v0 v1 (0 : Int32) _ h _ _ _ hw (lv_sub hl [0, 1] rfl)
set_option maxHeartbeats 4000000 in
set_option maxRecDepth 100000 in
theorem sX0_wholeNear_57 {p : Program} {l : Launch} {e : Env} {s : State} {m : MethodId} {args : Array Value} {below : List Frame} {meth : Method} {c : Code} {lo : Nat} {g : zg} {post : zm_M → Prop}  (S : CallFix p m c cX0_wholeNear 4 s args zU RX0) (hr : meth.sig.returnType = none) (hlocks : meth.locks = false) (hK : zk_K zNF zNM g s)  : ∀ (v0 : Nat) (v1 : Nat) (s0 : Int32) (M : zm_M), pX0_wholeNear_57 g.2 post  v0 v1 s0 M → ∀ (H : Heap) (locs : List Loc) (ls : Array Slot), zW lo g s H locs M → lv_has ls 4 [(0, .ref v0), (1, .ref v1)] → W p l e ({ frames := 4, cells := 0, slots := 0, locals := 129 } : Room) s m args below meth c H locs 0 0 (MQ below (va_Qv post (zc_B lo g) (zA lo)) args s 0 0 (zA lo)) (F0 m 57 ls [.int s0]) := by
  obtain ⟨hx, hb, hml, hown, hts⟩ := id S
  intro v0 v1 s0 M h H locs ls hw hl
  unfold pX0_wholeNear_57 at h
  refine lv_istore_n (lv' := [(3, .int s0), (0, .ref v0), (1, .ref v1)]) hx hb dX0_wholeNear_57 rfl hl (by decide) rfl (fun ls hl => ?_)
  refine lv_goto (tgt := 119) hx hb dX0_wholeNear_58 (by decide) ?_
  exact sX0_wholeNear_119 S hr hlocks hK  v0 v1 s0 _ h _ _ _ hw (lv_sub hl [1, 2, 0] rfl)
set_option maxHeartbeats 4000000 in
set_option maxRecDepth 100000 in
theorem sX0_wholeNear_56 {p : Program} {l : Launch} {e : Env} {s : State} {m : MethodId} {args : Array Value} {below : List Frame} {meth : Method} {c : Code} {lo : Nat} {g : zg} {post : zm_M → Prop}  (S : CallFix p m c cX0_wholeNear 4 s args zU RX0) (hr : meth.sig.returnType = none) (hlocks : meth.locks = false) (hK : zk_K zNF zNM g s)  : ∀ (v0 : Nat) (v1 : Nat) (M : zm_M), pX0_wholeNear_56 g.2 post  v0 v1 M → ∀ (H : Heap) (locs : List Loc) (ls : Array Slot), zW lo g s H locs M → lv_has ls 4 [(0, .ref v0), (1, .ref v1)] → W p l e ({ frames := 4, cells := 0, slots := 0, locals := 129 } : Room) s m args below meth c H locs 0 0 (MQ below (va_Qv post (zc_B lo g) (zA lo)) args s 0 0 (zA lo)) (F0 m 56 ls []) := by
  obtain ⟨hx, hb, hml, hown, hts⟩ := id S
  intro v0 v1 M h H locs ls hw hl
  unfold pX0_wholeNear_56 at h
  refine lv_iconst (v := (0 : Int32)) hx hb dX0_wholeNear_56 (by decide) ?_
  exact sX0_wholeNear_57 S hr hlocks hK  v0 v1 (0 : Int32) _ h _ _ _ hw (lv_sub hl [0, 1] rfl)
set_option maxHeartbeats 4000000 in
set_option maxRecDepth 100000 in
theorem kX0_wholeNear (l : Launch) (lo : Nat) (g : zg) (M : zm_M) (a0 : Nat) (a1 : Nat) (a2 : Int32) (post : zm_M → Prop) (h : pX0_wholeNear g.2 a0 a1 a2 post M) : Met l yX0_wholeNear (Cond.code yX0_wholeNear cX0_wholeNear 4 none :: zU) (({ frames := 4, cells := 0, slots := 0, locals := 129 } : Room)) (zc_P zNF zNM lo g M [.ref a0, .ref a1, .int a2]) (va_Qv post (zc_B lo g) (zA lo)) 0 0 (zA lo) := by
  refine Met.ofW (cc := cX0_wholeNear) (maxL := 4) (ret := none) (by decide) rfl ?_
  intro p e s m args below meth c s₁ B hml hv
  obtain ⟨rfl, hR, hK⟩ := hv
  have hts := atoms_spec (ws := Cond.code yX0_wholeNear cX0_wholeNear 4 none :: zU) B.pre
  have hts : ∀ w ∈ zU, w.before _ s = true := fun w hw => hts w (List.mem_cons_of_mem _ hw)
  have hown : s.vm.findClass RX0 = some m.cls := findClass_of_methodNamed B.named
  have hx := B.exec
  have hb := B.bytes
  have hr := B.returns
  have hlocks := B.notSynchronized
  have S : CallFix p m c cX0_wholeNear 4 s ([.ref a0, .ref a1, .int a2] : List Value).toArray zU RX0 := ⟨hx, hb, hml, hown, hts⟩
  have hw : zW lo g s s.heap [] M := ⟨hR, va_S.rf⟩
  have hl := lv_entry ([.ref a0, .ref a1, .int a2]) (n := 4) (Nat.le_of_ble_eq_true rfl)
  rw [lg_entry_eq]
  generalize (lg_sl ([.ref a0, .ref a1, .int a2]) ++ List.replicate (4 - (lg_sl ([.ref a0, .ref a1, .int a2])).length) Slot.unset).toArray = ls at hl ⊢
  have hl : lv_has ls 4 [(0, .ref a0), (1, .ref a1), (2, .int a2)] := hl
  unfold pX0_wholeNear at h
  refine lv_aload_n hx hb dX0_wholeNear_0 rfl (lv_at hl 0 rfl) ?_
  refine zr_ga (C := RX0) (T := TX0) (N := 5) (ci := 3) (k := 4) S hK hw zi_X0 rfl (by decide) zu_81 dX0_wholeNear_1 h (fun spare_1 h => ?_)
  refine lv_aload_n hx hb dX0_wholeNear_4 rfl (lv_at hl 1 rfl) ?_
  refine zr_gaN (C := RX2) (T := TX2) (N := 3) (ci := 5) (k := 1) (host := "LeastTerms") S hK hw zi_X2 rfl (by decide) (by decide +kernel) dX0_wholeNear_5 h (fun top_2 h => ?_)
  obtain ⟨ho, h⟩ := h
  refine zr_Vv (As := [.ref top_2]) (rest := []) S hK hw (kX5_copy l lo g M spare_1 top_2 _ h) (cwV 1 hts (zg_V zu_68 zu_69 zu_70 zu_12 zu_71) rfl rfl rfl (by decide +kernel) ⟨Nat.le_of_ble_eq_true rfl, Nat.le_of_ble_eq_true rfl⟩) (ci := 8) rfl ho rfl hl.1 rfl (Nat.le_of_ble_eq_true rfl) dX0_wholeNear_8 ⟨Nat.le_of_ble_eq_true rfl, Nat.le_of_ble_eq_true rfl⟩ (fun M3 H locs hw h => ?_)
  refine lv_aload_n hx hb dX0_wholeNear_11 rfl (lv_at hl 0 rfl) ?_
  refine zr_ga (C := RX0) (T := TX0) (N := 5) (ci := 3) (k := 4) S hK hw zi_X0 rfl (by decide) zu_81 dX0_wholeNear_12 h (fun spare_4 h => ?_)
  refine lv_aload_n hx hb dX0_wholeNear_15 rfl (lv_at hl 1 rfl) ?_
  refine zr_gaN (C := RX2) (T := TX2) (N := 3) (ci := 5) (k := 2) (host := "LeastTerms") S hK hw zi_X2 rfl (by decide) (by decide +kernel) dX0_wholeNear_16 h (fun bottom_5 h => ?_)
  refine lv_aload_n hx hb dX0_wholeNear_19 rfl (lv_at hl 0 rfl) ?_
  refine zr_ga (C := RX0) (T := TX0) (N := 5) (ci := 3) (k := 0) S hK hw zi_X0 rfl (by decide) zu_82 dX0_wholeNear_20 h (fun result_6 h => ?_)
  refine zr_gaN (C := RX2) (T := TX2) (N := 3) (ci := 5) (k := 1) (host := "LeastTerms") S hK hw zi_X2 rfl (by decide) (by decide +kernel) dX0_wholeNear_23 h (fun top_7 h => ?_)
  obtain ⟨ho, h⟩ := h
  refine zr_Vv (As := [.ref bottom_5, .ref top_7]) (rest := []) S hK hw (kX5_divide l lo g M3 spare_4 bottom_5 top_7 _ h) (cwV 2 hts (zg_V zu_77 zu_78 zu_79 zu_12 zu_80) rfl rfl rfl (by decide +kernel) ⟨Nat.le_of_ble_eq_true rfl, Nat.le_of_ble_eq_true rfl⟩) (ci := 8) rfl ho rfl hl.1 rfl (Nat.le_of_ble_eq_true rfl) dX0_wholeNear_26 ⟨Nat.le_of_ble_eq_true rfl, Nat.le_of_ble_eq_true rfl⟩ (fun M8 H locs hw h => ?_)
  refine lv_iconst (v := (0 : Int32)) hx hb dX0_wholeNear_29 (by decide) ?_
  refine lv_topi (fun x9 ex9 => ?_)
  have h := h x9 ex9
  refine lv_istore_n (lv' := [(3, .int x9), (0, .ref a0), (1, .ref a1), (2, .int a2)]) hx hb dX0_wholeNear_30 rfl hl (by decide) rfl (fun ls hl => ?_)
  refine lv_iload_n hx hb dX0_wholeNear_31 rfl (lv_at hl 3 rfl) ?_
  refine lv_if_ne (tgt := 61) hx hb dX0_wholeNear_32 (by decide) (fun hc => ?_) (fun hc => ?_)
  · have h := h.1 hc
    refine lv_iload_n hx hb dX0_wholeNear_61 rfl (lv_at hl 3 rfl) ?_
    refine lv_iconst (v := (1 : Int32)) hx hb dX0_wholeNear_62 (by decide) ?_
    refine lv_icmp_ne (tgt := 92) hx hb dX0_wholeNear_63 (by decide) (fun hc => ?_) (fun hc => ?_)
    · have h := h.1 hc
      refine lv_iload_n hx hb dX0_wholeNear_92 rfl (lv_at hl 3 rfl) ?_
      refine lv_iconst (v := (2 : Int32)) hx hb dX0_wholeNear_93 (by decide) ?_
      refine lv_icmp_ne (tgt := 119) hx hb dX0_wholeNear_94 (by decide) (fun hc => ?_) (fun hc => ?_)
      · have h := h.1 hc
        exact sX0_wholeNear_119 S hr hlocks hK  a0 a1 x9 _ h _ _ _ hw (lv_sub hl [1, 2, 0] rfl)
      · have h := h.2 hc
        refine lv_aload_n hx hb dX0_wholeNear_97 rfl (lv_at hl 1 rfl) ?_
        refine zr_ga (C := RX0) (T := TX0) (N := 5) (ci := 3) (k := 4) S hK hw zi_X0 rfl (by decide) zu_81 dX0_wholeNear_98 h (fun spare_19 h => ?_)
        refine lv_aload_n hx hb dX0_wholeNear_101 rfl (lv_at hl 2 rfl) ?_
        refine zr_gaN (C := RX2) (T := TX2) (N := 3) (ci := 5) (k := 2) (host := "LeastTerms") S hK hw zi_X2 rfl (by decide) (by decide +kernel) dX0_wholeNear_102 h (fun bottom_20 h => ?_)
        refine lv_aload_n hx hb dX0_wholeNear_105 rfl (lv_at hl 1 rfl) ?_
        refine zr_ga (C := RX0) (T := TX0) (N := 5) (ci := 3) (k := 0) S hK hw zi_X0 rfl (by decide) zu_82 dX0_wholeNear_106 h (fun result_21 h => ?_)
        refine zr_gaN (C := RX2) (T := TX2) (N := 3) (ci := 5) (k := 1) (host := "LeastTerms") S hK hw zi_X2 rfl (by decide) (by decide +kernel) dX0_wholeNear_109 h (fun top_22 h => ?_)
        obtain ⟨ho, h⟩ := h
        refine zr_Vi (As := []) (rest := [.ref bottom_20, .ref spare_19]) S hK hw (kX5_isOdd l lo g M8 top_22  _ h) (cwV 0 hts (zg_V zu_154 zu_155 zu_156 zu_12 zu_157) rfl rfl rfl (by decide +kernel) ⟨Nat.le_of_ble_eq_true rfl, Nat.le_of_ble_eq_true rfl⟩) (ci := 8) rfl ho rfl hl.1 rfl (Nat.le_of_ble_eq_true rfl) dX0_wholeNear_112 ⟨Nat.le_of_ble_eq_true rfl, Nat.le_of_ble_eq_true rfl⟩ (fun r24 M23 H locs hw h => ?_)
        refine zr_Si (As := [.ref spare_19, .ref bottom_20, .int r24]) (rest := []) S hK hw (kX0_isRoundedUp l lo g M23 spare_19 bottom_20 r24 _ h) (va_cwS 3 hts (zg_S zu_158 zu_159 zu_90 zu_160) rfl rfl rfl (by decide +kernel) ⟨Nat.le_of_ble_eq_true rfl, Nat.le_of_ble_eq_true rfl⟩) rfl hl.1 rfl (Nat.le_of_ble_eq_true rfl) dX0_wholeNear_115 ⟨Nat.le_of_ble_eq_true rfl, Nat.le_of_ble_eq_true rfl⟩ (fun r26 M25 H locs hw h => ?_)
        refine lv_istore_n (lv' := [(3, .int r26), (0, .ref a0), (1, .ref a1), (2, .int a2)]) hx hb dX0_wholeNear_118 rfl hl (by decide) rfl (fun ls hl => ?_)
        exact sX0_wholeNear_119 S hr hlocks hK  a0 a1 r26 _ h _ _ _ hw (lv_sub hl [1, 2, 0] rfl)
    · have h := h.2 hc
      refine lv_aload_n hx hb dX0_wholeNear_66 rfl (lv_at hl 2 rfl) ?_
      refine zr_giN (C := RX2) (T := TX2) (N := 3) (ci := 5) (k := 0) (host := "LeastTerms") S hK hw zi_X2 rfl (by decide) (by decide +kernel) dX0_wholeNear_67 h (fun sign_27 h => ?_)
      refine lv_if_le (tgt := 87) hx hb dX0_wholeNear_70 (by decide) (fun hc => ?_) (fun hc => ?_)
      · have h := h.1 hc
        exact sX0_wholeNear_87 S hr hlocks hK  a0 a1 _ h _ _ _ hw (lv_sub hl [1, 2] rfl)
      · have h := h.2 hc
        refine lv_aload_n hx hb dX0_wholeNear_73 rfl (lv_at hl 1 rfl) ?_
        refine zr_ga (C := RX0) (T := TX0) (N := 5) (ci := 3) (k := 4) S hK hw zi_X0 rfl (by decide) zu_81 dX0_wholeNear_74 h (fun spare_28 h => ?_)
        obtain ⟨ho, h⟩ := h
        refine zr_Vi (As := []) (rest := []) S hK hw (kX5_isZero l lo g M8 spare_28  _ h) (cwV 0 hts (zg_V zu_72 zu_73 zu_74 zu_12 zu_75) rfl rfl rfl (by decide +kernel) ⟨Nat.le_of_ble_eq_true rfl, Nat.le_of_ble_eq_true rfl⟩) (ci := 8) rfl ho rfl hl.1 rfl (Nat.le_of_ble_eq_true rfl) dX0_wholeNear_77 ⟨Nat.le_of_ble_eq_true rfl, Nat.le_of_ble_eq_true rfl⟩ (fun r30 M29 H locs hw h => ?_)
        refine lv_if_ne (tgt := 87) hx hb dX0_wholeNear_80 (by decide) (fun hc => ?_) (fun hc => ?_)
        · have h := h.1 hc
          exact sX0_wholeNear_87 S hr hlocks hK  a0 a1 _ h _ _ _ hw (lv_sub hl [1, 2] rfl)
        · have h := h.2 hc
          refine lv_iconst (v := (1 : Int32)) hx hb dX0_wholeNear_83 (by decide) ?_
          refine lv_goto (tgt := 88) hx hb dX0_wholeNear_84 (by decide) ?_
          exact sX0_wholeNear_88 S hr hlocks hK  a0 a1 (1 : Int32) _ h _ _ _ hw (lv_sub hl [1, 2] rfl)
  · have h := h.2 hc
    refine lv_aload_n hx hb dX0_wholeNear_35 rfl (lv_at hl 2 rfl) ?_
    refine zr_giN (C := RX2) (T := TX2) (N := 3) (ci := 5) (k := 0) (host := "LeastTerms") S hK hw zi_X2 rfl (by decide) (by decide +kernel) dX0_wholeNear_36 h (fun sign_31 h => ?_)
    refine lv_if_ge (tgt := 56) hx hb dX0_wholeNear_39 (by decide) (fun hc => ?_) (fun hc => ?_)
    · have h := h.1 hc
      exact sX0_wholeNear_56 S hr hlocks hK  a0 a1 _ h _ _ _ hw (lv_sub hl [1, 2] rfl)
    · have h := h.2 hc
      refine lv_aload_n hx hb dX0_wholeNear_42 rfl (lv_at hl 1 rfl) ?_
      refine zr_ga (C := RX0) (T := TX0) (N := 5) (ci := 3) (k := 4) S hK hw zi_X0 rfl (by decide) zu_81 dX0_wholeNear_43 h (fun spare_32 h => ?_)
      obtain ⟨ho, h⟩ := h
      refine zr_Vi (As := []) (rest := []) S hK hw (kX5_isZero l lo g M8 spare_32  _ h) (cwV 0 hts (zg_V zu_72 zu_73 zu_74 zu_12 zu_75) rfl rfl rfl (by decide +kernel) ⟨Nat.le_of_ble_eq_true rfl, Nat.le_of_ble_eq_true rfl⟩) (ci := 8) rfl ho rfl hl.1 rfl (Nat.le_of_ble_eq_true rfl) dX0_wholeNear_46 ⟨Nat.le_of_ble_eq_true rfl, Nat.le_of_ble_eq_true rfl⟩ (fun r34 M33 H locs hw h => ?_)
      refine lv_if_ne (tgt := 56) hx hb dX0_wholeNear_49 (by decide) (fun hc => ?_) (fun hc => ?_)
      · have h := h.1 hc
        exact sX0_wholeNear_56 S hr hlocks hK  a0 a1 _ h _ _ _ hw (lv_sub hl [1, 2] rfl)
      · have h := h.2 hc
        refine lv_iconst (v := (1 : Int32)) hx hb dX0_wholeNear_52 (by decide) ?_
        refine lv_goto (tgt := 57) hx hb dX0_wholeNear_53 (by decide) ?_
        exact sX0_wholeNear_57 S hr hlocks hK  a0 a1 (1 : Int32) _ h _ _ _ hw (lv_sub hl [1, 2] rfl)
set_option maxHeartbeats 4000000 in
set_option maxRecDepth 100000 in
theorem kX0_orderOf (l : Launch) (lo : Nat) (g : zg) (M : zm_M) (a0 : Nat) (a1 : Nat) (a2 : Nat) (post : Int32 → zm_M → Prop) (h : pX0_orderOf g.2 a0 a1 a2 post M) : Met l yX0_orderOf (Cond.code yX0_orderOf cX0_orderOf 3 (some .int) :: zU) (({ frames := 4, cells := 0, slots := 0, locals := 116 } : Room)) (zc_P zNF zNM lo g M [.ref a0, .ref a1, .ref a2]) (va_Qi post (zc_B lo g) (zA lo)) 0 0 (zA lo) := by
  refine Met.ofW (cc := cX0_orderOf) (maxL := 3) (ret := (some .int)) (by decide) rfl ?_
  intro p e s m args below meth c s₁ B hml hv
  obtain ⟨rfl, hR, hK⟩ := hv
  have hts := atoms_spec (ws := Cond.code yX0_orderOf cX0_orderOf 3 (some .int) :: zU) B.pre
  have hts : ∀ w ∈ zU, w.before _ s = true := fun w hw => hts w (List.mem_cons_of_mem _ hw)
  have hown : s.vm.findClass RX0 = some m.cls := findClass_of_methodNamed B.named
  have hx := B.exec
  have hb := B.bytes
  have hr := B.returns
  have hlocks := B.notSynchronized
  have S : CallFix p m c cX0_orderOf 3 s ([.ref a0, .ref a1, .ref a2] : List Value).toArray zU RX0 := ⟨hx, hb, hml, hown, hts⟩
  have hw : zW lo g s s.heap [] M := ⟨hR, va_S.rf⟩
  have hl := lv_entry ([.ref a0, .ref a1, .ref a2]) (n := 3) (Nat.le_of_ble_eq_true rfl)
  rw [lg_entry_eq]
  generalize (lg_sl ([.ref a0, .ref a1, .ref a2]) ++ List.replicate (3 - (lg_sl ([.ref a0, .ref a1, .ref a2])).length) Slot.unset).toArray = ls at hl ⊢
  have hl : lv_has ls 3 [(0, .ref a0), (1, .ref a1), (2, .ref a2)] := hl
  unfold pX0_orderOf at h
  refine lv_aload_n hx hb dX0_orderOf_0 rfl (lv_at hl 1 rfl) ?_
  refine zr_giN (C := RX2) (T := TX2) (N := 3) (ci := 5) (k := 0) (host := "LeastTerms") S hK hw zi_X2 rfl (by decide) (by decide +kernel) dX0_orderOf_1 h (fun sign_1 h => ?_)
  refine lv_aload_n hx hb dX0_orderOf_4 rfl (lv_at hl 2 rfl) ?_
  refine zr_giN (C := RX2) (T := TX2) (N := 3) (ci := 5) (k := 0) (host := "LeastTerms") S hK hw zi_X2 rfl (by decide) (by decide +kernel) dX0_orderOf_5 h (fun sign_2 h => ?_)
  refine lv_icmp_eq (tgt := 28) hx hb dX0_orderOf_8 (by decide) (fun hc => ?_) (fun hc => ?_)
  · have h := h.1 hc
    refine lv_aload_n hx hb dX0_orderOf_28 rfl (lv_at hl 0 rfl) ?_
    refine zr_ga (C := RX0) (T := TX0) (N := 5) (ci := 3) (k := 1) S hK hw zi_X0 rfl (by decide) zu_66 dX0_orderOf_29 h (fun left_3 h => ?_)
    refine lv_aload_n hx hb dX0_orderOf_32 rfl (lv_at hl 1 rfl) ?_
    refine zr_gaN (C := RX2) (T := TX2) (N := 3) (ci := 5) (k := 1) (host := "LeastTerms") S hK hw zi_X2 rfl (by decide) (by decide +kernel) dX0_orderOf_33 h (fun top_4 h => ?_)
    refine lv_aload_n hx hb dX0_orderOf_36 rfl (lv_at hl 2 rfl) ?_
    refine zr_gaN (C := RX2) (T := TX2) (N := 3) (ci := 5) (k := 2) (host := "LeastTerms") S hK hw zi_X2 rfl (by decide) (by decide +kernel) dX0_orderOf_37 h (fun bottom_5 h => ?_)
    obtain ⟨ho, h⟩ := h
    refine zr_Vv (As := [.ref top_4, .ref bottom_5]) (rest := []) S hK hw (kX5_multiply l lo g M left_3 top_4 bottom_5 _ h) (cwV 2 hts (zg_V zu_120 zu_121 zu_122 zu_12 zu_123) rfl rfl rfl (by decide +kernel) ⟨Nat.le_of_ble_eq_true rfl, Nat.le_of_ble_eq_true rfl⟩) (ci := 8) rfl ho rfl hl.1 rfl (Nat.le_of_ble_eq_true rfl) dX0_orderOf_40 ⟨Nat.le_of_ble_eq_true rfl, Nat.le_of_ble_eq_true rfl⟩ (fun M6 H locs hw h => ?_)
    refine lv_aload_n hx hb dX0_orderOf_43 rfl (lv_at hl 0 rfl) ?_
    refine zr_ga (C := RX0) (T := TX0) (N := 5) (ci := 3) (k := 2) S hK hw zi_X0 rfl (by decide) zu_67 dX0_orderOf_44 h (fun right_7 h => ?_)
    refine lv_aload_n hx hb dX0_orderOf_47 rfl (lv_at hl 2 rfl) ?_
    refine zr_gaN (C := RX2) (T := TX2) (N := 3) (ci := 5) (k := 1) (host := "LeastTerms") S hK hw zi_X2 rfl (by decide) (by decide +kernel) dX0_orderOf_48 h (fun top_8 h => ?_)
    refine lv_aload_n hx hb dX0_orderOf_51 rfl (lv_at hl 1 rfl) ?_
    refine zr_gaN (C := RX2) (T := TX2) (N := 3) (ci := 5) (k := 2) (host := "LeastTerms") S hK hw zi_X2 rfl (by decide) (by decide +kernel) dX0_orderOf_52 h (fun bottom_9 h => ?_)
    obtain ⟨ho, h⟩ := h
    refine zr_Vv (As := [.ref top_8, .ref bottom_9]) (rest := []) S hK hw (kX5_multiply l lo g M6 right_7 top_8 bottom_9 _ h) (cwV 2 hts (zg_V zu_120 zu_121 zu_122 zu_12 zu_123) rfl rfl rfl (by decide +kernel) ⟨Nat.le_of_ble_eq_true rfl, Nat.le_of_ble_eq_true rfl⟩) (ci := 8) rfl ho rfl hl.1 rfl (Nat.le_of_ble_eq_true rfl) dX0_orderOf_55 ⟨Nat.le_of_ble_eq_true rfl, Nat.le_of_ble_eq_true rfl⟩ (fun M10 H locs hw h => ?_)
    refine lv_aload_n hx hb dX0_orderOf_58 rfl (lv_at hl 1 rfl) ?_
    refine zr_giN (C := RX2) (T := TX2) (N := 3) (ci := 5) (k := 0) (host := "LeastTerms") S hK hw zi_X2 rfl (by decide) (by decide +kernel) dX0_orderOf_59 h (fun sign_11 h => ?_)
    refine lv_aload_n hx hb dX0_orderOf_62 rfl (lv_at hl 0 rfl) ?_
    refine zr_ga (C := RX0) (T := TX0) (N := 5) (ci := 3) (k := 1) S hK hw zi_X0 rfl (by decide) zu_66 dX0_orderOf_63 h (fun left_12 h => ?_)
    refine lv_aload_n hx hb dX0_orderOf_66 rfl (lv_at hl 0 rfl) ?_
    refine zr_ga (C := RX0) (T := TX0) (N := 5) (ci := 3) (k := 2) S hK hw zi_X0 rfl (by decide) zu_67 dX0_orderOf_67 h (fun right_13 h => ?_)
    obtain ⟨ho, h⟩ := h
    refine zr_Vi (As := [.ref right_13]) (rest := [.int sign_11]) S hK hw (kX5_order l lo g M10 left_12 right_13 _ h) (cwV 1 hts (zg_V zu_149 zu_44 zu_45 zu_12 zu_46) rfl rfl rfl (by decide +kernel) ⟨Nat.le_of_ble_eq_true rfl, Nat.le_of_ble_eq_true rfl⟩) (ci := 8) rfl ho rfl hl.1 rfl (Nat.le_of_ble_eq_true rfl) dX0_orderOf_70 ⟨Nat.le_of_ble_eq_true rfl, Nat.le_of_ble_eq_true rfl⟩ (fun r15 M14 H locs hw h => ?_)
    refine lv_imul hx hb dX0_orderOf_73 ?_
    exact zr_ri S hr hlocks hw h dX0_orderOf_74
  · have h := h.2 hc
    refine lv_aload_n hx hb dX0_orderOf_11 rfl (lv_at hl 1 rfl) ?_
    refine zr_giN (C := RX2) (T := TX2) (N := 3) (ci := 5) (k := 0) (host := "LeastTerms") S hK hw zi_X2 rfl (by decide) (by decide +kernel) dX0_orderOf_12 h (fun sign_16 h => ?_)
    refine lv_aload_n hx hb dX0_orderOf_15 rfl (lv_at hl 2 rfl) ?_
    refine zr_giN (C := RX2) (T := TX2) (N := 3) (ci := 5) (k := 0) (host := "LeastTerms") S hK hw zi_X2 rfl (by decide) (by decide +kernel) dX0_orderOf_16 h (fun sign_17 h => ?_)
    refine lv_icmp_ge (tgt := 26) hx hb dX0_orderOf_19 (by decide) (fun hc => ?_) (fun hc => ?_)
    · have h := h.1 hc
      refine lv_iconst (v := (1 : Int32)) hx hb dX0_orderOf_26 (by decide) ?_
      exact zr_ri S hr hlocks hw h dX0_orderOf_27
    · have h := h.2 hc
      refine lv_iconst (v := (-1 : Int32)) hx hb dX0_orderOf_22 (by decide) ?_
      refine lv_goto (tgt := 27) hx hb dX0_orderOf_23 (by decide) ?_
      exact zr_ri S hr hlocks hw h dX0_orderOf_27
set_option maxHeartbeats 4000000 in
set_option maxRecDepth 100000 in
theorem kX0_scale (l : Launch) (lo : Nat) (g : zg) (M : zm_M) (a0 : Nat) (a1 : Nat) (a2 : Int32) (post : zm_M → Prop) (h : pX0_scale g.2 a0 a1 a2 post M) : Met l yX0_scale (Cond.code yX0_scale cX0_scale 3 none :: zU) (({ frames := 3, cells := 0, slots := 0, locals := 88 } : Room)) (zc_P zNF zNM lo g M [.ref a0, .ref a1, .int a2]) (va_Qv post (zc_B lo g) (zA lo)) 0 0 (zA lo) := by
  refine Met.ofW (cc := cX0_scale) (maxL := 3) (ret := none) (by decide) rfl ?_
  intro p e s m args below meth c s₁ B hml hv
  obtain ⟨rfl, hR, hK⟩ := hv
  have hts := atoms_spec (ws := Cond.code yX0_scale cX0_scale 3 none :: zU) B.pre
  have hts : ∀ w ∈ zU, w.before _ s = true := fun w hw => hts w (List.mem_cons_of_mem _ hw)
  have hown : s.vm.findClass RX0 = some m.cls := findClass_of_methodNamed B.named
  have hx := B.exec
  have hb := B.bytes
  have hr := B.returns
  have hlocks := B.notSynchronized
  have S : CallFix p m c cX0_scale 3 s ([.ref a0, .ref a1, .int a2] : List Value).toArray zU RX0 := ⟨hx, hb, hml, hown, hts⟩
  have hw : zW lo g s s.heap [] M := ⟨hR, va_S.rf⟩
  have hl := lv_entry ([.ref a0, .ref a1, .int a2]) (n := 3) (Nat.le_of_ble_eq_true rfl)
  rw [lg_entry_eq]
  generalize (lg_sl ([.ref a0, .ref a1, .int a2]) ++ List.replicate (3 - (lg_sl ([.ref a0, .ref a1, .int a2])).length) Slot.unset).toArray = ls at hl ⊢
  have hl : lv_has ls 3 [(0, .ref a0), (1, .ref a1), (2, .int a2)] := hl
  unfold pX0_scale at h
  refine lv_aload_n hx hb dX0_scale_0 rfl (lv_at hl 0 rfl) ?_
  refine zr_ga (C := RX0) (T := TX0) (N := 5) (ci := 3) (k := 1) S hK hw zi_X0 rfl (by decide) zu_66 dX0_scale_1 h (fun left_1 h => ?_)
  refine lv_aload_n hx hb dX0_scale_4 rfl (lv_at hl 1 rfl) ?_
  refine zr_gaN (C := RX2) (T := TX2) (N := 3) (ci := 5) (k := 1) (host := "LeastTerms") S hK hw zi_X2 rfl (by decide) (by decide +kernel) dX0_scale_5 h (fun top_2 h => ?_)
  obtain ⟨ho, h⟩ := h
  refine zr_Vv (As := [.ref top_2]) (rest := []) S hK hw (kX5_copy l lo g M left_1 top_2 _ h) (cwV 1 hts (zg_V zu_68 zu_69 zu_70 zu_12 zu_71) rfl rfl rfl (by decide +kernel) ⟨Nat.le_of_ble_eq_true rfl, Nat.le_of_ble_eq_true rfl⟩) (ci := 8) rfl ho rfl hl.1 rfl (Nat.le_of_ble_eq_true rfl) dX0_scale_8 ⟨Nat.le_of_ble_eq_true rfl, Nat.le_of_ble_eq_true rfl⟩ (fun M3 H locs hw h => ?_)
  refine lv_aload_n hx hb dX0_scale_11 rfl (lv_at hl 0 rfl) ?_
  refine zr_ga (C := RX0) (T := TX0) (N := 5) (ci := 3) (k := 2) S hK hw zi_X0 rfl (by decide) zu_67 dX0_scale_12 h (fun right_4 h => ?_)
  refine lv_aload_n hx hb dX0_scale_15 rfl (lv_at hl 1 rfl) ?_
  refine zr_gaN (C := RX2) (T := TX2) (N := 3) (ci := 5) (k := 2) (host := "LeastTerms") S hK hw zi_X2 rfl (by decide) (by decide +kernel) dX0_scale_16 h (fun bottom_5 h => ?_)
  obtain ⟨ho, h⟩ := h
  refine zr_Vv (As := [.ref bottom_5]) (rest := []) S hK hw (kX5_copy l lo g M3 right_4 bottom_5 _ h) (cwV 1 hts (zg_V zu_68 zu_69 zu_70 zu_12 zu_71) rfl rfl rfl (by decide +kernel) ⟨Nat.le_of_ble_eq_true rfl, Nat.le_of_ble_eq_true rfl⟩) (ci := 8) rfl ho rfl hl.1 rfl (Nat.le_of_ble_eq_true rfl) dX0_scale_19 ⟨Nat.le_of_ble_eq_true rfl, Nat.le_of_ble_eq_true rfl⟩ (fun M6 H locs hw h => ?_)
  refine lv_aload_n hx hb dX0_scale_22 rfl (lv_at hl 0 rfl) ?_
  refine zr_ga (C := RX0) (T := TX0) (N := 5) (ci := 3) (k := 1) S hK hw zi_X0 rfl (by decide) zu_66 dX0_scale_23 h (fun left_7 h => ?_)
  refine lv_iload_n hx hb dX0_scale_26 rfl (lv_at hl 2 rfl) ?_
  refine lv_ineg hx hb dX0_scale_27 ?_
  obtain ⟨ho, h⟩ := h
  refine zr_Vv (As := [.int (-a2)]) (rest := []) S hK hw (kX5_shiftLeft l lo g M6 left_7 (-a2) _ h) (cwV 1 hts (zg_V zu_145 zu_146 zu_147 zu_12 zu_148) rfl rfl rfl (by decide +kernel) ⟨Nat.le_of_ble_eq_true rfl, Nat.le_of_ble_eq_true rfl⟩) (ci := 8) rfl ho rfl hl.1 rfl (Nat.le_of_ble_eq_true rfl) dX0_scale_28 ⟨Nat.le_of_ble_eq_true rfl, Nat.le_of_ble_eq_true rfl⟩ (fun M8 H locs hw h => ?_)
  refine lv_aload_n hx hb dX0_scale_31 rfl (lv_at hl 0 rfl) ?_
  refine zr_ga (C := RX0) (T := TX0) (N := 5) (ci := 3) (k := 2) S hK hw zi_X0 rfl (by decide) zu_67 dX0_scale_32 h (fun right_9 h => ?_)
  refine lv_iload_n hx hb dX0_scale_35 rfl (lv_at hl 2 rfl) ?_
  obtain ⟨ho, h⟩ := h
  refine zr_Vv (As := [.int a2]) (rest := []) S hK hw (kX5_shiftLeft l lo g M8 right_9 a2 _ h) (cwV 1 hts (zg_V zu_145 zu_146 zu_147 zu_12 zu_148) rfl rfl rfl (by decide +kernel) ⟨Nat.le_of_ble_eq_true rfl, Nat.le_of_ble_eq_true rfl⟩) (ci := 8) rfl ho rfl hl.1 rfl (Nat.le_of_ble_eq_true rfl) dX0_scale_36 ⟨Nat.le_of_ble_eq_true rfl, Nat.le_of_ble_eq_true rfl⟩ (fun M10 H locs hw h => ?_)
  exact zr_rv S hr hlocks hw h dX0_scale_39
set_option maxHeartbeats 4000000 in
set_option maxRecDepth 100000 in
theorem kX5_low (l : Launch) (lo : Nat) (g : zg) (M : zm_M) (a0 : Nat) (post : Int64 → zm_M → Prop) (h : pX5_low g.2 a0 post M) : Met l yX5_low (Cond.code yX5_low cX5_low 1 (some .long) :: zU) (({ frames := 2, cells := 0, slots := 0, locals := 61 } : Room)) (zc_P zNF zNM lo g M [.ref a0]) (va_Ql post (zc_B lo g) (zA lo)) 0 0 (zA lo) := by
  refine Met.ofW (cc := cX5_low) (maxL := 1) (ret := (some .long)) (by decide) rfl ?_
  intro p e s m args below meth c s₁ B hml hv
  obtain ⟨rfl, hR, hK⟩ := hv
  have hts := atoms_spec (ws := Cond.code yX5_low cX5_low 1 (some .long) :: zU) B.pre
  have hts : ∀ w ∈ zU, w.before _ s = true := fun w hw => hts w (List.mem_cons_of_mem _ hw)
  have hown : s.vm.findClass RX5 = some m.cls := findClass_of_methodNamed B.named
  have hx := B.exec
  have hb := B.bytes
  have hr := B.returns
  have hlocks := B.notSynchronized
  have S : CallFix p m c cX5_low 1 s ([.ref a0] : List Value).toArray zU RX5 := ⟨hx, hb, hml, hown, hts⟩
  have hw : zW lo g s s.heap [] M := ⟨hR, va_S.rf⟩
  have hl := lv_entry ([.ref a0]) (n := 1) (Nat.le_of_ble_eq_true rfl)
  rw [lg_entry_eq]
  generalize (lg_sl ([.ref a0]) ++ List.replicate (1 - (lg_sl ([.ref a0])).length) Slot.unset).toArray = ls at hl ⊢
  have hl : lv_has ls 1 [(0, .ref a0)] := hl
  unfold pX5_low at h
  refine lv_aload_n hx hb dX5_low_0 rfl (lv_at hl 0 rfl) ?_
  refine lv_iconst (v := (1 : Int32)) hx hb dX5_low_1 (by decide) ?_
  obtain ⟨ho, h⟩ := h
  refine zr_Vl (As := [.int (1 : Int32)]) (rest := []) S hK hw (kX5_limbAt l lo g M a0 (1 : Int32) _ h) (cwV 1 hts (zg_V zu_26 zu_27 zu_28 zu_12 zu_29) rfl rfl rfl (by decide +kernel) ⟨Nat.le_of_ble_eq_true rfl, Nat.le_of_ble_eq_true rfl⟩) (ci := 8) rfl ho rfl hl.1 rfl (Nat.le_of_ble_eq_true rfl) dX5_low_2 ⟨Nat.le_of_ble_eq_true rfl, Nat.le_of_ble_eq_true rfl⟩ (fun r2 M1 H locs hw h => ?_)
  refine lv_bipush (v := (32 : Int32)) hx hb dX5_low_5 (by decide) ?_
  refine lv_lshl hx hb dX5_low_7 rfl ?_
  refine lv_aload_n hx hb dX5_low_8 rfl (lv_at hl 0 rfl) ?_
  refine lv_iconst (v := (0 : Int32)) hx hb dX5_low_9 (by decide) ?_
  obtain ⟨ho, h⟩ := h
  refine zr_Vl (As := [.int (0 : Int32)]) (rest := [.long (r2 <<< ((32 : Int32).toInt64 &&& 63))]) S hK hw (kX5_limbAt l lo g M1 a0 (0 : Int32) _ h) (cwV 1 hts (zg_V zu_26 zu_27 zu_28 zu_12 zu_29) rfl rfl rfl (by decide +kernel) ⟨Nat.le_of_ble_eq_true rfl, Nat.le_of_ble_eq_true rfl⟩) (ci := 8) rfl ho rfl hl.1 rfl (Nat.le_of_ble_eq_true rfl) dX5_low_10 ⟨Nat.le_of_ble_eq_true rfl, Nat.le_of_ble_eq_true rfl⟩ (fun r4 M3 H locs hw h => ?_)
  refine lv_lor hx hb dX5_low_13 ?_
  exact zr_rl S hr hlocks hw h dX5_low_14
set_option maxHeartbeats 4000000 in
set_option maxRecDepth 100000 in
theorem sX0_nearestBits_130 {p : Program} {l : Launch} {e : Env} {s : State} {m : MethodId} {args : Array Value} {below : List Frame} {meth : Method} {c : Code} {lo : Nat} {g : zg} {post : Int64 → zm_M → Prop}  (S : CallFix p m c cX0_nearestBits 10 s args zU RX0) (hr : meth.sig.returnType = (some .long)) (hlocks : meth.locks = false) (hK : zk_K zNF zNM g s)  : ∀ (v4 : Int64) (v8 : Int64) (M : zm_M), pX0_nearestBits_130 g.2 post  v4 v8 M → ∀ (H : Heap) (locs : List Loc) (ls : Array Slot), zW lo g s H locs M → lv_has ls 10 [(4, .long v4), (8, .long v8)] → W p l e ({ frames := 4, cells := 0, slots := 0, locals := 129 } : Room) s m args below meth c H locs 0 0 (MQ below (va_Ql post (zc_B lo g) (zA lo)) args s 0 0 (zA lo)) (F0 m 130 ls []) := by
  obtain ⟨hx, hb, hml, hown, hts⟩ := id S
  intro v4 v8 M h H locs ls hw hl
  unfold pX0_nearestBits_130 at h
  refine lv_lload hx hb dX0_nearestBits_130 (lv_at hl 1 rfl) ?_
  refine lv_lload hx hb dX0_nearestBits_132 (lv_at hl 0 rfl) ?_
  refine zr_minl S hl.1 zu_170 zu_171 zu_4 zu_172 (Nat.le_of_ble_eq_true rfl) (Nat.le_of_ble_eq_true rfl) (Nat.zero_le _) (Nat.zero_le _) dX0_nearestBits_134 ?_
  exact zr_rl S hr hlocks hw h dX0_nearestBits_137
set_option maxHeartbeats 4000000 in
set_option maxRecDepth 100000 in
theorem sX0_nearestBits_50 {p : Program} {l : Launch} {e : Env} {s : State} {m : MethodId} {args : Array Value} {below : List Frame} {meth : Method} {c : Code} {lo : Nat} {g : zg} {post : Int64 → zm_M → Prop}  (S : CallFix p m c cX0_nearestBits 10 s args zU RX0) (hr : meth.sig.returnType = (some .long)) (hlocks : meth.locks = false) (hK : zk_K zNF zNM g s)  : ∀ (v0 : Nat) (v1 : Nat) (v2 : Int32) (v3 : Int32) (v4 : Int64) (v6 : Int32) (M : zm_M), pX0_nearestBits_50 g.2 post  v0 v1 v2 v3 v4 v6 M → ∀ (H : Heap) (locs : List Loc) (ls : Array Slot), zW lo g s H locs M → lv_has ls 10 [(0, .ref v0), (1, .ref v1), (2, .int v2), (3, .int v3), (4, .long v4), (6, .int v6)] → W p l e ({ frames := 4, cells := 0, slots := 0, locals := 129 } : Room) s m args below meth c H locs 0 0 (MQ below (va_Ql post (zc_B lo g) (zA lo)) args s 0 0 (zA lo)) (F0 m 50 ls []) := by
  obtain ⟨hx, hb, hml, hown, hts⟩ := id S
  intro v0 v1 v2 v3 v4 v6 M h H locs ls hw hl
  unfold pX0_nearestBits_50 at h
  refine lv_iload hx hb dX0_nearestBits_50 (lv_at hl 5 rfl) ?_
  refine lv_iload_n hx hb dX0_nearestBits_52 rfl (lv_at hl 2 rfl) ?_
  refine lv_isub hx hb dX0_nearestBits_53 ?_
  refine lv_iconst (v := (1 : Int32)) hx hb dX0_nearestBits_54 (by decide) ?_
  refine lv_iadd hx hb dX0_nearestBits_55 ?_
  refine lv_iload_n hx hb dX0_nearestBits_56 rfl (lv_at hl 3 rfl) ?_
  refine zr_max S hl.1 zu_165 zu_7 zu_4 zu_8 (Nat.le_of_ble_eq_true rfl) (Nat.le_of_ble_eq_true rfl) (Nat.zero_le _) (Nat.zero_le _) dX0_nearestBits_57 ?_
  refine lv_topi (fun x14 ex14 => ?_)
  have h := h x14 ex14
  refine lv_istore (lv' := [(7, .int x14), (0, .ref v0), (1, .ref v1), (2, .int v2), (3, .int v3), (4, .long v4), (6, .int v6)]) hx hb dX0_nearestBits_60 hl (by decide) rfl (fun ls hl => ?_)
  refine lv_aload_n hx hb dX0_nearestBits_62 rfl (lv_at hl 1 rfl) ?_
  refine lv_aload_n hx hb dX0_nearestBits_63 rfl (lv_at hl 2 rfl) ?_
  refine lv_iload hx hb dX0_nearestBits_64 (lv_at hl 0 rfl) ?_
  obtain ⟨ho, h⟩ := h
  refine zr_Vv (As := [.ref v1, .int x14]) (rest := []) S hK hw (kX0_scale l lo g M v0 v1 x14 _ h) (cwV 2 hts (zg_V zu_161 zu_162 zu_163 zu_90 zu_164) rfl rfl rfl (by decide +kernel) ⟨Nat.le_of_ble_eq_true rfl, Nat.le_of_ble_eq_true rfl⟩) (ci := 3) rfl ho rfl hl.1 rfl (Nat.le_of_ble_eq_true rfl) dX0_nearestBits_66 ⟨Nat.le_of_ble_eq_true rfl, Nat.le_of_ble_eq_true rfl⟩ (fun M15 H locs hw h => ?_)
  refine lv_aload_n hx hb dX0_nearestBits_69 rfl (lv_at hl 1 rfl) ?_
  refine zr_ga (C := RX0) (T := TX0) (N := 5) (ci := 3) (k := 1) S hK hw zi_X0 rfl (by decide) zu_66 dX0_nearestBits_70 h (fun left_16 h => ?_)
  refine lv_aload_n hx hb dX0_nearestBits_73 rfl (lv_at hl 1 rfl) ?_
  refine zr_ga (C := RX0) (T := TX0) (N := 5) (ci := 3) (k := 2) S hK hw zi_X0 rfl (by decide) zu_67 dX0_nearestBits_74 h (fun right_17 h => ?_)
  refine lv_aload_n hx hb dX0_nearestBits_77 rfl (lv_at hl 1 rfl) ?_
  refine zr_ga (C := RX0) (T := TX0) (N := 5) (ci := 3) (k := 3) S hK hw zi_X0 rfl (by decide) zu_76 dX0_nearestBits_78 h (fun quotient_18 h => ?_)
  obtain ⟨ho, h⟩ := h
  refine zr_Vv (As := [.ref right_17, .ref quotient_18]) (rest := []) S hK hw (kX5_divide l lo g M15 left_16 right_17 quotient_18 _ h) (cwV 2 hts (zg_V zu_77 zu_78 zu_79 zu_12 zu_80) rfl rfl rfl (by decide +kernel) ⟨Nat.le_of_ble_eq_true rfl, Nat.le_of_ble_eq_true rfl⟩) (ci := 8) rfl ho rfl hl.1 rfl (Nat.le_of_ble_eq_true rfl) dX0_nearestBits_81 ⟨Nat.le_of_ble_eq_true rfl, Nat.le_of_ble_eq_true rfl⟩ (fun M19 H locs hw h => ?_)
  refine lv_iload hx hb dX0_nearestBits_84 (lv_at hl 0 rfl) ?_
  refine lv_iload_n hx hb dX0_nearestBits_86 rfl (lv_at hl 4 rfl) ?_
  refine lv_isub hx hb dX0_nearestBits_87 ?_
  refine lv_i2l hx hb dX0_nearestBits_88 rfl ?_
  refine lv_iload_n hx hb dX0_nearestBits_89 rfl (lv_at hl 3 rfl) ?_
  refine lv_iconst (v := (1 : Int32)) hx hb dX0_nearestBits_90 (by decide) ?_
  refine lv_isub hx hb dX0_nearestBits_91 ?_
  refine lv_lshl hx hb dX0_nearestBits_92 rfl ?_
  refine lv_aload_n hx hb dX0_nearestBits_93 rfl (lv_at hl 1 rfl) ?_
  refine zr_ga (C := RX0) (T := TX0) (N := 5) (ci := 3) (k := 3) S hK hw zi_X0 rfl (by decide) zu_76 dX0_nearestBits_94 h (fun quotient_20 h => ?_)
  obtain ⟨ho, h⟩ := h
  refine zr_Vl (As := []) (rest := [.long (((x14 - v3).toInt64) <<< ((v2 - (1 : Int32)).toInt64 &&& 63))]) S hK hw (kX5_low l lo g M19 quotient_20  _ h) (cwV 0 hts (zg_V zu_166 zu_167 zu_168 zu_12 zu_169) rfl rfl rfl (by decide +kernel) ⟨Nat.le_of_ble_eq_true rfl, Nat.le_of_ble_eq_true rfl⟩) (ci := 8) rfl ho rfl hl.1 rfl (Nat.le_of_ble_eq_true rfl) dX0_nearestBits_97 ⟨Nat.le_of_ble_eq_true rfl, Nat.le_of_ble_eq_true rfl⟩ (fun r22 M21 H locs hw h => ?_)
  refine lv_ladd hx hb dX0_nearestBits_100 ?_
  refine lv_topl (fun x23 ex23 => ?_)
  have h := h x23 ex23
  refine lv_lstore (lv' := [(8, .long x23), (7, .int x14), (0, .ref v0), (1, .ref v1), (2, .int v2), (3, .int v3), (4, .long v4), (6, .int v6)]) hx hb dX0_nearestBits_101 hl (by decide) rfl (fun ls hl => ?_)
  refine lv_aload_n hx hb dX0_nearestBits_103 rfl (lv_at hl 2 rfl) ?_
  refine zr_ga (C := RX0) (T := TX0) (N := 5) (ci := 3) (k := 1) S hK hw zi_X0 rfl (by decide) zu_66 dX0_nearestBits_104 h (fun left_24 h => ?_)
  refine lv_aload_n hx hb dX0_nearestBits_107 rfl (lv_at hl 2 rfl) ?_
  refine zr_ga (C := RX0) (T := TX0) (N := 5) (ci := 3) (k := 2) S hK hw zi_X0 rfl (by decide) zu_67 dX0_nearestBits_108 h (fun right_25 h => ?_)
  refine lv_aload_n hx hb dX0_nearestBits_111 rfl (lv_at hl 2 rfl) ?_
  refine zr_ga (C := RX0) (T := TX0) (N := 5) (ci := 3) (k := 3) S hK hw zi_X0 rfl (by decide) zu_76 dX0_nearestBits_112 h (fun quotient_26 h => ?_)
  obtain ⟨ho, h⟩ := h
  refine zr_Vi (As := []) (rest := [.ref right_25, .ref left_24]) S hK hw (kX5_isOdd l lo g M21 quotient_26  _ h) (cwV 0 hts (zg_V zu_154 zu_155 zu_156 zu_12 zu_157) rfl rfl rfl (by decide +kernel) ⟨Nat.le_of_ble_eq_true rfl, Nat.le_of_ble_eq_true rfl⟩) (ci := 8) rfl ho rfl hl.1 rfl (Nat.le_of_ble_eq_true rfl) dX0_nearestBits_115 ⟨Nat.le_of_ble_eq_true rfl, Nat.le_of_ble_eq_true rfl⟩ (fun r28 M27 H locs hw h => ?_)
  refine zr_Si (As := [.ref left_24, .ref right_25, .int r28]) (rest := []) S hK hw (kX0_isRoundedUp l lo g M27 left_24 right_25 r28 _ h) (va_cwS 3 hts (zg_S zu_158 zu_159 zu_90 zu_160) rfl rfl rfl (by decide +kernel) ⟨Nat.le_of_ble_eq_true rfl, Nat.le_of_ble_eq_true rfl⟩) rfl hl.1 rfl (Nat.le_of_ble_eq_true rfl) dX0_nearestBits_118 ⟨Nat.le_of_ble_eq_true rfl, Nat.le_of_ble_eq_true rfl⟩ (fun r30 M29 H locs hw h => ?_)
  refine lv_if_eq (tgt := 130) hx hb dX0_nearestBits_121 (by decide) (fun hc => ?_) (fun hc => ?_)
  · have h := h.1 hc
    exact sX0_nearestBits_130 S hr hlocks hK  v4 x23 _ h _ _ _ hw (lv_sub hl [6, 0] rfl)
  · have h := h.2 hc
    refine lv_lload hx hb dX0_nearestBits_124 (lv_at hl 0 rfl) ?_
    refine lv_lconst (v := (1 : Int64)) hx hb dX0_nearestBits_126 (by decide) ?_
    refine lv_ladd hx hb dX0_nearestBits_127 ?_
    refine lv_topl (fun x31 ex31 => ?_)
    have h := h x31 ex31
    refine lv_lstore (lv' := [(8, .long x31), (7, .int x14), (0, .ref v0), (1, .ref v1), (2, .int v2), (3, .int v3), (4, .long v4), (6, .int v6)]) hx hb dX0_nearestBits_128 hl (by decide) rfl (fun ls hl => ?_)
    exact sX0_nearestBits_130 S hr hlocks hK  v4 x31 _ h _ _ _ hw (lv_sub hl [6, 0] rfl)
set_option maxHeartbeats 4000000 in
set_option maxRecDepth 100000 in
theorem kX0_nearestBits (l : Launch) (lo : Nat) (g : zg) (M : zm_M) (a0 : Nat) (a1 : Nat) (a2 : Int32) (a3 : Int32) (a4 : Int64) (post : Int64 → zm_M → Prop) (h : pX0_nearestBits g.2 a0 a1 a2 a3 a4 post M) : Met l yX0_nearestBits (Cond.code yX0_nearestBits cX0_nearestBits 10 (some .long) :: zU) (({ frames := 4, cells := 0, slots := 0, locals := 129 } : Room)) (zc_P zNF zNM lo g M [.ref a0, .ref a1, .int a2, .int a3, .long a4]) (va_Ql post (zc_B lo g) (zA lo)) 0 0 (zA lo) := by
  refine Met.ofW (cc := cX0_nearestBits) (maxL := 10) (ret := (some .long)) (by decide) rfl ?_
  intro p e s m args below meth c s₁ B hml hv
  obtain ⟨rfl, hR, hK⟩ := hv
  have hts := atoms_spec (ws := Cond.code yX0_nearestBits cX0_nearestBits 10 (some .long) :: zU) B.pre
  have hts : ∀ w ∈ zU, w.before _ s = true := fun w hw => hts w (List.mem_cons_of_mem _ hw)
  have hown : s.vm.findClass RX0 = some m.cls := findClass_of_methodNamed B.named
  have hx := B.exec
  have hb := B.bytes
  have hr := B.returns
  have hlocks := B.notSynchronized
  have S : CallFix p m c cX0_nearestBits 10 s ([.ref a0, .ref a1, .int a2, .int a3, .long a4] : List Value).toArray zU RX0 := ⟨hx, hb, hml, hown, hts⟩
  have hw : zW lo g s s.heap [] M := ⟨hR, va_S.rf⟩
  have hl := lv_entry ([.ref a0, .ref a1, .int a2, .int a3, .long a4]) (n := 10) (Nat.le_of_ble_eq_true rfl)
  rw [lg_entry_eq]
  generalize (lg_sl ([.ref a0, .ref a1, .int a2, .int a3, .long a4]) ++ List.replicate (10 - (lg_sl ([.ref a0, .ref a1, .int a2, .int a3, .long a4])).length) Slot.unset).toArray = ls at hl ⊢
  have hl : lv_has ls 10 [(0, .ref a0), (1, .ref a1), (2, .int a2), (3, .int a3), (4, .long a4)] := hl
  unfold pX0_nearestBits at h
  refine lv_aload_n hx hb dX0_nearestBits_0 rfl (lv_at hl 1 rfl) ?_
  refine zr_giN (C := RX2) (T := TX2) (N := 3) (ci := 5) (k := 0) (host := "LeastTerms") S hK hw zi_X2 rfl (by decide) (by decide +kernel) dX0_nearestBits_1 h (fun sign_1 h => ?_)
  refine lv_if_ne (tgt := 9) hx hb dX0_nearestBits_4 (by decide) (fun hc => ?_) (fun hc => ?_)
  · have h := h.1 hc
    refine lv_aload_n hx hb dX0_nearestBits_9 rfl (lv_at hl 1 rfl) ?_
    refine zr_gaN (C := RX2) (T := TX2) (N := 3) (ci := 5) (k := 1) (host := "LeastTerms") S hK hw zi_X2 rfl (by decide) (by decide +kernel) dX0_nearestBits_10 h (fun top_2 h => ?_)
    obtain ⟨ho, h⟩ := h
    refine zr_Vi (As := []) (rest := []) S hK hw (kX5_bits l lo g M top_2  _ h) (cwV 0 hts (zg_V zu_129 zu_130 zu_131 zu_12 zu_132) rfl rfl rfl (by decide +kernel) ⟨Nat.le_of_ble_eq_true rfl, Nat.le_of_ble_eq_true rfl⟩) (ci := 8) rfl ho rfl hl.1 rfl (Nat.le_of_ble_eq_true rfl) dX0_nearestBits_13 ⟨Nat.le_of_ble_eq_true rfl, Nat.le_of_ble_eq_true rfl⟩ (fun r4 M3 H locs hw h => ?_)
    refine lv_aload_n hx hb dX0_nearestBits_16 rfl (lv_at hl 1 rfl) ?_
    refine zr_gaN (C := RX2) (T := TX2) (N := 3) (ci := 5) (k := 2) (host := "LeastTerms") S hK hw zi_X2 rfl (by decide) (by decide +kernel) dX0_nearestBits_17 h (fun bottom_5 h => ?_)
    obtain ⟨ho, h⟩ := h
    refine zr_Vi (As := []) (rest := [.int r4]) S hK hw (kX5_bits l lo g M3 bottom_5  _ h) (cwV 0 hts (zg_V zu_129 zu_130 zu_131 zu_12 zu_132) rfl rfl rfl (by decide +kernel) ⟨Nat.le_of_ble_eq_true rfl, Nat.le_of_ble_eq_true rfl⟩) (ci := 8) rfl ho rfl hl.1 rfl (Nat.le_of_ble_eq_true rfl) dX0_nearestBits_20 ⟨Nat.le_of_ble_eq_true rfl, Nat.le_of_ble_eq_true rfl⟩ (fun r7 M6 H locs hw h => ?_)
    refine lv_isub hx hb dX0_nearestBits_23 ?_
    refine lv_topi (fun x8 ex8 => ?_)
    have h := h x8 ex8
    refine lv_istore (lv' := [(6, .int x8), (0, .ref a0), (1, .ref a1), (2, .int a2), (3, .int a3), (4, .long a4)]) hx hb dX0_nearestBits_24 hl (by decide) rfl (fun ls hl => ?_)
    refine lv_aload_n hx hb dX0_nearestBits_26 rfl (lv_at hl 1 rfl) ?_
    refine lv_aload_n hx hb dX0_nearestBits_27 rfl (lv_at hl 2 rfl) ?_
    refine lv_iload hx hb dX0_nearestBits_28 (lv_at hl 0 rfl) ?_
    obtain ⟨ho, h⟩ := h
    refine zr_Vv (As := [.ref a1, .int x8]) (rest := []) S hK hw (kX0_scale l lo g M6 a0 a1 x8 _ h) (cwV 2 hts (zg_V zu_161 zu_162 zu_163 zu_90 zu_164) rfl rfl rfl (by decide +kernel) ⟨Nat.le_of_ble_eq_true rfl, Nat.le_of_ble_eq_true rfl⟩) (ci := 3) rfl ho rfl hl.1 rfl (Nat.le_of_ble_eq_true rfl) dX0_nearestBits_30 ⟨Nat.le_of_ble_eq_true rfl, Nat.le_of_ble_eq_true rfl⟩ (fun M9 H locs hw h => ?_)
    refine lv_aload_n hx hb dX0_nearestBits_33 rfl (lv_at hl 1 rfl) ?_
    refine zr_ga (C := RX0) (T := TX0) (N := 5) (ci := 3) (k := 1) S hK hw zi_X0 rfl (by decide) zu_66 dX0_nearestBits_34 h (fun left_10 h => ?_)
    refine lv_aload_n hx hb dX0_nearestBits_37 rfl (lv_at hl 1 rfl) ?_
    refine zr_ga (C := RX0) (T := TX0) (N := 5) (ci := 3) (k := 2) S hK hw zi_X0 rfl (by decide) zu_67 dX0_nearestBits_38 h (fun right_11 h => ?_)
    obtain ⟨ho, h⟩ := h
    refine zr_Vi (As := [.ref right_11]) (rest := []) S hK hw (kX5_order l lo g M9 left_10 right_11 _ h) (cwV 1 hts (zg_V zu_149 zu_44 zu_45 zu_12 zu_46) rfl rfl rfl (by decide +kernel) ⟨Nat.le_of_ble_eq_true rfl, Nat.le_of_ble_eq_true rfl⟩) (ci := 8) rfl ho rfl hl.1 rfl (Nat.le_of_ble_eq_true rfl) dX0_nearestBits_41 ⟨Nat.le_of_ble_eq_true rfl, Nat.le_of_ble_eq_true rfl⟩ (fun r13 M12 H locs hw h => ?_)
    refine lv_if_ge (tgt := 50) hx hb dX0_nearestBits_44 (by decide) (fun hc => ?_) (fun hc => ?_)
    · have h := h.1 hc
      exact sX0_nearestBits_50 S hr hlocks hK  a0 a1 a2 a3 a4 x8 _ h _ _ _ hw (lv_sub hl [1, 2, 3, 4, 5, 0] rfl)
    · have h := h.2 hc
      obtain ⟨x32, ex32⟩ : ∃ z : Int32, z = x8 + (-1 : Int32) := ⟨_, rfl⟩
      have h := h x32 ex32
      refine lv_iinc (v := x32) (lv' := [(6, .int x32), (0, .ref a0), (1, .ref a1), (2, .int a2), (3, .int a3), (4, .long a4)]) hx hb dX0_nearestBits_47 hl (k := 0) rfl (by rw [ex32]; rfl) (by decide) rfl (fun ls hl => ?_)
      exact sX0_nearestBits_50 S hr hlocks hK  a0 a1 a2 a3 a4 x32 _ h _ _ _ hw (lv_sub hl [1, 2, 3, 4, 5, 0] rfl)
  · have h := h.2 hc
    refine lv_lconst (v := (0 : Int64)) hx hb dX0_nearestBits_7 (by decide) ?_
    exact zr_rl S hr hlocks hw h dX0_nearestBits_8
