set_option maxHeartbeats 4000000 in
set_option maxRecDepth 100000 in
theorem sX7_less_56 {p : Program} {l : Launch} {e : Env} {s : State} {m : MethodId} {args : Array Value} {below : List Frame} {meth : Method} {c : Code} {lo : Nat} {g : zg} {post : zm_M → Prop} {k5 : Nat → Int32 → Int32 → Int64 → Int32 → zm_M → Prop} (S : CallFix p m c cX7_less 6 s args zU RX7) (hr : meth.sig.returnType = none) (hlocks : meth.locks = false) (hK : zk_K zNF zNM g s) (hk5 : ∀ (v0 : Nat) (v1 : Int32) (v2 : Int32) (v3 : Int64) (v5 : Int32) (M : zm_M), k5 v0 v1 v2 v3 v5 M → ∀ (H : Heap) (locs : List Loc) (ls : Array Slot), zW lo g s H locs M → lv_has ls 6 [(0, .ref v0), (1, .int v1), (2, .int v2), (3, .long v3), (5, .int v5)] → W p l e ({ frames := 2, cells := 0, slots := 0, locals := 61 } : Room) s m args below meth c H locs 0 0 (MQ below (va_Qv post (zc_B lo g) (zA lo)) args s 0 0 (zA lo)) (F0 m 5 ls [])) : ∀ (v0 : Nat) (v1 : Int32) (v2 : Int32) (v5 : Int32) (s0 : Int64) (s1 : Int64) (s2 : Int64) (M : zm_M), pX7_less_56 g.2 post k5 v0 v1 v2 v5 s0 s1 s2 M → ∀ (H : Heap) (locs : List Loc) (ls : Array Slot), zW lo g s H locs M → lv_has ls 6 [(0, .ref v0), (1, .int v1), (2, .int v2), (5, .int v5)] → W p l e ({ frames := 2, cells := 0, slots := 0, locals := 61 } : Room) s m args below meth c H locs 0 0 (MQ below (va_Qv post (zc_B lo g) (zA lo)) args s 0 0 (zA lo)) (F0 m 56 ls [.long s2, .long s1, .long s0]) := by
  obtain ⟨hx, hb, hml, hown, hts⟩ := id S
  intro v0 v1 v2 v5 s0 s1 s2 M h H locs ls hw hl
  unfold pX7_less_56 at h
  refine lv_lsub hx hb dX7_less_56 ?_
  refine lv_ladd hx hb dX7_less_57 ?_
  refine lv_topl (fun x9 ex9 => ?_)
  have h := h x9 ex9
  refine lv_lstore_n (lv' := [(3, .long x9), (0, .ref v0), (1, .int v1), (2, .int v2), (5, .int v5)]) hx hb dX7_less_58 rfl hl (by decide) rfl (fun ls hl => ?_)
  refine lv_aload_n hx hb dX7_less_59 rfl (lv_at hl 1 rfl) ?_
  refine zr_ga (C := RX7) (T := TX7) (N := 14) (ci := 10) (k := 9) S hK hw zi_X7 rfl (by decide) zu_445 dX7_less_60 h (fun g_10 h => ?_)
  refine lv_bipush (v := (72 : Int32)) hx hb dX7_less_63 (by decide) ?_
  refine lv_iload_n hx hb dX7_less_65 rfl (lv_at hl 2 rfl) ?_
  refine lv_imul hx hb dX7_less_66 ?_
  refine lv_iload hx hb dX7_less_67 (lv_at hl 4 rfl) ?_
  refine lv_iadd hx hb dX7_less_69 ?_
  refine lv_lload_n hx hb dX7_less_70 rfl (lv_at hl 0 rfl) ?_
  refine lv_ldc2 (v := (4294967295 : Int64)) hx hb hown (hts _ zu_446) dX7_less_71 ?_
  refine lv_land hx hb dX7_less_74 ?_
  refine zr_last S hK hw dX7_less_75 h (fun M11 H locs hw h => ?_)
  refine lv_lload_n hx hb dX7_less_76 rfl (lv_at hl 0 rfl) ?_
  refine lv_bipush (v := (32 : Int32)) hx hb dX7_less_77 (by decide) ?_
  refine lv_lshr hx hb dX7_less_79 rfl ?_
  refine lv_topl (fun x12 ex12 => ?_)
  have h := h x12 ex12
  refine lv_lstore_n (lv' := [(3, .long x12), (0, .ref v0), (1, .int v1), (2, .int v2), (5, .int v5)]) hx hb dX7_less_80 rfl hl (by decide) rfl (fun ls hl => ?_)
  obtain ⟨x13, ex13⟩ : ∃ z : Int32, z = v5 + (1 : Int32) := ⟨_, rfl⟩
  have h := h x13 ex13
  refine lv_iinc (v := x13) (lv' := [(5, .int x13), (3, .long x12), (0, .ref v0), (1, .int v1), (2, .int v2)]) hx hb dX7_less_81 hl (k := 4) rfl (by rw [ex13]; rfl) (by decide) rfl (fun ls hl => ?_)
  refine lv_goto (tgt := 5) hx hb dX7_less_84 (by decide) ?_
  exact hk5 v0 v1 v2 x12 x13 _ h _ _ _ hw (lv_sub hl [2, 3, 4, 1, 0] rfl)
set_option maxHeartbeats 4000000 in
set_option maxRecDepth 100000 in
theorem sX7_less_5 {p : Program} {l : Launch} {e : Env} {s : State} {m : MethodId} {args : Array Value} {below : List Frame} {meth : Method} {c : Code} {lo : Nat} {g : zg} {post : zm_M → Prop} {k87 : Nat → Int32 → zm_M → Prop} (S : CallFix p m c cX7_less 6 s args zU RX7) (hr : meth.sig.returnType = none) (hlocks : meth.locks = false) (hK : zk_K zNF zNM g s) (hk87 : ∀ (v0 : Nat) (v1 : Int32) (M : zm_M), k87 v0 v1 M → ∀ (H : Heap) (locs : List Loc) (ls : Array Slot), zW lo g s H locs M → lv_has ls 6 [(0, .ref v0), (1, .int v1)] → W p l e ({ frames := 2, cells := 0, slots := 0, locals := 61 } : Room) s m args below meth c H locs 0 0 (MQ below (va_Qv post (zc_B lo g) (zA lo)) args s 0 0 (zA lo)) (F0 m 87 ls [])) : ∀ (n : Nat) (v0 : Nat) (v1 : Int32) (v2 : Int32) (v3 : Int64) (v5 : Int32) (M : zm_M), pX7_less_5 g.2 post k87 n v0 v1 v2 v3 v5 M → ∀ (H : Heap) (locs : List Loc) (ls : Array Slot), zW lo g s H locs M → lv_has ls 6 [(0, .ref v0), (1, .int v1), (2, .int v2), (3, .long v3), (5, .int v5)] → W p l e ({ frames := 2, cells := 0, slots := 0, locals := 61 } : Room) s m args below meth c H locs 0 0 (MQ below (va_Qv post (zc_B lo g) (zA lo)) args s 0 0 (zA lo)) (F0 m 5 ls []) := by
  obtain ⟨hx, hb, hml, hown, hts⟩ := id S
  intro n
  induction n with
  | zero =>
    intro v0 v1 v2 v3 v5 M h
    exact False.elim h
  | succ n5 ih =>
    intro v0 v1 v2 v3 v5 M h H locs ls hw hl
    rw [pX7_less_5] at h
    refine lv_iload hx hb dX7_less_5 (lv_at hl 4 rfl) ?_
    refine lv_aload_n hx hb dX7_less_7 rfl (lv_at hl 0 rfl) ?_
    refine zr_ga (C := RX7) (T := TX7) (N := 14) (ci := 10) (k := 10) S hK hw zi_X7 rfl (by decide) zu_444 dX7_less_8 h (fun n_3 h => ?_)
    refine lv_iload_n hx hb dX7_less_11 rfl (lv_at hl 1 rfl) ?_
    refine zr_iald S hK hw dX7_less_12 h (fun e4 h => ?_)
    refine lv_icmp_ge (tgt := 87) hx hb dX7_less_13 (by decide) (fun hc => ?_) (fun hc => ?_)
    · have h := h.1 hc
      exact hk87 v0 v1 _ h _ _ _ hw (lv_sub hl [0, 1] rfl)
    · have h := h.2 hc
      refine lv_lload_n hx hb dX7_less_16 rfl (lv_at hl 3 rfl) ?_
      refine lv_aload_n hx hb dX7_less_17 rfl (lv_at hl 0 rfl) ?_
      refine zr_ga (C := RX7) (T := TX7) (N := 14) (ci := 10) (k := 9) S hK hw zi_X7 rfl (by decide) zu_445 dX7_less_18 h (fun g_5 h => ?_)
      refine lv_bipush (v := (72 : Int32)) hx hb dX7_less_21 (by decide) ?_
      refine lv_iload_n hx hb dX7_less_23 rfl (lv_at hl 1 rfl) ?_
      refine lv_imul hx hb dX7_less_24 ?_
      refine lv_iload hx hb dX7_less_25 (lv_at hl 4 rfl) ?_
      refine lv_iadd hx hb dX7_less_27 ?_
      refine zr_lald S hK hw dX7_less_28 h (fun e6 h => ?_)
      refine lv_iload hx hb dX7_less_29 (lv_at hl 4 rfl) ?_
      refine lv_aload_n hx hb dX7_less_31 rfl (lv_at hl 0 rfl) ?_
      refine zr_ga (C := RX7) (T := TX7) (N := 14) (ci := 10) (k := 10) S hK hw zi_X7 rfl (by decide) zu_444 dX7_less_32 h (fun n_7 h => ?_)
      refine lv_iload_n hx hb dX7_less_35 rfl (lv_at hl 2 rfl) ?_
      refine zr_iald S hK hw dX7_less_36 h (fun e8 h => ?_)
      refine lv_icmp_ge (tgt := 55) hx hb dX7_less_37 (by decide) (fun hc => ?_) (fun hc => ?_)
      · have h := h.1 hc
        refine lv_lconst (v := (0 : Int64)) hx hb dX7_less_55 (by decide) ?_
        exact sX7_less_56 S hr hlocks hK ih v0 v1 v2 v5 v3 e6 (0 : Int64) _ h _ _ _ hw (lv_sub hl [0, 1, 2, 4] rfl)
      · have h := h.2 hc
        refine lv_aload_n hx hb dX7_less_40 rfl (lv_at hl 0 rfl) ?_
        refine zr_ga (C := RX7) (T := TX7) (N := 14) (ci := 10) (k := 9) S hK hw zi_X7 rfl (by decide) zu_445 dX7_less_41 h (fun g_14 h => ?_)
        refine lv_bipush (v := (72 : Int32)) hx hb dX7_less_44 (by decide) ?_
        refine lv_iload_n hx hb dX7_less_46 rfl (lv_at hl 2 rfl) ?_
        refine lv_imul hx hb dX7_less_47 ?_
        refine lv_iload hx hb dX7_less_48 (lv_at hl 4 rfl) ?_
        refine lv_iadd hx hb dX7_less_50 ?_
        refine zr_lald S hK hw dX7_less_51 h (fun e15 h => ?_)
        refine lv_goto (tgt := 56) hx hb dX7_less_52 (by decide) ?_
        exact sX7_less_56 S hr hlocks hK ih v0 v1 v2 v5 v3 e6 e15 _ h _ _ _ hw (lv_sub hl [0, 1, 2, 4] rfl)
set_option maxHeartbeats 4000000 in
set_option maxRecDepth 100000 in
theorem kX7_less (l : Launch) (lo : Nat) (g : zg) (M : zm_M) (a0 : Nat) (a1 : Int32) (a2 : Int32) (post : zm_M → Prop) (h : pX7_less g.2 a0 a1 a2 post M) : Met l yX7_less (Cond.code yX7_less cX7_less 6 none :: zU) (({ frames := 2, cells := 0, slots := 0, locals := 61 } : Room)) (zc_P zNF zNM lo g M [.ref a0, .int a1, .int a2]) (va_Qv post (zc_B lo g) (zA lo)) 0 0 (zA lo) := by
  refine Met.ofW (cc := cX7_less) (maxL := 6) (ret := none) (by decide) rfl ?_
  intro p e s m args below meth c s₁ B hml hv
  obtain ⟨rfl, hR, hK⟩ := hv
  have hts := atoms_spec (ws := Cond.code yX7_less cX7_less 6 none :: zU) B.pre
  have hts : ∀ w ∈ zU, w.before _ s = true := fun w hw => hts w (List.mem_cons_of_mem _ hw)
  have hown : s.vm.findClass RX7 = some m.cls := findClass_of_methodNamed B.named
  have hx := B.exec
  have hb := B.bytes
  have hr := B.returns
  have hlocks := B.notSynchronized
  have S : CallFix p m c cX7_less 6 s ([.ref a0, .int a1, .int a2] : List Value).toArray zU RX7 := ⟨hx, hb, hml, hown, hts⟩
  have hw : zW lo g s s.heap [] M := ⟨hR, va_S.rf⟩
  have hl := lv_entry ([.ref a0, .int a1, .int a2]) (n := 6) (Nat.le_of_ble_eq_true rfl)
  rw [lg_entry_eq]
  generalize (lg_sl ([.ref a0, .int a1, .int a2]) ++ List.replicate (6 - (lg_sl ([.ref a0, .int a1, .int a2])).length) Slot.unset).toArray = ls at hl ⊢
  have hl : lv_has ls 6 [(0, .ref a0), (1, .int a1), (2, .int a2)] := hl
  unfold pX7_less at h
  refine lv_lconst (v := (0 : Int64)) hx hb dX7_less_0 (by decide) ?_
  refine lv_topl (fun x1 ex1 => ?_)
  have h := h x1 ex1
  refine lv_lstore_n (lv' := [(3, .long x1), (0, .ref a0), (1, .int a1), (2, .int a2)]) hx hb dX7_less_1 rfl hl (by decide) rfl (fun ls hl => ?_)
  refine lv_iconst (v := (0 : Int32)) hx hb dX7_less_2 (by decide) ?_
  refine lv_topi (fun x2 ex2 => ?_)
  have h := h x2 ex2
  refine lv_istore (lv' := [(5, .int x2), (3, .long x1), (0, .ref a0), (1, .int a1), (2, .int a2)]) hx hb dX7_less_3 hl (by decide) rfl (fun ls hl => ?_)
  obtain ⟨n5, h⟩ := h
  refine sX7_less_5 S hr hlocks hK (fun w16 w17 M18 h H locs ls hw hl => ?_) n5 a0 a1 a2 x1 x2 _ h _ _ _ hw (lv_sub hl [2, 3, 4, 1, 0] rfl)
  refine lv_aload_n hx hb dX7_less_87 rfl (lv_at hl 0 rfl) ?_
  refine lv_iload_n hx hb dX7_less_88 rfl (lv_at hl 1 rfl) ?_
  obtain ⟨ho, h⟩ := h
  refine zr_Vv (As := [.int w17]) (rest := []) S hK hw (kX7_trim l lo g M18 w16 w17 _ h) (cwV 1 hts (zg_V zu_447 zu_448 zu_449 zu_450 zu_451) rfl rfl rfl (by decide +kernel) ⟨Nat.le_of_ble_eq_true rfl, Nat.le_of_ble_eq_true rfl⟩) (ci := 10) rfl ho rfl hl.1 rfl (Nat.le_of_ble_eq_true rfl) dX7_less_89 ⟨Nat.le_of_ble_eq_true rfl, Nat.le_of_ble_eq_true rfl⟩ (fun M19 H locs hw h => ?_)
  exact zr_rv S hr hlocks hw h dX7_less_92
set_option maxHeartbeats 4000000 in
set_option maxRecDepth 100000 in
theorem sX7_times_18 {p : Program} {l : Launch} {e : Env} {s : State} {m : MethodId} {args : Array Value} {below : List Frame} {meth : Method} {c : Code} {lo : Nat} {g : zg} {post : zm_M → Prop} {k44 : Nat → Int32 → Int32 → Int32 → Int32 → zm_M → Prop} (S : CallFix p m c cX7_times 9 s args zU RX7) (hr : meth.sig.returnType = none) (hlocks : meth.locks = false) (hK : zk_K zNF zNM g s) (hk44 : ∀ (v0 : Nat) (v1 : Int32) (v2 : Int32) (v3 : Int32) (v4 : Int32) (M : zm_M), k44 v0 v1 v2 v3 v4 M → ∀ (H : Heap) (locs : List Loc) (ls : Array Slot), zW lo g s H locs M → lv_has ls 9 [(0, .ref v0), (1, .int v1), (2, .int v2), (3, .int v3), (4, .int v4)] → W p l e ({ frames := 2, cells := 0, slots := 0, locals := 61 } : Room) s m args below meth c H locs 0 0 (MQ below (va_Qv post (zc_B lo g) (zA lo)) args s 0 0 (zA lo)) (F0 m 44 ls [])) : ∀ (n : Nat) (v0 : Nat) (v1 : Int32) (v2 : Int32) (v3 : Int32) (v4 : Int32) (v5 : Int32) (M : zm_M), pX7_times_18 g.2 post k44 n v0 v1 v2 v3 v4 v5 M → ∀ (H : Heap) (locs : List Loc) (ls : Array Slot), zW lo g s H locs M → lv_has ls 9 [(0, .ref v0), (1, .int v1), (2, .int v2), (3, .int v3), (4, .int v4), (5, .int v5)] → W p l e ({ frames := 2, cells := 0, slots := 0, locals := 61 } : Room) s m args below meth c H locs 0 0 (MQ below (va_Qv post (zc_B lo g) (zA lo)) args s 0 0 (zA lo)) (F0 m 18 ls []) := by
  obtain ⟨hx, hb, hml, hown, hts⟩ := id S
  intro n
  induction n with
  | zero =>
    intro v0 v1 v2 v3 v4 v5 M h
    exact False.elim h
  | succ n18 ih =>
    intro v0 v1 v2 v3 v4 v5 M h H locs ls hw hl
    rw [pX7_times_18] at h
    refine lv_iload hx hb dX7_times_18 (lv_at hl 5 rfl) ?_
    refine lv_iload hx hb dX7_times_20 (lv_at hl 4 rfl) ?_
    refine lv_icmp_ge (tgt := 44) hx hb dX7_times_22 (by decide) (fun hc => ?_) (fun hc => ?_)
    · have h := h.1 hc
      exact hk44 v0 v1 v2 v3 v4 _ h _ _ _ hw (lv_sub hl [0, 1, 2, 3, 4] rfl)
    · have h := h.2 hc
      refine lv_aload_n hx hb dX7_times_25 rfl (lv_at hl 0 rfl) ?_
      refine zr_ga (C := RX7) (T := TX7) (N := 14) (ci := 10) (k := 9) S hK hw zi_X7 rfl (by decide) zu_445 dX7_times_26 h (fun g_7 h => ?_)
      refine lv_bipush (v := (72 : Int32)) hx hb dX7_times_29 (by decide) ?_
      refine lv_iload_n hx hb dX7_times_31 rfl (lv_at hl 1 rfl) ?_
      refine lv_imul hx hb dX7_times_32 ?_
      refine lv_iload hx hb dX7_times_33 (lv_at hl 5 rfl) ?_
      refine lv_iadd hx hb dX7_times_35 ?_
      refine lv_lconst (v := (0 : Int64)) hx hb dX7_times_36 (by decide) ?_
      refine zr_last S hK hw dX7_times_37 h (fun M8 H locs hw h => ?_)
      obtain ⟨x9, ex9⟩ : ∃ z : Int32, z = v5 + (1 : Int32) := ⟨_, rfl⟩
      have h := h x9 ex9
      refine lv_iinc (v := x9) (lv' := [(5, .int x9), (0, .ref v0), (1, .int v1), (2, .int v2), (3, .int v3), (4, .int v4)]) hx hb dX7_times_38 hl (k := 5) rfl (by rw [ex9]; rfl) (by decide) rfl (fun ls hl => ?_)
      refine lv_goto (tgt := 18) hx hb dX7_times_41 (by decide) ?_
      exact ih v0 v1 v2 v3 v4 x9 _ h _ _ _ hw (lv_sub hl [1, 2, 3, 4, 5, 0] rfl)
set_option maxHeartbeats 4000000 in
set_option maxRecDepth 100000 in
theorem sX7_times_64 {p : Program} {l : Launch} {e : Env} {s : State} {m : MethodId} {args : Array Value} {below : List Frame} {meth : Method} {c : Code} {lo : Nat} {g : zg} {post : zm_M → Prop} {k155 : Nat → Int32 → Int32 → Int32 → Int32 → Int32 → Int64 → zm_M → Prop} (S : CallFix p m c cX7_times 9 s args zU RX7) (hr : meth.sig.returnType = none) (hlocks : meth.locks = false) (hK : zk_K zNF zNM g s) (hk155 : ∀ (v0 : Nat) (v1 : Int32) (v2 : Int32) (v3 : Int32) (v4 : Int32) (v5 : Int32) (v6 : Int64) (M : zm_M), k155 v0 v1 v2 v3 v4 v5 v6 M → ∀ (H : Heap) (locs : List Loc) (ls : Array Slot), zW lo g s H locs M → lv_has ls 9 [(0, .ref v0), (1, .int v1), (2, .int v2), (3, .int v3), (4, .int v4), (5, .int v5), (6, .long v6)] → W p l e ({ frames := 2, cells := 0, slots := 0, locals := 61 } : Room) s m args below meth c H locs 0 0 (MQ below (va_Qv post (zc_B lo g) (zA lo)) args s 0 0 (zA lo)) (F0 m 155 ls [])) : ∀ (n : Nat) (v0 : Nat) (v1 : Int32) (v2 : Int32) (v3 : Int32) (v4 : Int32) (v5 : Int32) (v6 : Int64) (v8 : Int32) (M : zm_M), pX7_times_64 g.2 post k155 n v0 v1 v2 v3 v4 v5 v6 v8 M → ∀ (H : Heap) (locs : List Loc) (ls : Array Slot), zW lo g s H locs M → lv_has ls 9 [(0, .ref v0), (1, .int v1), (2, .int v2), (3, .int v3), (4, .int v4), (5, .int v5), (6, .long v6), (8, .int v8)] → W p l e ({ frames := 2, cells := 0, slots := 0, locals := 61 } : Room) s m args below meth c H locs 0 0 (MQ below (va_Qv post (zc_B lo g) (zA lo)) args s 0 0 (zA lo)) (F0 m 64 ls []) := by
  obtain ⟨hx, hb, hml, hown, hts⟩ := id S
  intro n
  induction n with
  | zero =>
    intro v0 v1 v2 v3 v4 v5 v6 v8 M h
    exact False.elim h
  | succ n64 ih =>
    intro v0 v1 v2 v3 v4 v5 v6 v8 M h H locs ls hw hl
    rw [pX7_times_64] at h
    refine lv_iload hx hb dX7_times_64 (lv_at hl 7 rfl) ?_
    refine lv_aload_n hx hb dX7_times_66 rfl (lv_at hl 0 rfl) ?_
    refine zr_ga (C := RX7) (T := TX7) (N := 14) (ci := 10) (k := 10) S hK hw zi_X7 rfl (by decide) zu_444 dX7_times_67 h (fun n_21 h => ?_)
    refine lv_iload_n hx hb dX7_times_70 rfl (lv_at hl 3 rfl) ?_
    refine zr_iald S hK hw dX7_times_71 h (fun e22 h => ?_)
    refine lv_icmp_ge (tgt := 155) hx hb dX7_times_72 (by decide) (fun hc => ?_) (fun hc => ?_)
    · have h := h.1 hc
      exact hk155 v0 v1 v2 v3 v4 v5 v6 _ h _ _ _ hw (lv_sub hl [0, 1, 2, 3, 4, 5, 6] rfl)
    · have h := h.2 hc
      refine lv_lload hx hb dX7_times_75 (lv_at hl 6 rfl) ?_
      refine lv_aload_n hx hb dX7_times_77 rfl (lv_at hl 0 rfl) ?_
      refine zr_ga (C := RX7) (T := TX7) (N := 14) (ci := 10) (k := 9) S hK hw zi_X7 rfl (by decide) zu_445 dX7_times_78 h (fun g_23 h => ?_)
      refine lv_bipush (v := (72 : Int32)) hx hb dX7_times_81 (by decide) ?_
      refine lv_iload_n hx hb dX7_times_83 rfl (lv_at hl 1 rfl) ?_
      refine lv_imul hx hb dX7_times_84 ?_
      refine lv_iload hx hb dX7_times_85 (lv_at hl 5 rfl) ?_
      refine lv_iadd hx hb dX7_times_87 ?_
      refine lv_iload hx hb dX7_times_88 (lv_at hl 7 rfl) ?_
      refine lv_iadd hx hb dX7_times_90 ?_
      refine zr_lald S hK hw dX7_times_91 h (fun e24 h => ?_)
      refine lv_aload_n hx hb dX7_times_92 rfl (lv_at hl 0 rfl) ?_
      refine zr_ga (C := RX7) (T := TX7) (N := 14) (ci := 10) (k := 9) S hK hw zi_X7 rfl (by decide) zu_445 dX7_times_93 h (fun g_25 h => ?_)
      refine lv_bipush (v := (72 : Int32)) hx hb dX7_times_96 (by decide) ?_
      refine lv_iload_n hx hb dX7_times_98 rfl (lv_at hl 2 rfl) ?_
      refine lv_imul hx hb dX7_times_99 ?_
      refine lv_iload hx hb dX7_times_100 (lv_at hl 5 rfl) ?_
      refine lv_iadd hx hb dX7_times_102 ?_
      refine zr_lald S hK hw dX7_times_103 h (fun e26 h => ?_)
      refine lv_aload_n hx hb dX7_times_104 rfl (lv_at hl 0 rfl) ?_
      refine zr_ga (C := RX7) (T := TX7) (N := 14) (ci := 10) (k := 9) S hK hw zi_X7 rfl (by decide) zu_445 dX7_times_105 h (fun g_27 h => ?_)
      refine lv_bipush (v := (72 : Int32)) hx hb dX7_times_108 (by decide) ?_
      refine lv_iload_n hx hb dX7_times_110 rfl (lv_at hl 3 rfl) ?_
      refine lv_imul hx hb dX7_times_111 ?_
      refine lv_iload hx hb dX7_times_112 (lv_at hl 7 rfl) ?_
      refine lv_iadd hx hb dX7_times_114 ?_
      refine zr_lald S hK hw dX7_times_115 h (fun e28 h => ?_)
      refine lv_lmul hx hb dX7_times_116 ?_
      refine lv_ladd hx hb dX7_times_117 ?_
      refine lv_ladd hx hb dX7_times_118 ?_
      refine lv_topl (fun x29 ex29 => ?_)
      have h := h x29 ex29
      refine lv_lstore (lv' := [(6, .long x29), (0, .ref v0), (1, .int v1), (2, .int v2), (3, .int v3), (4, .int v4), (5, .int v5), (8, .int v8)]) hx hb dX7_times_119 hl (by decide) rfl (fun ls hl => ?_)
      refine lv_aload_n hx hb dX7_times_121 rfl (lv_at hl 1 rfl) ?_
      refine zr_ga (C := RX7) (T := TX7) (N := 14) (ci := 10) (k := 9) S hK hw zi_X7 rfl (by decide) zu_445 dX7_times_122 h (fun g_30 h => ?_)
      refine lv_bipush (v := (72 : Int32)) hx hb dX7_times_125 (by decide) ?_
      refine lv_iload_n hx hb dX7_times_127 rfl (lv_at hl 2 rfl) ?_
      refine lv_imul hx hb dX7_times_128 ?_
      refine lv_iload hx hb dX7_times_129 (lv_at hl 6 rfl) ?_
      refine lv_iadd hx hb dX7_times_131 ?_
      refine lv_iload hx hb dX7_times_132 (lv_at hl 7 rfl) ?_
      refine lv_iadd hx hb dX7_times_134 ?_
      refine lv_lload hx hb dX7_times_135 (lv_at hl 0 rfl) ?_
      refine lv_ldc2 (v := (4294967295 : Int64)) hx hb hown (hts _ zu_446) dX7_times_137 ?_
      refine lv_land hx hb dX7_times_140 ?_
      refine zr_last S hK hw dX7_times_141 h (fun M31 H locs hw h => ?_)
      refine lv_lload hx hb dX7_times_142 (lv_at hl 0 rfl) ?_
      refine lv_bipush (v := (32 : Int32)) hx hb dX7_times_144 (by decide) ?_
      refine lv_lushr hx hb dX7_times_146 rfl ?_
      refine lv_topl (fun x32 ex32 => ?_)
      have h := h x32 ex32
      refine lv_lstore (lv' := [(6, .long x32), (0, .ref v0), (1, .int v1), (2, .int v2), (3, .int v3), (4, .int v4), (5, .int v5), (8, .int v8)]) hx hb dX7_times_147 hl (by decide) rfl (fun ls hl => ?_)
      obtain ⟨x33, ex33⟩ : ∃ z : Int32, z = v8 + (1 : Int32) := ⟨_, rfl⟩
      have h := h x33 ex33
      refine lv_iinc (v := x33) (lv' := [(8, .int x33), (6, .long x32), (0, .ref v0), (1, .int v1), (2, .int v2), (3, .int v3), (4, .int v4), (5, .int v5)]) hx hb dX7_times_149 hl (k := 7) rfl (by rw [ex33]; rfl) (by decide) rfl (fun ls hl => ?_)
      refine lv_goto (tgt := 64) hx hb dX7_times_152 (by decide) ?_
      exact ih v0 v1 v2 v3 v4 v5 x32 x33 _ h _ _ _ hw (lv_sub hl [2, 3, 4, 5, 6, 7, 1, 0] rfl)
set_option maxHeartbeats 4000000 in
set_option maxRecDepth 100000 in
theorem sX7_times_47 {p : Program} {l : Launch} {e : Env} {s : State} {m : MethodId} {args : Array Value} {below : List Frame} {meth : Method} {c : Code} {lo : Nat} {g : zg} {post : zm_M → Prop} {k182 : Nat → Int32 → Int32 → zm_M → Prop} (S : CallFix p m c cX7_times 9 s args zU RX7) (hr : meth.sig.returnType = none) (hlocks : meth.locks = false) (hK : zk_K zNF zNM g s) (hk182 : ∀ (v0 : Nat) (v1 : Int32) (v4 : Int32) (M : zm_M), k182 v0 v1 v4 M → ∀ (H : Heap) (locs : List Loc) (ls : Array Slot), zW lo g s H locs M → lv_has ls 9 [(0, .ref v0), (1, .int v1), (4, .int v4)] → W p l e ({ frames := 2, cells := 0, slots := 0, locals := 61 } : Room) s m args below meth c H locs 0 0 (MQ below (va_Qv post (zc_B lo g) (zA lo)) args s 0 0 (zA lo)) (F0 m 182 ls [])) : ∀ (n : Nat) (v0 : Nat) (v1 : Int32) (v2 : Int32) (v3 : Int32) (v4 : Int32) (v5 : Int32) (M : zm_M), pX7_times_47 g.2 post k182 n v0 v1 v2 v3 v4 v5 M → ∀ (H : Heap) (locs : List Loc) (ls : Array Slot), zW lo g s H locs M → lv_has ls 9 [(0, .ref v0), (1, .int v1), (2, .int v2), (3, .int v3), (4, .int v4), (5, .int v5)] → W p l e ({ frames := 2, cells := 0, slots := 0, locals := 61 } : Room) s m args below meth c H locs 0 0 (MQ below (va_Qv post (zc_B lo g) (zA lo)) args s 0 0 (zA lo)) (F0 m 47 ls []) := by
  obtain ⟨hx, hb, hml, hown, hts⟩ := id S
  intro n
  induction n with
  | zero =>
    intro v0 v1 v2 v3 v4 v5 M h
    exact False.elim h
  | succ n47 ih =>
    intro v0 v1 v2 v3 v4 v5 M h H locs ls hw hl
    rw [pX7_times_47] at h
    refine lv_iload hx hb dX7_times_47 (lv_at hl 5 rfl) ?_
    refine lv_aload_n hx hb dX7_times_49 rfl (lv_at hl 0 rfl) ?_
    refine zr_ga (C := RX7) (T := TX7) (N := 14) (ci := 10) (k := 10) S hK hw zi_X7 rfl (by decide) zu_444 dX7_times_50 h (fun n_17 h => ?_)
    refine lv_iload_n hx hb dX7_times_53 rfl (lv_at hl 2 rfl) ?_
    refine zr_iald S hK hw dX7_times_54 h (fun e18 h => ?_)
    refine lv_icmp_ge (tgt := 182) hx hb dX7_times_55 (by decide) (fun hc => ?_) (fun hc => ?_)
    · have h := h.1 hc
      exact hk182 v0 v1 v4 _ h _ _ _ hw (lv_sub hl [0, 1, 4] rfl)
    · have h := h.2 hc
      refine lv_lconst (v := (0 : Int64)) hx hb dX7_times_58 (by decide) ?_
      refine lv_topl (fun x19 ex19 => ?_)
      have h := h x19 ex19
      refine lv_lstore (lv' := [(6, .long x19), (0, .ref v0), (1, .int v1), (2, .int v2), (3, .int v3), (4, .int v4), (5, .int v5)]) hx hb dX7_times_59 hl (by decide) rfl (fun ls hl => ?_)
      refine lv_iconst (v := (0 : Int32)) hx hb dX7_times_61 (by decide) ?_
      refine lv_topi (fun x20 ex20 => ?_)
      have h := h x20 ex20
      refine lv_istore (lv' := [(8, .int x20), (6, .long x19), (0, .ref v0), (1, .int v1), (2, .int v2), (3, .int v3), (4, .int v4), (5, .int v5)]) hx hb dX7_times_62 hl (by decide) rfl (fun ls hl => ?_)
      obtain ⟨n64, h⟩ := h
      refine sX7_times_64 S hr hlocks hK (fun w34 w35 w36 w37 w38 w39 w40 M41 h H locs ls hw hl => ?_) n64 v0 v1 v2 v3 v4 v5 x19 x20 _ h _ _ _ hw (lv_sub hl [2, 3, 4, 5, 6, 7, 1, 0] rfl)
      refine lv_aload_n hx hb dX7_times_155 rfl (lv_at hl 0 rfl) ?_
      refine zr_ga (C := RX7) (T := TX7) (N := 14) (ci := 10) (k := 9) S hK hw zi_X7 rfl (by decide) zu_445 dX7_times_156 h (fun g_42 h => ?_)
      refine lv_bipush (v := (72 : Int32)) hx hb dX7_times_159 (by decide) ?_
      refine lv_iload_n hx hb dX7_times_161 rfl (lv_at hl 1 rfl) ?_
      refine lv_imul hx hb dX7_times_162 ?_
      refine lv_iload hx hb dX7_times_163 (lv_at hl 5 rfl) ?_
      refine lv_iadd hx hb dX7_times_165 ?_
      refine lv_aload_n hx hb dX7_times_166 rfl (lv_at hl 0 rfl) ?_
      refine zr_ga (C := RX7) (T := TX7) (N := 14) (ci := 10) (k := 10) S hK hw zi_X7 rfl (by decide) zu_444 dX7_times_167 h (fun n_43 h => ?_)
      refine lv_iload_n hx hb dX7_times_170 rfl (lv_at hl 3 rfl) ?_
      refine zr_iald S hK hw dX7_times_171 h (fun e44 h => ?_)
      refine lv_iadd hx hb dX7_times_172 ?_
      refine lv_lload hx hb dX7_times_173 (lv_at hl 6 rfl) ?_
      refine zr_last S hK hw dX7_times_175 h (fun M45 H locs hw h => ?_)
      obtain ⟨x46, ex46⟩ : ∃ z : Int32, z = w39 + (1 : Int32) := ⟨_, rfl⟩
      have h := h x46 ex46
      refine lv_iinc (v := x46) (lv' := [(5, .int x46), (0, .ref w34), (1, .int w35), (2, .int w36), (3, .int w37), (4, .int w38), (6, .long w40)]) hx hb dX7_times_176 hl (k := 5) rfl (by rw [ex46]; rfl) (by decide) rfl (fun ls hl => ?_)
      refine lv_goto (tgt := 47) hx hb dX7_times_179 (by decide) ?_
      exact ih w34 w35 w36 w37 w38 x46 _ h _ _ _ hw (lv_sub hl [1, 2, 3, 4, 5, 0] rfl)
set_option maxHeartbeats 4000000 in
set_option maxRecDepth 100000 in
theorem kX7_times (l : Launch) (lo : Nat) (g : zg) (M : zm_M) (a0 : Nat) (a1 : Int32) (a2 : Int32) (a3 : Int32) (post : zm_M → Prop) (h : pX7_times g.2 a0 a1 a2 a3 post M) : Met l yX7_times (Cond.code yX7_times cX7_times 9 none :: zU) (({ frames := 2, cells := 0, slots := 0, locals := 61 } : Room)) (zc_P zNF zNM lo g M [.ref a0, .int a1, .int a2, .int a3]) (va_Qv post (zc_B lo g) (zA lo)) 0 0 (zA lo) := by
  refine Met.ofW (cc := cX7_times) (maxL := 9) (ret := none) (by decide) rfl ?_
  intro p e s m args below meth c s₁ B hml hv
  obtain ⟨rfl, hR, hK⟩ := hv
  have hts := atoms_spec (ws := Cond.code yX7_times cX7_times 9 none :: zU) B.pre
  have hts : ∀ w ∈ zU, w.before _ s = true := fun w hw => hts w (List.mem_cons_of_mem _ hw)
  have hown : s.vm.findClass RX7 = some m.cls := findClass_of_methodNamed B.named
  have hx := B.exec
  have hb := B.bytes
  have hr := B.returns
  have hlocks := B.notSynchronized
  have S : CallFix p m c cX7_times 9 s ([.ref a0, .int a1, .int a2, .int a3] : List Value).toArray zU RX7 := ⟨hx, hb, hml, hown, hts⟩
  have hw : zW lo g s s.heap [] M := ⟨hR, va_S.rf⟩
  have hl := lv_entry ([.ref a0, .int a1, .int a2, .int a3]) (n := 9) (Nat.le_of_ble_eq_true rfl)
  rw [lg_entry_eq]
  generalize (lg_sl ([.ref a0, .int a1, .int a2, .int a3]) ++ List.replicate (9 - (lg_sl ([.ref a0, .int a1, .int a2, .int a3])).length) Slot.unset).toArray = ls at hl ⊢
  have hl : lv_has ls 9 [(0, .ref a0), (1, .int a1), (2, .int a2), (3, .int a3)] := hl
  unfold pX7_times at h
  refine lv_aload_n hx hb dX7_times_0 rfl (lv_at hl 0 rfl) ?_
  refine zr_ga (C := RX7) (T := TX7) (N := 14) (ci := 10) (k := 10) S hK hw zi_X7 rfl (by decide) zu_444 dX7_times_1 h (fun n_1 h => ?_)
  refine lv_iload_n hx hb dX7_times_4 rfl (lv_at hl 2 rfl) ?_
  refine zr_iald S hK hw dX7_times_5 h (fun e2 h => ?_)
  refine lv_aload_n hx hb dX7_times_6 rfl (lv_at hl 0 rfl) ?_
  refine zr_ga (C := RX7) (T := TX7) (N := 14) (ci := 10) (k := 10) S hK hw zi_X7 rfl (by decide) zu_444 dX7_times_7 h (fun n_3 h => ?_)
  refine lv_iload_n hx hb dX7_times_10 rfl (lv_at hl 3 rfl) ?_
  refine zr_iald S hK hw dX7_times_11 h (fun e4 h => ?_)
  refine lv_iadd hx hb dX7_times_12 ?_
  refine lv_topi (fun x5 ex5 => ?_)
  have h := h x5 ex5
  refine lv_istore (lv' := [(4, .int x5), (0, .ref a0), (1, .int a1), (2, .int a2), (3, .int a3)]) hx hb dX7_times_13 hl (by decide) rfl (fun ls hl => ?_)
  refine lv_iconst (v := (0 : Int32)) hx hb dX7_times_15 (by decide) ?_
  refine lv_topi (fun x6 ex6 => ?_)
  have h := h x6 ex6
  refine lv_istore (lv' := [(5, .int x6), (4, .int x5), (0, .ref a0), (1, .int a1), (2, .int a2), (3, .int a3)]) hx hb dX7_times_16 hl (by decide) rfl (fun ls hl => ?_)
  obtain ⟨n18, h⟩ := h
  refine sX7_times_18 S hr hlocks hK (fun w10 w11 w12 w13 w14 M15 h H locs ls hw hl => ?_) n18 a0 a1 a2 a3 x5 x6 _ h _ _ _ hw (lv_sub hl [2, 3, 4, 5, 1, 0] rfl)
  refine lv_iconst (v := (0 : Int32)) hx hb dX7_times_44 (by decide) ?_
  refine lv_topi (fun x16 ex16 => ?_)
  have h := h x16 ex16
  refine lv_istore (lv' := [(5, .int x16), (0, .ref w10), (1, .int w11), (2, .int w12), (3, .int w13), (4, .int w14)]) hx hb dX7_times_45 hl (by decide) rfl (fun ls hl => ?_)
  obtain ⟨n47, h⟩ := h
  refine sX7_times_47 S hr hlocks hK (fun w47 w48 w49 M50 h H locs ls hw hl => ?_) n47 w10 w11 w12 w13 w14 x16 _ h _ _ _ hw (lv_sub hl [1, 2, 3, 4, 5, 0] rfl)
  refine lv_aload_n hx hb dX7_times_182 rfl (lv_at hl 0 rfl) ?_
  refine zr_ga (C := RX7) (T := TX7) (N := 14) (ci := 10) (k := 10) S hK hw zi_X7 rfl (by decide) zu_444 dX7_times_183 h (fun n_51 h => ?_)
  refine lv_iload_n hx hb dX7_times_186 rfl (lv_at hl 1 rfl) ?_
  refine lv_iload hx hb dX7_times_187 (lv_at hl 2 rfl) ?_
  refine zr_iast S hK hw dX7_times_189 h (fun M52 H locs hw h => ?_)
  refine lv_aload_n hx hb dX7_times_190 rfl (lv_at hl 0 rfl) ?_
  refine lv_iload_n hx hb dX7_times_191 rfl (lv_at hl 1 rfl) ?_
  obtain ⟨ho, h⟩ := h
  refine zr_Vv (As := [.int w48]) (rest := []) S hK hw (kX7_trim l lo g M52 w47 w48 _ h) (cwV 1 hts (zg_V zu_447 zu_448 zu_449 zu_450 zu_451) rfl rfl rfl (by decide +kernel) ⟨Nat.le_of_ble_eq_true rfl, Nat.le_of_ble_eq_true rfl⟩) (ci := 10) rfl ho rfl hl.1 rfl (Nat.le_of_ble_eq_true rfl) dX7_times_192 ⟨Nat.le_of_ble_eq_true rfl, Nat.le_of_ble_eq_true rfl⟩ (fun M53 H locs hw h => ?_)
  exact zr_rv S hr hlocks hw h dX7_times_195
set_option maxHeartbeats 4000000 in
set_option maxRecDepth 100000 in
theorem sX7_twice_6 {p : Program} {l : Launch} {e : Env} {s : State} {m : MethodId} {args : Array Value} {below : List Frame} {meth : Method} {c : Code} {lo : Nat} {g : zg} {post : zm_M → Prop} {k67 : Nat → Int32 → Int64 → zm_M → Prop} (S : CallFix p m c cX7_twice 7 s args zU RX7) (hr : meth.sig.returnType = none) (hlocks : meth.locks = false) (hK : zk_K zNF zNM g s) (hk67 : ∀ (v0 : Nat) (v1 : Int32) (v4 : Int64) (M : zm_M), k67 v0 v1 v4 M → ∀ (H : Heap) (locs : List Loc) (ls : Array Slot), zW lo g s H locs M → lv_has ls 7 [(0, .ref v0), (1, .int v1), (4, .long v4)] → W p l e ({ frames := 2, cells := 0, slots := 0, locals := 61 } : Room) s m args below meth c H locs 0 0 (MQ below (va_Qv post (zc_B lo g) (zA lo)) args s 0 0 (zA lo)) (F0 m 67 ls [])) : ∀ (n : Nat) (v0 : Nat) (v1 : Int32) (v4 : Int64) (v6 : Int32) (M : zm_M), pX7_twice_6 g.2 post k67 n v0 v1 v4 v6 M → ∀ (H : Heap) (locs : List Loc) (ls : Array Slot), zW lo g s H locs M → lv_has ls 7 [(0, .ref v0), (1, .int v1), (4, .long v4), (6, .int v6)] → W p l e ({ frames := 2, cells := 0, slots := 0, locals := 61 } : Room) s m args below meth c H locs 0 0 (MQ below (va_Qv post (zc_B lo g) (zA lo)) args s 0 0 (zA lo)) (F0 m 6 ls []) := by
  obtain ⟨hx, hb, hml, hown, hts⟩ := id S
  intro n
  induction n with
  | zero =>
    intro v0 v1 v4 v6 M h
    exact False.elim h
  | succ n6 ih =>
    intro v0 v1 v4 v6 M h H locs ls hw hl
    rw [pX7_twice_6] at h
    refine lv_iload hx hb dX7_twice_6 (lv_at hl 3 rfl) ?_
    refine lv_aload_n hx hb dX7_twice_8 rfl (lv_at hl 0 rfl) ?_
    refine zr_ga (C := RX7) (T := TX7) (N := 14) (ci := 10) (k := 10) S hK hw zi_X7 rfl (by decide) zu_444 dX7_twice_9 h (fun n_2 h => ?_)
    refine lv_iload_n hx hb dX7_twice_12 rfl (lv_at hl 1 rfl) ?_
    refine zr_iald S hK hw dX7_twice_13 h (fun e3 h => ?_)
    refine lv_icmp_ge (tgt := 67) hx hb dX7_twice_14 (by decide) (fun hc => ?_) (fun hc => ?_)
    · have h := h.1 hc
      exact hk67 v0 v1 v4 _ h _ _ _ hw (lv_sub hl [0, 1, 2] rfl)
    · have h := h.2 hc
      refine lv_lload hx hb dX7_twice_17 (lv_at hl 2 rfl) ?_
      refine lv_aload_n hx hb dX7_twice_19 rfl (lv_at hl 0 rfl) ?_
      refine zr_ga (C := RX7) (T := TX7) (N := 14) (ci := 10) (k := 9) S hK hw zi_X7 rfl (by decide) zu_445 dX7_twice_20 h (fun g_4 h => ?_)
      refine lv_bipush (v := (72 : Int32)) hx hb dX7_twice_23 (by decide) ?_
      refine lv_iload_n hx hb dX7_twice_25 rfl (lv_at hl 1 rfl) ?_
      refine lv_imul hx hb dX7_twice_26 ?_
      refine lv_iload hx hb dX7_twice_27 (lv_at hl 3 rfl) ?_
      refine lv_iadd hx hb dX7_twice_29 ?_
      refine zr_lald S hK hw dX7_twice_30 h (fun e5 h => ?_)
      refine lv_iconst (v := (1 : Int32)) hx hb dX7_twice_31 (by decide) ?_
      refine lv_lshl hx hb dX7_twice_32 rfl ?_
      refine lv_lor hx hb dX7_twice_33 ?_
      refine lv_topl (fun x6 ex6 => ?_)
      have h := h x6 ex6
      refine lv_lstore (lv' := [(4, .long x6), (0, .ref v0), (1, .int v1), (6, .int v6)]) hx hb dX7_twice_34 hl (by decide) rfl (fun ls hl => ?_)
      refine lv_aload_n hx hb dX7_twice_36 rfl (lv_at hl 1 rfl) ?_
      refine zr_ga (C := RX7) (T := TX7) (N := 14) (ci := 10) (k := 9) S hK hw zi_X7 rfl (by decide) zu_445 dX7_twice_37 h (fun g_7 h => ?_)
      refine lv_bipush (v := (72 : Int32)) hx hb dX7_twice_40 (by decide) ?_
      refine lv_iload_n hx hb dX7_twice_42 rfl (lv_at hl 2 rfl) ?_
      refine lv_imul hx hb dX7_twice_43 ?_
      refine lv_iload hx hb dX7_twice_44 (lv_at hl 3 rfl) ?_
      refine lv_iadd hx hb dX7_twice_46 ?_
      refine lv_lload hx hb dX7_twice_47 (lv_at hl 0 rfl) ?_
      refine lv_ldc2 (v := (4294967295 : Int64)) hx hb hown (hts _ zu_446) dX7_twice_49 ?_
      refine lv_land hx hb dX7_twice_52 ?_
      refine zr_last S hK hw dX7_twice_53 h (fun M8 H locs hw h => ?_)
      refine lv_lload hx hb dX7_twice_54 (lv_at hl 0 rfl) ?_
      refine lv_bipush (v := (32 : Int32)) hx hb dX7_twice_56 (by decide) ?_
      refine lv_lushr hx hb dX7_twice_58 rfl ?_
      refine lv_topl (fun x9 ex9 => ?_)
      have h := h x9 ex9
      refine lv_lstore (lv' := [(4, .long x9), (0, .ref v0), (1, .int v1), (6, .int v6)]) hx hb dX7_twice_59 hl (by decide) rfl (fun ls hl => ?_)
      obtain ⟨x10, ex10⟩ : ∃ z : Int32, z = v6 + (1 : Int32) := ⟨_, rfl⟩
      have h := h x10 ex10
      refine lv_iinc (v := x10) (lv' := [(6, .int x10), (4, .long x9), (0, .ref v0), (1, .int v1)]) hx hb dX7_twice_61 hl (k := 3) rfl (by rw [ex10]; rfl) (by decide) rfl (fun ls hl => ?_)
      refine lv_goto (tgt := 6) hx hb dX7_twice_64 (by decide) ?_
      exact ih v0 v1 x9 x10 _ h _ _ _ hw (lv_sub hl [2, 3, 1, 0] rfl)
set_option maxHeartbeats 4000000 in
set_option maxRecDepth 100000 in
theorem kX7_twice (l : Launch) (lo : Nat) (g : zg) (M : zm_M) (a0 : Nat) (a1 : Int32) (a2 : Int64) (post : zm_M → Prop) (h : pX7_twice g.2 a0 a1 a2 post M) : Met l yX7_twice (Cond.code yX7_twice cX7_twice 7 none :: zU) (({ frames := 2, cells := 0, slots := 0, locals := 61 } : Room)) (zc_P zNF zNM lo g M [.ref a0, .int a1, .long a2]) (va_Qv post (zc_B lo g) (zA lo)) 0 0 (zA lo) := by
  refine Met.ofW (cc := cX7_twice) (maxL := 7) (ret := none) (by decide) rfl ?_
  intro p e s m args below meth c s₁ B hml hv
  obtain ⟨rfl, hR, hK⟩ := hv
  have hts := atoms_spec (ws := Cond.code yX7_twice cX7_twice 7 none :: zU) B.pre
  have hts : ∀ w ∈ zU, w.before _ s = true := fun w hw => hts w (List.mem_cons_of_mem _ hw)
  have hown : s.vm.findClass RX7 = some m.cls := findClass_of_methodNamed B.named
  have hx := B.exec
  have hb := B.bytes
  have hr := B.returns
  have hlocks := B.notSynchronized
  have S : CallFix p m c cX7_twice 7 s ([.ref a0, .int a1, .long a2] : List Value).toArray zU RX7 := ⟨hx, hb, hml, hown, hts⟩
  have hw : zW lo g s s.heap [] M := ⟨hR, va_S.rf⟩
  have hl := lv_entry ([.ref a0, .int a1, .long a2]) (n := 7) (Nat.le_of_ble_eq_true rfl)
  rw [lg_entry_eq]
  generalize (lg_sl ([.ref a0, .int a1, .long a2]) ++ List.replicate (7 - (lg_sl ([.ref a0, .int a1, .long a2])).length) Slot.unset).toArray = ls at hl ⊢
  have hl : lv_has ls 7 [(0, .ref a0), (1, .int a1), (2, .long a2)] := hl
  unfold pX7_twice at h
  refine lv_lload_n hx hb dX7_twice_0 rfl (lv_at hl 2 rfl) ?_
  refine lv_lstore (lv' := [(4, .long a2), (0, .ref a0), (1, .int a1), (2, .long a2)]) hx hb dX7_twice_1 hl (by decide) rfl (fun ls hl => ?_)
  refine lv_iconst (v := (0 : Int32)) hx hb dX7_twice_3 (by decide) ?_
  refine lv_topi (fun x1 ex1 => ?_)
  have h := h x1 ex1
  refine lv_istore (lv' := [(6, .int x1), (4, .long a2), (0, .ref a0), (1, .int a1), (2, .long a2)]) hx hb dX7_twice_4 hl (by decide) rfl (fun ls hl => ?_)
  obtain ⟨n6, h⟩ := h
  refine sX7_twice_6 S hr hlocks hK (fun w11 w12 w13 M14 h H locs ls hw hl => ?_) n6 a0 a1 a2 x1 _ h _ _ _ hw (lv_sub hl [2, 3, 1, 0] rfl)
  refine lv_aload_n hx hb dX7_twice_67 rfl (lv_at hl 0 rfl) ?_
  refine zr_ga (C := RX7) (T := TX7) (N := 14) (ci := 10) (k := 9) S hK hw zi_X7 rfl (by decide) zu_445 dX7_twice_68 h (fun g_15 h => ?_)
  refine lv_bipush (v := (72 : Int32)) hx hb dX7_twice_71 (by decide) ?_
  refine lv_iload_n hx hb dX7_twice_73 rfl (lv_at hl 1 rfl) ?_
  refine lv_imul hx hb dX7_twice_74 ?_
  refine lv_aload_n hx hb dX7_twice_75 rfl (lv_at hl 0 rfl) ?_
  refine zr_ga (C := RX7) (T := TX7) (N := 14) (ci := 10) (k := 10) S hK hw zi_X7 rfl (by decide) zu_444 dX7_twice_76 h (fun n_16 h => ?_)
  refine lv_iload_n hx hb dX7_twice_79 rfl (lv_at hl 1 rfl) ?_
  refine zr_iald S hK hw dX7_twice_80 h (fun e17 h => ?_)
  refine lv_iadd hx hb dX7_twice_81 ?_
  refine lv_lload hx hb dX7_twice_82 (lv_at hl 2 rfl) ?_
  refine zr_last S hK hw dX7_twice_84 h (fun M18 H locs hw h => ?_)
  refine lv_aload_n hx hb dX7_twice_85 rfl (lv_at hl 0 rfl) ?_
  refine zr_ga (C := RX7) (T := TX7) (N := 14) (ci := 10) (k := 10) S hK hw zi_X7 rfl (by decide) zu_444 dX7_twice_86 h (fun n_19 h => ?_)
  refine lv_iload_n hx hb dX7_twice_89 rfl (lv_at hl 1 rfl) ?_
  refine lv_dup2_11 hx hb dX7_twice_90 rfl rfl ?_
  refine zr_iald S hK hw dX7_twice_91 h (fun e20 h => ?_)
  refine lv_iconst (v := (1 : Int32)) hx hb dX7_twice_92 (by decide) ?_
  refine lv_iadd hx hb dX7_twice_93 ?_
  refine zr_iast S hK hw dX7_twice_94 h (fun M21 H locs hw h => ?_)
  refine lv_aload_n hx hb dX7_twice_95 rfl (lv_at hl 0 rfl) ?_
  refine lv_iload_n hx hb dX7_twice_96 rfl (lv_at hl 1 rfl) ?_
  obtain ⟨ho, h⟩ := h
  refine zr_Vv (As := [.int w12]) (rest := []) S hK hw (kX7_trim l lo g M21 w11 w12 _ h) (cwV 1 hts (zg_V zu_447 zu_448 zu_449 zu_450 zu_451) rfl rfl rfl (by decide +kernel) ⟨Nat.le_of_ble_eq_true rfl, Nat.le_of_ble_eq_true rfl⟩) (ci := 10) rfl ho rfl hl.1 rfl (Nat.le_of_ble_eq_true rfl) dX7_twice_97 ⟨Nat.le_of_ble_eq_true rfl, Nat.le_of_ble_eq_true rfl⟩ (fun M22 H locs hw h => ?_)
  exact zr_rv S hr hlocks hw h dX7_twice_100
set_option maxHeartbeats 4000000 in
set_option maxRecDepth 100000 in
theorem sX7_half_48 {p : Program} {l : Launch} {e : Env} {s : State} {m : MethodId} {args : Array Value} {below : List Frame} {meth : Method} {c : Code} {lo : Nat} {g : zg} {post : zm_M → Prop} {k2 : Nat → Int32 → Int32 → zm_M → Prop} (S : CallFix p m c cX7_half 5 s args zU RX7) (hr : meth.sig.returnType = none) (hlocks : meth.locks = false) (hK : zk_K zNF zNM g s) (hk2 : ∀ (v0 : Nat) (v1 : Int32) (v2 : Int32) (M : zm_M), k2 v0 v1 v2 M → ∀ (H : Heap) (locs : List Loc) (ls : Array Slot), zW lo g s H locs M → lv_has ls 5 [(0, .ref v0), (1, .int v1), (2, .int v2)] → W p l e ({ frames := 2, cells := 0, slots := 0, locals := 61 } : Room) s m args below meth c H locs 0 0 (MQ below (va_Qv post (zc_B lo g) (zA lo)) args s 0 0 (zA lo)) (F0 m 2 ls [])) : ∀ (v0 : Nat) (v1 : Int32) (v2 : Int32) (s0 : Int64) (M : zm_M), pX7_half_48 g.2 post k2 v0 v1 v2 s0 M → ∀ (H : Heap) (locs : List Loc) (ls : Array Slot), zW lo g s H locs M → lv_has ls 5 [(0, .ref v0), (1, .int v1), (2, .int v2)] → W p l e ({ frames := 2, cells := 0, slots := 0, locals := 61 } : Room) s m args below meth c H locs 0 0 (MQ below (va_Qv post (zc_B lo g) (zA lo)) args s 0 0 (zA lo)) (F0 m 48 ls [.long s0]) := by
  obtain ⟨hx, hb, hml, hown, hts⟩ := id S
  intro v0 v1 v2 s0 M h H locs ls hw hl
  unfold pX7_half_48 at h
  refine lv_lstore_n (lv' := [(3, .long s0), (0, .ref v0), (1, .int v1), (2, .int v2)]) hx hb dX7_half_48 rfl hl (by decide) rfl (fun ls hl => ?_)
  refine lv_aload_n hx hb dX7_half_49 rfl (lv_at hl 1 rfl) ?_
  refine zr_ga (C := RX7) (T := TX7) (N := 14) (ci := 10) (k := 9) S hK hw zi_X7 rfl (by decide) zu_445 dX7_half_50 h (fun g_6 h => ?_)
  refine lv_bipush (v := (72 : Int32)) hx hb dX7_half_53 (by decide) ?_
  refine lv_iload_n hx hb dX7_half_55 rfl (lv_at hl 2 rfl) ?_
  refine lv_imul hx hb dX7_half_56 ?_
  refine lv_iload_n hx hb dX7_half_57 rfl (lv_at hl 3 rfl) ?_
  refine lv_iadd hx hb dX7_half_58 ?_
  refine lv_aload_n hx hb dX7_half_59 rfl (lv_at hl 1 rfl) ?_
  refine zr_ga (C := RX7) (T := TX7) (N := 14) (ci := 10) (k := 9) S hK hw zi_X7 rfl (by decide) zu_445 dX7_half_60 h (fun g_7 h => ?_)
  refine lv_bipush (v := (72 : Int32)) hx hb dX7_half_63 (by decide) ?_
  refine lv_iload_n hx hb dX7_half_65 rfl (lv_at hl 2 rfl) ?_
  refine lv_imul hx hb dX7_half_66 ?_
  refine lv_iload_n hx hb dX7_half_67 rfl (lv_at hl 3 rfl) ?_
  refine lv_iadd hx hb dX7_half_68 ?_
  refine zr_lald S hK hw dX7_half_69 h (fun e8 h => ?_)
  refine lv_iconst (v := (1 : Int32)) hx hb dX7_half_70 (by decide) ?_
  refine lv_lshr hx hb dX7_half_71 rfl ?_
  refine lv_lload_n hx hb dX7_half_72 rfl (lv_at hl 0 rfl) ?_
  refine lv_lor hx hb dX7_half_73 ?_
  refine zr_last S hK hw dX7_half_74 h (fun M9 H locs hw h => ?_)
  obtain ⟨x10, ex10⟩ : ∃ z : Int32, z = v2 + (1 : Int32) := ⟨_, rfl⟩
  have h := h x10 ex10
  refine lv_iinc (v := x10) (lv' := [(2, .int x10), (3, .long s0), (0, .ref v0), (1, .int v1)]) hx hb dX7_half_75 hl (k := 3) rfl (by rw [ex10]; rfl) (by decide) rfl (fun ls hl => ?_)
  refine lv_goto (tgt := 2) hx hb dX7_half_78 (by decide) ?_
  exact hk2 v0 v1 x10 _ h _ _ _ hw (lv_sub hl [2, 3, 0] rfl)
set_option maxHeartbeats 4000000 in
set_option maxRecDepth 100000 in
theorem sX7_half_2 {p : Program} {l : Launch} {e : Env} {s : State} {m : MethodId} {args : Array Value} {below : List Frame} {meth : Method} {c : Code} {lo : Nat} {g : zg} {post : zm_M → Prop} {k81 : Nat → Int32 → zm_M → Prop} (S : CallFix p m c cX7_half 5 s args zU RX7) (hr : meth.sig.returnType = none) (hlocks : meth.locks = false) (hK : zk_K zNF zNM g s) (hk81 : ∀ (v0 : Nat) (v1 : Int32) (M : zm_M), k81 v0 v1 M → ∀ (H : Heap) (locs : List Loc) (ls : Array Slot), zW lo g s H locs M → lv_has ls 5 [(0, .ref v0), (1, .int v1)] → W p l e ({ frames := 2, cells := 0, slots := 0, locals := 61 } : Room) s m args below meth c H locs 0 0 (MQ below (va_Qv post (zc_B lo g) (zA lo)) args s 0 0 (zA lo)) (F0 m 81 ls [])) : ∀ (n : Nat) (v0 : Nat) (v1 : Int32) (v2 : Int32) (M : zm_M), pX7_half_2 g.2 post k81 n v0 v1 v2 M → ∀ (H : Heap) (locs : List Loc) (ls : Array Slot), zW lo g s H locs M → lv_has ls 5 [(0, .ref v0), (1, .int v1), (2, .int v2)] → W p l e ({ frames := 2, cells := 0, slots := 0, locals := 61 } : Room) s m args below meth c H locs 0 0 (MQ below (va_Qv post (zc_B lo g) (zA lo)) args s 0 0 (zA lo)) (F0 m 2 ls []) := by
  obtain ⟨hx, hb, hml, hown, hts⟩ := id S
  intro n
  induction n with
  | zero =>
    intro v0 v1 v2 M h
    exact False.elim h
  | succ n2 ih =>
    intro v0 v1 v2 M h H locs ls hw hl
    rw [pX7_half_2] at h
    refine lv_iload_n hx hb dX7_half_2 rfl (lv_at hl 2 rfl) ?_
    refine lv_aload_n hx hb dX7_half_3 rfl (lv_at hl 0 rfl) ?_
    refine zr_ga (C := RX7) (T := TX7) (N := 14) (ci := 10) (k := 10) S hK hw zi_X7 rfl (by decide) zu_444 dX7_half_4 h (fun n_2 h => ?_)
    refine lv_iload_n hx hb dX7_half_7 rfl (lv_at hl 1 rfl) ?_
    refine zr_iald S hK hw dX7_half_8 h (fun e3 h => ?_)
    refine lv_icmp_ge (tgt := 81) hx hb dX7_half_9 (by decide) (fun hc => ?_) (fun hc => ?_)
    · have h := h.1 hc
      exact hk81 v0 v1 _ h _ _ _ hw (lv_sub hl [0, 1] rfl)
    · have h := h.2 hc
      refine lv_iload_n hx hb dX7_half_12 rfl (lv_at hl 2 rfl) ?_
      refine lv_iconst (v := (1 : Int32)) hx hb dX7_half_13 (by decide) ?_
      refine lv_iadd hx hb dX7_half_14 ?_
      refine lv_aload_n hx hb dX7_half_15 rfl (lv_at hl 0 rfl) ?_
      refine zr_ga (C := RX7) (T := TX7) (N := 14) (ci := 10) (k := 10) S hK hw zi_X7 rfl (by decide) zu_444 dX7_half_16 h (fun n_4 h => ?_)
      refine lv_iload_n hx hb dX7_half_19 rfl (lv_at hl 1 rfl) ?_
      refine zr_iald S hK hw dX7_half_20 h (fun e5 h => ?_)
      refine lv_icmp_ge (tgt := 47) hx hb dX7_half_21 (by decide) (fun hc => ?_) (fun hc => ?_)
      · have h := h.1 hc
        refine lv_lconst (v := (0 : Int64)) hx hb dX7_half_47 (by decide) ?_
        exact sX7_half_48 S hr hlocks hK ih v0 v1 v2 (0 : Int64) _ h _ _ _ hw (lv_sub hl [0, 1, 2] rfl)
      · have h := h.2 hc
        refine lv_aload_n hx hb dX7_half_24 rfl (lv_at hl 0 rfl) ?_
        refine zr_ga (C := RX7) (T := TX7) (N := 14) (ci := 10) (k := 9) S hK hw zi_X7 rfl (by decide) zu_445 dX7_half_25 h (fun g_11 h => ?_)
        refine lv_bipush (v := (72 : Int32)) hx hb dX7_half_28 (by decide) ?_
        refine lv_iload_n hx hb dX7_half_30 rfl (lv_at hl 1 rfl) ?_
        refine lv_imul hx hb dX7_half_31 ?_
        refine lv_iload_n hx hb dX7_half_32 rfl (lv_at hl 2 rfl) ?_
        refine lv_iadd hx hb dX7_half_33 ?_
        refine lv_iconst (v := (1 : Int32)) hx hb dX7_half_34 (by decide) ?_
        refine lv_iadd hx hb dX7_half_35 ?_
        refine zr_lald S hK hw dX7_half_36 h (fun e12 h => ?_)
        refine lv_bipush (v := (31 : Int32)) hx hb dX7_half_37 (by decide) ?_
        refine lv_lshl hx hb dX7_half_39 rfl ?_
        refine lv_ldc2 (v := (4294967295 : Int64)) hx hb hown (hts _ zu_446) dX7_half_40 ?_
        refine lv_land hx hb dX7_half_43 ?_
        refine lv_goto (tgt := 48) hx hb dX7_half_44 (by decide) ?_
        exact sX7_half_48 S hr hlocks hK ih v0 v1 v2 ((e12 <<< ((31 : Int32).toInt64 &&& 63)) &&& (4294967295 : Int64)) _ h _ _ _ hw (lv_sub hl [0, 1, 2] rfl)
set_option maxHeartbeats 4000000 in
set_option maxRecDepth 100000 in
theorem kX7_half (l : Launch) (lo : Nat) (g : zg) (M : zm_M) (a0 : Nat) (a1 : Int32) (post : zm_M → Prop) (h : pX7_half g.2 a0 a1 post M) : Met l yX7_half (Cond.code yX7_half cX7_half 5 none :: zU) (({ frames := 2, cells := 0, slots := 0, locals := 61 } : Room)) (zc_P zNF zNM lo g M [.ref a0, .int a1]) (va_Qv post (zc_B lo g) (zA lo)) 0 0 (zA lo) := by
  refine Met.ofW (cc := cX7_half) (maxL := 5) (ret := none) (by decide) rfl ?_
  intro p e s m args below meth c s₁ B hml hv
  obtain ⟨rfl, hR, hK⟩ := hv
  have hts := atoms_spec (ws := Cond.code yX7_half cX7_half 5 none :: zU) B.pre
  have hts : ∀ w ∈ zU, w.before _ s = true := fun w hw => hts w (List.mem_cons_of_mem _ hw)
  have hown : s.vm.findClass RX7 = some m.cls := findClass_of_methodNamed B.named
  have hx := B.exec
  have hb := B.bytes
  have hr := B.returns
  have hlocks := B.notSynchronized
  have S : CallFix p m c cX7_half 5 s ([.ref a0, .int a1] : List Value).toArray zU RX7 := ⟨hx, hb, hml, hown, hts⟩
  have hw : zW lo g s s.heap [] M := ⟨hR, va_S.rf⟩
  have hl := lv_entry ([.ref a0, .int a1]) (n := 5) (Nat.le_of_ble_eq_true rfl)
  rw [lg_entry_eq]
  generalize (lg_sl ([.ref a0, .int a1]) ++ List.replicate (5 - (lg_sl ([.ref a0, .int a1])).length) Slot.unset).toArray = ls at hl ⊢
  have hl : lv_has ls 5 [(0, .ref a0), (1, .int a1)] := hl
  unfold pX7_half at h
  refine lv_iconst (v := (0 : Int32)) hx hb dX7_half_0 (by decide) ?_
  refine lv_topi (fun x1 ex1 => ?_)
  have h := h x1 ex1
  refine lv_istore_n (lv' := [(2, .int x1), (0, .ref a0), (1, .int a1)]) hx hb dX7_half_1 rfl hl (by decide) rfl (fun ls hl => ?_)
  obtain ⟨n2, h⟩ := h
  refine sX7_half_2 S hr hlocks hK (fun w13 w14 M15 h H locs ls hw hl => ?_) n2 a0 a1 x1 _ h _ _ _ hw (lv_sub hl [1, 2, 0] rfl)
  refine lv_aload_n hx hb dX7_half_81 rfl (lv_at hl 0 rfl) ?_
  refine lv_iload_n hx hb dX7_half_82 rfl (lv_at hl 1 rfl) ?_
  obtain ⟨ho, h⟩ := h
  refine zr_Vv (As := [.int w14]) (rest := []) S hK hw (kX7_trim l lo g M15 w13 w14 _ h) (cwV 1 hts (zg_V zu_447 zu_448 zu_449 zu_450 zu_451) rfl rfl rfl (by decide +kernel) ⟨Nat.le_of_ble_eq_true rfl, Nat.le_of_ble_eq_true rfl⟩) (ci := 10) rfl ho rfl hl.1 rfl (Nat.le_of_ble_eq_true rfl) dX7_half_83 ⟨Nat.le_of_ble_eq_true rfl, Nat.le_of_ble_eq_true rfl⟩ (fun M16 H locs hw h => ?_)
  exact zr_rv S hr hlocks hw h dX7_half_86
set_option maxHeartbeats 4000000 in
set_option maxRecDepth 100000 in
theorem sX7_up_15 {p : Program} {l : Launch} {e : Env} {s : State} {m : MethodId} {args : Array Value} {below : List Frame} {meth : Method} {c : Code} {lo : Nat} {g : zg} {post : zm_M → Prop} {k52 : Nat → Int32 → Int32 → Int32 → zm_M → Prop} (S : CallFix p m c cX7_up 5 s args zU RX7) (hr : meth.sig.returnType = none) (hlocks : meth.locks = false) (hK : zk_K zNF zNM g s) (hk52 : ∀ (v0 : Nat) (v1 : Int32) (v2 : Int32) (v3 : Int32) (M : zm_M), k52 v0 v1 v2 v3 M → ∀ (H : Heap) (locs : List Loc) (ls : Array Slot), zW lo g s H locs M → lv_has ls 5 [(0, .ref v0), (1, .int v1), (2, .int v2), (3, .int v3)] → W p l e ({ frames := 3, cells := 0, slots := 0, locals := 87 } : Room) s m args below meth c H locs 0 0 (MQ below (va_Qv post (zc_B lo g) (zA lo)) args s 0 0 (zA lo)) (F0 m 52 ls [])) : ∀ (n : Nat) (v0 : Nat) (v1 : Int32) (v2 : Int32) (v3 : Int32) (v4 : Int32) (M : zm_M), pX7_up_15 g.2 post k52 n v0 v1 v2 v3 v4 M → ∀ (H : Heap) (locs : List Loc) (ls : Array Slot), zW lo g s H locs M → lv_has ls 5 [(0, .ref v0), (1, .int v1), (2, .int v2), (3, .int v3), (4, .int v4)] → W p l e ({ frames := 3, cells := 0, slots := 0, locals := 87 } : Room) s m args below meth c H locs 0 0 (MQ below (va_Qv post (zc_B lo g) (zA lo)) args s 0 0 (zA lo)) (F0 m 15 ls []) := by
  obtain ⟨hx, hb, hml, hown, hts⟩ := id S
  intro n
  induction n with
  | zero =>
    intro v0 v1 v2 v3 v4 M h
    exact False.elim h
  | succ n15 ih =>
    intro v0 v1 v2 v3 v4 M h H locs ls hw hl
    rw [pX7_up_15] at h
    refine lv_iload hx hb dX7_up_15 (lv_at hl 4 rfl) ?_
    refine lv_if_lt (tgt := 52) hx hb dX7_up_17 (by decide) (fun hc => ?_) (fun hc => ?_)
    · have h := h.1 hc
      exact hk52 v0 v1 v2 v3 _ h _ _ _ hw (lv_sub hl [0, 1, 2, 3] rfl)
    · have h := h.2 hc
      refine lv_aload_n hx hb dX7_up_20 rfl (lv_at hl 0 rfl) ?_
      refine zr_ga (C := RX7) (T := TX7) (N := 14) (ci := 10) (k := 9) S hK hw zi_X7 rfl (by decide) zu_445 dX7_up_21 h (fun g_5 h => ?_)
      refine lv_bipush (v := (72 : Int32)) hx hb dX7_up_24 (by decide) ?_
      refine lv_iload_n hx hb dX7_up_26 rfl (lv_at hl 1 rfl) ?_
      refine lv_imul hx hb dX7_up_27 ?_
      refine lv_iload hx hb dX7_up_28 (lv_at hl 4 rfl) ?_
      refine lv_iadd hx hb dX7_up_30 ?_
      refine lv_iload_n hx hb dX7_up_31 rfl (lv_at hl 3 rfl) ?_
      refine lv_iadd hx hb dX7_up_32 ?_
      refine lv_aload_n hx hb dX7_up_33 rfl (lv_at hl 0 rfl) ?_
      refine zr_ga (C := RX7) (T := TX7) (N := 14) (ci := 10) (k := 9) S hK hw zi_X7 rfl (by decide) zu_445 dX7_up_34 h (fun g_6 h => ?_)
      refine lv_bipush (v := (72 : Int32)) hx hb dX7_up_37 (by decide) ?_
      refine lv_iload_n hx hb dX7_up_39 rfl (lv_at hl 1 rfl) ?_
      refine lv_imul hx hb dX7_up_40 ?_
      refine lv_iload hx hb dX7_up_41 (lv_at hl 4 rfl) ?_
      refine lv_iadd hx hb dX7_up_43 ?_
      refine zr_lald S hK hw dX7_up_44 h (fun e7 h => ?_)
      refine zr_last S hK hw dX7_up_45 h (fun M8 H locs hw h => ?_)
      obtain ⟨x9, ex9⟩ : ∃ z : Int32, z = v4 + (-1 : Int32) := ⟨_, rfl⟩
      have h := h x9 ex9
      refine lv_iinc (v := x9) (lv' := [(4, .int x9), (0, .ref v0), (1, .int v1), (2, .int v2), (3, .int v3)]) hx hb dX7_up_46 hl (k := 4) rfl (by rw [ex9]; rfl) (by decide) rfl (fun ls hl => ?_)
      refine lv_goto (tgt := 15) hx hb dX7_up_49 (by decide) ?_
      exact ih v0 v1 v2 v3 x9 _ h _ _ _ hw (lv_sub hl [1, 2, 3, 4, 0] rfl)
set_option maxHeartbeats 4000000 in
set_option maxRecDepth 100000 in
theorem sX7_up_55 {p : Program} {l : Launch} {e : Env} {s : State} {m : MethodId} {args : Array Value} {below : List Frame} {meth : Method} {c : Code} {lo : Nat} {g : zg} {post : zm_M → Prop} {k89 : Nat → Int32 → Int32 → Int32 → zm_M → Prop} (S : CallFix p m c cX7_up 5 s args zU RX7) (hr : meth.sig.returnType = none) (hlocks : meth.locks = false) (hK : zk_K zNF zNM g s) (hk89 : ∀ (v0 : Nat) (v1 : Int32) (v2 : Int32) (v3 : Int32) (M : zm_M), k89 v0 v1 v2 v3 M → ∀ (H : Heap) (locs : List Loc) (ls : Array Slot), zW lo g s H locs M → lv_has ls 5 [(0, .ref v0), (1, .int v1), (2, .int v2), (3, .int v3)] → W p l e ({ frames := 3, cells := 0, slots := 0, locals := 87 } : Room) s m args below meth c H locs 0 0 (MQ below (va_Qv post (zc_B lo g) (zA lo)) args s 0 0 (zA lo)) (F0 m 89 ls [])) : ∀ (n : Nat) (v0 : Nat) (v1 : Int32) (v2 : Int32) (v3 : Int32) (v4 : Int32) (M : zm_M), pX7_up_55 g.2 post k89 n v0 v1 v2 v3 v4 M → ∀ (H : Heap) (locs : List Loc) (ls : Array Slot), zW lo g s H locs M → lv_has ls 5 [(0, .ref v0), (1, .int v1), (2, .int v2), (3, .int v3), (4, .int v4)] → W p l e ({ frames := 3, cells := 0, slots := 0, locals := 87 } : Room) s m args below meth c H locs 0 0 (MQ below (va_Qv post (zc_B lo g) (zA lo)) args s 0 0 (zA lo)) (F0 m 55 ls []) := by
  obtain ⟨hx, hb, hml, hown, hts⟩ := id S
  intro n
  induction n with
  | zero =>
    intro v0 v1 v2 v3 v4 M h
    exact False.elim h
  | succ n55 ih =>
    intro v0 v1 v2 v3 v4 M h H locs ls hw hl
    rw [pX7_up_55] at h
    refine lv_iload hx hb dX7_up_55 (lv_at hl 4 rfl) ?_
    refine lv_iload_n hx hb dX7_up_57 rfl (lv_at hl 3 rfl) ?_
    refine lv_icmp_ge (tgt := 89) hx hb dX7_up_58 (by decide) (fun hc => ?_) (fun hc => ?_)
    · have h := h.1 hc
      exact hk89 v0 v1 v2 v3 _ h _ _ _ hw (lv_sub hl [0, 1, 2, 3] rfl)
    · have h := h.2 hc
      refine lv_aload_n hx hb dX7_up_61 rfl (lv_at hl 0 rfl) ?_
      refine zr_ga (C := RX7) (T := TX7) (N := 14) (ci := 10) (k := 10) S hK hw zi_X7 rfl (by decide) zu_444 dX7_up_62 h (fun n_16 h => ?_)
      refine lv_iload_n hx hb dX7_up_65 rfl (lv_at hl 1 rfl) ?_
      refine zr_iald S hK hw dX7_up_66 h (fun e17 h => ?_)
      refine lv_if_le (tgt := 89) hx hb dX7_up_67 (by decide) (fun hc => ?_) (fun hc => ?_)
      · have h := h.1 hc
        exact hk89 v0 v1 v2 v3 _ h _ _ _ hw (lv_sub hl [0, 1, 2, 3] rfl)
      · have h := h.2 hc
        refine lv_aload_n hx hb dX7_up_70 rfl (lv_at hl 0 rfl) ?_
        refine zr_ga (C := RX7) (T := TX7) (N := 14) (ci := 10) (k := 9) S hK hw zi_X7 rfl (by decide) zu_445 dX7_up_71 h (fun g_18 h => ?_)
        refine lv_bipush (v := (72 : Int32)) hx hb dX7_up_74 (by decide) ?_
        refine lv_iload_n hx hb dX7_up_76 rfl (lv_at hl 1 rfl) ?_
        refine lv_imul hx hb dX7_up_77 ?_
        refine lv_iload hx hb dX7_up_78 (lv_at hl 4 rfl) ?_
        refine lv_iadd hx hb dX7_up_80 ?_
        refine lv_lconst (v := (0 : Int64)) hx hb dX7_up_81 (by decide) ?_
        refine zr_last S hK hw dX7_up_82 h (fun M19 H locs hw h => ?_)
        obtain ⟨x20, ex20⟩ : ∃ z : Int32, z = v4 + (1 : Int32) := ⟨_, rfl⟩
        have h := h x20 ex20
        refine lv_iinc (v := x20) (lv' := [(4, .int x20), (0, .ref v0), (1, .int v1), (2, .int v2), (3, .int v3)]) hx hb dX7_up_83 hl (k := 4) rfl (by rw [ex20]; rfl) (by decide) rfl (fun ls hl => ?_)
        refine lv_goto (tgt := 55) hx hb dX7_up_86 (by decide) ?_
        exact ih v0 v1 v2 v3 x20 _ h _ _ _ hw (lv_sub hl [1, 2, 3, 4, 0] rfl)
set_option maxHeartbeats 4000000 in
set_option maxRecDepth 100000 in
theorem sX7_up_115 {p : Program} {l : Launch} {e : Env} {s : State} {m : MethodId} {args : Array Value} {below : List Frame} {meth : Method} {c : Code} {lo : Nat} {g : zg} {post : zm_M → Prop}  (S : CallFix p m c cX7_up 5 s args zU RX7) (hr : meth.sig.returnType = none) (hlocks : meth.locks = false) (hK : zk_K zNF zNM g s)  : ∀ (n : Nat) (v0 : Nat) (v1 : Int32) (v2 : Int32) (v4 : Int32) (M : zm_M), pX7_up_115 g.2 post  n v0 v1 v2 v4 M → ∀ (H : Heap) (locs : List Loc) (ls : Array Slot), zW lo g s H locs M → lv_has ls 5 [(0, .ref v0), (1, .int v1), (2, .int v2), (4, .int v4)] → W p l e ({ frames := 3, cells := 0, slots := 0, locals := 87 } : Room) s m args below meth c H locs 0 0 (MQ below (va_Qv post (zc_B lo g) (zA lo)) args s 0 0 (zA lo)) (F0 m 115 ls []) := by
  obtain ⟨hx, hb, hml, hown, hts⟩ := id S
  intro n
  induction n with
  | zero =>
    intro v0 v1 v2 v4 M h
    exact False.elim h
  | succ n115 ih =>
    intro v0 v1 v2 v4 M h H locs ls hw hl
    rw [pX7_up_115] at h
    refine lv_iload hx hb dX7_up_115 (lv_at hl 3 rfl) ?_
    refine lv_iload_n hx hb dX7_up_117 rfl (lv_at hl 2 rfl) ?_
    refine lv_bipush (v := (32 : Int32)) hx hb dX7_up_118 (by decide) ?_
    refine lv_irem hx hb dX7_up_120 (by decide) ?_
    refine lv_icmp_ge (tgt := 136) hx hb dX7_up_121 (by decide) (fun hc => ?_) (fun hc => ?_)
    · have h := h.1 hc
      exact zr_rv S hr hlocks hw h dX7_up_136
    · have h := h.2 hc
      refine lv_aload_n hx hb dX7_up_124 rfl (lv_at hl 0 rfl) ?_
      refine lv_iload_n hx hb dX7_up_125 rfl (lv_at hl 1 rfl) ?_
      refine lv_lconst (v := (0 : Int64)) hx hb dX7_up_126 (by decide) ?_
      obtain ⟨ho, h⟩ := h
      refine zr_Vv (As := [.int v1, .long (0 : Int64)]) (rest := []) S hK hw (kX7_twice l lo g M v0 v1 (0 : Int64) _ h) (cwV 2 hts (zg_V zu_453 zu_454 zu_455 zu_450 zu_456) rfl rfl rfl (by decide +kernel) ⟨Nat.le_of_ble_eq_true rfl, Nat.le_of_ble_eq_true rfl⟩) (ci := 10) rfl ho rfl hl.1 rfl (Nat.le_of_ble_eq_true rfl) dX7_up_127 ⟨Nat.le_of_ble_eq_true rfl, Nat.le_of_ble_eq_true rfl⟩ (fun M32 H locs hw h => ?_)
      obtain ⟨x33, ex33⟩ : ∃ z : Int32, z = v4 + (1 : Int32) := ⟨_, rfl⟩
      have h := h x33 ex33
      refine lv_iinc (v := x33) (lv' := [(4, .int x33), (0, .ref v0), (1, .int v1), (2, .int v2)]) hx hb dX7_up_130 hl (k := 3) rfl (by rw [ex33]; rfl) (by decide) rfl (fun ls hl => ?_)
      refine lv_goto (tgt := 115) hx hb dX7_up_133 (by decide) ?_
      exact ih v0 v1 v2 x33 _ h _ _ _ hw (lv_sub hl [1, 2, 3, 0] rfl)
set_option maxHeartbeats 4000000 in
set_option maxRecDepth 100000 in
theorem sX7_up_89 {p : Program} {l : Launch} {e : Env} {s : State} {m : MethodId} {args : Array Value} {below : List Frame} {meth : Method} {c : Code} {lo : Nat} {g : zg} {post : zm_M → Prop}  (S : CallFix p m c cX7_up 5 s args zU RX7) (hr : meth.sig.returnType = none) (hlocks : meth.locks = false) (hK : zk_K zNF zNM g s)  : ∀ (v0 : Nat) (v1 : Int32) (v2 : Int32) (v3 : Int32) (M : zm_M), pX7_up_89 g.2 post  v0 v1 v2 v3 M → ∀ (H : Heap) (locs : List Loc) (ls : Array Slot), zW lo g s H locs M → lv_has ls 5 [(0, .ref v0), (1, .int v1), (2, .int v2), (3, .int v3)] → W p l e ({ frames := 3, cells := 0, slots := 0, locals := 87 } : Room) s m args below meth c H locs 0 0 (MQ below (va_Qv post (zc_B lo g) (zA lo)) args s 0 0 (zA lo)) (F0 m 89 ls []) := by
  obtain ⟨hx, hb, hml, hown, hts⟩ := id S
  intro v0 v1 v2 v3 M h H locs ls hw hl
  unfold pX7_up_89 at h
  refine lv_aload_n hx hb dX7_up_89 rfl (lv_at hl 0 rfl) ?_
  refine zr_ga (C := RX7) (T := TX7) (N := 14) (ci := 10) (k := 10) S hK hw zi_X7 rfl (by decide) zu_444 dX7_up_90 h (fun n_26 h => ?_)
  refine lv_iload_n hx hb dX7_up_93 rfl (lv_at hl 1 rfl) ?_
  refine lv_dup2_11 hx hb dX7_up_94 rfl rfl ?_
  refine zr_iald S hK hw dX7_up_95 h (fun e27 h => ?_)
  refine lv_aload_n hx hb dX7_up_96 rfl (lv_at hl 0 rfl) ?_
  refine zr_ga (C := RX7) (T := TX7) (N := 14) (ci := 10) (k := 10) S hK hw zi_X7 rfl (by decide) zu_444 dX7_up_97 h (fun n_28 h => ?_)
  refine lv_iload_n hx hb dX7_up_100 rfl (lv_at hl 1 rfl) ?_
  refine zr_iald S hK hw dX7_up_101 h (fun e29 h => ?_)
  refine lv_if_le (tgt := 109) hx hb dX7_up_102 (by decide) (fun hc => ?_) (fun hc => ?_)
  · have h := h.1 hc
    refine lv_iconst (v := (0 : Int32)) hx hb dX7_up_109 (by decide) ?_
    refine lv_iadd hx hb dX7_up_110 ?_
    refine zr_iast S hK hw dX7_up_111 h (fun M30 H locs hw h => ?_)
    refine lv_iconst (v := (0 : Int32)) hx hb dX7_up_112 (by decide) ?_
    refine lv_topi (fun x31 ex31 => ?_)
    have h := h x31 ex31
    refine lv_istore (lv' := [(4, .int x31), (0, .ref v0), (1, .int v1), (2, .int v2), (3, .int v3)]) hx hb dX7_up_113 hl (by decide) rfl (fun ls hl => ?_)
    obtain ⟨n115, h⟩ := h
    refine sX7_up_115 S hr hlocks hK  n115 v0 v1 v2 x31 _ h _ _ _ hw (lv_sub hl [1, 2, 3, 0] rfl)
  · have h := h.2 hc
    refine lv_iload_n hx hb dX7_up_105 rfl (lv_at hl 3 rfl) ?_
    refine lv_goto (tgt := 110) hx hb dX7_up_106 (by decide) ?_
    refine lv_iadd hx hb dX7_up_110 ?_
    refine zr_iast S hK hw dX7_up_111 h (fun M34 H locs hw h => ?_)
    refine lv_iconst (v := (0 : Int32)) hx hb dX7_up_112 (by decide) ?_
    refine lv_topi (fun x35 ex35 => ?_)
    have h := h x35 ex35
    refine lv_istore (lv' := [(4, .int x35), (0, .ref v0), (1, .int v1), (2, .int v2), (3, .int v3)]) hx hb dX7_up_113 hl (by decide) rfl (fun ls hl => ?_)
    obtain ⟨n115, h⟩ := h
    refine sX7_up_115 S hr hlocks hK  n115 v0 v1 v2 x35 _ h _ _ _ hw (lv_sub hl [1, 2, 3, 0] rfl)
set_option maxHeartbeats 4000000 in
set_option maxRecDepth 100000 in
theorem kX7_up (l : Launch) (lo : Nat) (g : zg) (M : zm_M) (a0 : Nat) (a1 : Int32) (a2 : Int32) (post : zm_M → Prop) (h : pX7_up g.2 a0 a1 a2 post M) : Met l yX7_up (Cond.code yX7_up cX7_up 5 none :: zU) (({ frames := 3, cells := 0, slots := 0, locals := 87 } : Room)) (zc_P zNF zNM lo g M [.ref a0, .int a1, .int a2]) (va_Qv post (zc_B lo g) (zA lo)) 0 0 (zA lo) := by
  refine Met.ofW (cc := cX7_up) (maxL := 5) (ret := none) (by decide) rfl ?_
  intro p e s m args below meth c s₁ B hml hv
  obtain ⟨rfl, hR, hK⟩ := hv
  have hts := atoms_spec (ws := Cond.code yX7_up cX7_up 5 none :: zU) B.pre
  have hts : ∀ w ∈ zU, w.before _ s = true := fun w hw => hts w (List.mem_cons_of_mem _ hw)
  have hown : s.vm.findClass RX7 = some m.cls := findClass_of_methodNamed B.named
  have hx := B.exec
  have hb := B.bytes
  have hr := B.returns
  have hlocks := B.notSynchronized
  have S : CallFix p m c cX7_up 5 s ([.ref a0, .int a1, .int a2] : List Value).toArray zU RX7 := ⟨hx, hb, hml, hown, hts⟩
  have hw : zW lo g s s.heap [] M := ⟨hR, va_S.rf⟩
  have hl := lv_entry ([.ref a0, .int a1, .int a2]) (n := 5) (Nat.le_of_ble_eq_true rfl)
  rw [lg_entry_eq]
  generalize (lg_sl ([.ref a0, .int a1, .int a2]) ++ List.replicate (5 - (lg_sl ([.ref a0, .int a1, .int a2])).length) Slot.unset).toArray = ls at hl ⊢
  have hl : lv_has ls 5 [(0, .ref a0), (1, .int a1), (2, .int a2)] := hl
  unfold pX7_up at h
  refine lv_iload_n hx hb dX7_up_0 rfl (lv_at hl 2 rfl) ?_
  refine lv_bipush (v := (32 : Int32)) hx hb dX7_up_1 (by decide) ?_
  refine lv_idiv hx hb dX7_up_3 (by decide) ?_
  refine lv_topi (fun x1 ex1 => ?_)
  have h := h x1 ex1
  refine lv_istore_n (lv' := [(3, .int x1), (0, .ref a0), (1, .int a1), (2, .int a2)]) hx hb dX7_up_4 rfl hl (by decide) rfl (fun ls hl => ?_)
  refine lv_aload_n hx hb dX7_up_5 rfl (lv_at hl 1 rfl) ?_
  refine zr_ga (C := RX7) (T := TX7) (N := 14) (ci := 10) (k := 10) S hK hw zi_X7 rfl (by decide) zu_444 dX7_up_6 h (fun n_2 h => ?_)
  refine lv_iload_n hx hb dX7_up_9 rfl (lv_at hl 2 rfl) ?_
  refine zr_iald S hK hw dX7_up_10 h (fun e3 h => ?_)
  refine lv_iconst (v := (1 : Int32)) hx hb dX7_up_11 (by decide) ?_
  refine lv_isub hx hb dX7_up_12 ?_
  refine lv_topi (fun x4 ex4 => ?_)
  have h := h x4 ex4
  refine lv_istore (lv' := [(4, .int x4), (3, .int x1), (0, .ref a0), (1, .int a1), (2, .int a2)]) hx hb dX7_up_13 hl (by decide) rfl (fun ls hl => ?_)
  obtain ⟨n15, h⟩ := h
  refine sX7_up_15 S hr hlocks hK (fun w10 w11 w12 w13 M14 h H locs ls hw hl => ?_) n15 a0 a1 a2 x1 x4 _ h _ _ _ hw (lv_sub hl [2, 3, 4, 1, 0] rfl)
  refine lv_iconst (v := (0 : Int32)) hx hb dX7_up_52 (by decide) ?_
  refine lv_topi (fun x15 ex15 => ?_)
  have h := h x15 ex15
  refine lv_istore (lv' := [(4, .int x15), (0, .ref w10), (1, .int w11), (2, .int w12), (3, .int w13)]) hx hb dX7_up_53 hl (by decide) rfl (fun ls hl => ?_)
  obtain ⟨n55, h⟩ := h
  refine sX7_up_55 S hr hlocks hK (fun w21 w22 w23 w24 M25 h H locs ls hw hl => ?_) n55 w10 w11 w12 w13 x15 _ h _ _ _ hw (lv_sub hl [1, 2, 3, 4, 0] rfl)
  exact sX7_up_89 S hr hlocks hK  w21 w22 w23 w24 _ h _ _ _ hw (lv_sub hl [0, 1, 2, 3] rfl)
set_option maxHeartbeats 4000000 in
set_option maxRecDepth 100000 in
theorem sX7_divide_22 {p : Program} {l : Launch} {e : Env} {s : State} {m : MethodId} {args : Array Value} {below : List Frame} {meth : Method} {c : Code} {lo : Nat} {g : zg} {post : zm_M → Prop} {k52 : Nat → Int32 → Int32 → Int32 → Int32 → zm_M → Prop} (S : CallFix p m c cX7_divide 6 s args zU RX7) (hr : meth.sig.returnType = none) (hlocks : meth.locks = false) (hK : zk_K zNF zNM g s) (hk52 : ∀ (v0 : Nat) (v1 : Int32) (v2 : Int32) (v3 : Int32) (v4 : Int32) (M : zm_M), k52 v0 v1 v2 v3 v4 M → ∀ (H : Heap) (locs : List Loc) (ls : Array Slot), zW lo g s H locs M → lv_has ls 6 [(0, .ref v0), (1, .int v1), (2, .int v2), (3, .int v3), (4, .int v4)] → W p l e ({ frames := 3, cells := 0, slots := 0, locals := 87 } : Room) s m args below meth c H locs 0 0 (MQ below (va_Qv post (zc_B lo g) (zA lo)) args s 0 0 (zA lo)) (F0 m 52 ls [])) : ∀ (n : Nat) (v0 : Nat) (v1 : Int32) (v2 : Int32) (v3 : Int32) (v4 : Int32) (v5 : Int32) (M : zm_M), pX7_divide_22 g.2 post k52 n v0 v1 v2 v3 v4 v5 M → ∀ (H : Heap) (locs : List Loc) (ls : Array Slot), zW lo g s H locs M → lv_has ls 6 [(0, .ref v0), (1, .int v1), (2, .int v2), (3, .int v3), (4, .int v4), (5, .int v5)] → W p l e ({ frames := 3, cells := 0, slots := 0, locals := 87 } : Room) s m args below meth c H locs 0 0 (MQ below (va_Qv post (zc_B lo g) (zA lo)) args s 0 0 (zA lo)) (F0 m 22 ls []) := by
  obtain ⟨hx, hb, hml, hown, hts⟩ := id S
  intro n
  induction n with
  | zero =>
    intro v0 v1 v2 v3 v4 v5 M h
    exact False.elim h
  | succ n22 ih =>
    intro v0 v1 v2 v3 v4 v5 M h H locs ls hw hl
    rw [pX7_divide_22] at h
    refine lv_iload hx hb dX7_divide_22 (lv_at hl 5 rfl) ?_
    refine lv_aload_n hx hb dX7_divide_24 rfl (lv_at hl 0 rfl) ?_
    refine zr_ga (C := RX7) (T := TX7) (N := 14) (ci := 10) (k := 10) S hK hw zi_X7 rfl (by decide) zu_444 dX7_divide_25 h (fun n_8 h => ?_)
    refine lv_iload_n hx hb dX7_divide_28 rfl (lv_at hl 1 rfl) ?_
    refine zr_iald S hK hw dX7_divide_29 h (fun e9 h => ?_)
    refine lv_icmp_ge (tgt := 52) hx hb dX7_divide_30 (by decide) (fun hc => ?_) (fun hc => ?_)
    · have h := h.1 hc
      exact hk52 v0 v1 v2 v3 v4 _ h _ _ _ hw (lv_sub hl [0, 1, 2, 3, 4] rfl)
    · have h := h.2 hc
      refine lv_aload_n hx hb dX7_divide_33 rfl (lv_at hl 0 rfl) ?_
      refine zr_ga (C := RX7) (T := TX7) (N := 14) (ci := 10) (k := 9) S hK hw zi_X7 rfl (by decide) zu_445 dX7_divide_34 h (fun g_10 h => ?_)
      refine lv_bipush (v := (72 : Int32)) hx hb dX7_divide_37 (by decide) ?_
      refine lv_iload_n hx hb dX7_divide_39 rfl (lv_at hl 1 rfl) ?_
      refine lv_imul hx hb dX7_divide_40 ?_
      refine lv_iload hx hb dX7_divide_41 (lv_at hl 5 rfl) ?_
      refine lv_iadd hx hb dX7_divide_43 ?_
      refine lv_lconst (v := (0 : Int64)) hx hb dX7_divide_44 (by decide) ?_
      refine zr_last S hK hw dX7_divide_45 h (fun M11 H locs hw h => ?_)
      obtain ⟨x12, ex12⟩ : ∃ z : Int32, z = v5 + (1 : Int32) := ⟨_, rfl⟩
      have h := h x12 ex12
      refine lv_iinc (v := x12) (lv' := [(5, .int x12), (0, .ref v0), (1, .int v1), (2, .int v2), (3, .int v3), (4, .int v4)]) hx hb dX7_divide_46 hl (k := 5) rfl (by rw [ex12]; rfl) (by decide) rfl (fun ls hl => ?_)
      refine lv_goto (tgt := 22) hx hb dX7_divide_49 (by decide) ?_
      exact ih v0 v1 v2 v3 v4 x12 _ h _ _ _ hw (lv_sub hl [1, 2, 3, 4, 5, 0] rfl)
set_option maxHeartbeats 4000000 in
set_option maxRecDepth 100000 in
theorem sX7_divide_65 {p : Program} {l : Launch} {e : Env} {s : State} {m : MethodId} {args : Array Value} {below : List Frame} {meth : Method} {c : Code} {lo : Nat} {g : zg} {post : zm_M → Prop} {k146 : Nat → Int32 → zm_M → Prop} (S : CallFix p m c cX7_divide 6 s args zU RX7) (hr : meth.sig.returnType = none) (hlocks : meth.locks = false) (hK : zk_K zNF zNM g s) (hk146 : ∀ (v0 : Nat) (v1 : Int32) (M : zm_M), k146 v0 v1 M → ∀ (H : Heap) (locs : List Loc) (ls : Array Slot), zW lo g s H locs M → lv_has ls 6 [(0, .ref v0), (1, .int v1)] → W p l e ({ frames := 3, cells := 0, slots := 0, locals := 87 } : Room) s m args below meth c H locs 0 0 (MQ below (va_Qv post (zc_B lo g) (zA lo)) args s 0 0 (zA lo)) (F0 m 146 ls [])) : ∀ (n : Nat) (v0 : Nat) (v1 : Int32) (v2 : Int32) (v3 : Int32) (v4 : Int32) (v5 : Int32) (M : zm_M), pX7_divide_65 g.2 post k146 n v0 v1 v2 v3 v4 v5 M → ∀ (H : Heap) (locs : List Loc) (ls : Array Slot), zW lo g s H locs M → lv_has ls 6 [(0, .ref v0), (1, .int v1), (2, .int v2), (3, .int v3), (4, .int v4), (5, .int v5)] → W p l e ({ frames := 3, cells := 0, slots := 0, locals := 87 } : Room) s m args below meth c H locs 0 0 (MQ below (va_Qv post (zc_B lo g) (zA lo)) args s 0 0 (zA lo)) (F0 m 65 ls []) := by
  obtain ⟨hx, hb, hml, hown, hts⟩ := id S
  intro n
  induction n with
  | zero =>
    intro v0 v1 v2 v3 v4 v5 M h
    exact False.elim h
  | succ n65 ih =>
    intro v0 v1 v2 v3 v4 v5 M h H locs ls hw hl
    rw [pX7_divide_65] at h
    refine lv_iload hx hb dX7_divide_65 (lv_at hl 5 rfl) ?_
    refine lv_if_lt (tgt := 146) hx hb dX7_divide_67 (by decide) (fun hc => ?_) (fun hc => ?_)
    · have h := h.1 hc
      exact hk146 v0 v1 _ h _ _ _ hw (lv_sub hl [0, 1] rfl)
    · have h := h.2 hc
      refine lv_aload_n hx hb dX7_divide_70 rfl (lv_at hl 0 rfl) ?_
      refine lv_iload_n hx hb dX7_divide_71 rfl (lv_at hl 2 rfl) ?_
      refine lv_aload_n hx hb dX7_divide_72 rfl (lv_at hl 0 rfl) ?_
      refine zr_ga (C := RX7) (T := TX7) (N := 14) (ci := 10) (k := 9) S hK hw zi_X7 rfl (by decide) zu_445 dX7_divide_73 h (fun g_22 h => ?_)
      refine lv_bipush (v := (72 : Int32)) hx hb dX7_divide_76 (by decide) ?_
      refine lv_iload_n hx hb dX7_divide_78 rfl (lv_at hl 3 rfl) ?_
      refine lv_imul hx hb dX7_divide_79 ?_
      refine lv_iload hx hb dX7_divide_80 (lv_at hl 5 rfl) ?_
      refine lv_bipush (v := (32 : Int32)) hx hb dX7_divide_82 (by decide) ?_
      refine lv_idiv hx hb dX7_divide_84 (by decide) ?_
      refine lv_iadd hx hb dX7_divide_85 ?_
      refine zr_lald S hK hw dX7_divide_86 h (fun e23 h => ?_)
      refine lv_iload hx hb dX7_divide_87 (lv_at hl 5 rfl) ?_
      refine lv_bipush (v := (32 : Int32)) hx hb dX7_divide_89 (by decide) ?_
      refine lv_irem hx hb dX7_divide_91 (by decide) ?_
      refine lv_lshr hx hb dX7_divide_92 rfl ?_
      refine lv_lconst (v := (1 : Int64)) hx hb dX7_divide_93 (by decide) ?_
      refine lv_land hx hb dX7_divide_94 ?_
      obtain ⟨ho, h⟩ := h
      refine zr_Vv (As := [.int v2, .long ((e23 >>> ((v5 - v5 / (32 : Int32) * (32 : Int32)).toInt64 &&& 63)) &&& (1 : Int64))]) (rest := []) S hK hw (kX7_twice l lo g M v0 v2 ((e23 >>> ((v5 - v5 / (32 : Int32) * (32 : Int32)).toInt64 &&& 63)) &&& (1 : Int64)) _ h) (cwV 2 hts (zg_V zu_453 zu_454 zu_455 zu_450 zu_456) rfl rfl rfl (by decide +kernel) ⟨Nat.le_of_ble_eq_true rfl, Nat.le_of_ble_eq_true rfl⟩) (ci := 10) rfl ho rfl hl.1 rfl (Nat.le_of_ble_eq_true rfl) dX7_divide_95 ⟨Nat.le_of_ble_eq_true rfl, Nat.le_of_ble_eq_true rfl⟩ (fun M24 H locs hw h => ?_)
      refine lv_aload_n hx hb dX7_divide_98 rfl (lv_at hl 0 rfl) ?_
      refine lv_iload_n hx hb dX7_divide_99 rfl (lv_at hl 2 rfl) ?_
      refine lv_iload hx hb dX7_divide_100 (lv_at hl 4 rfl) ?_
      obtain ⟨ho, h⟩ := h
      refine zr_Vi (As := [.int v2, .int v4]) (rest := []) S hK hw (kX7_compared l lo g M24 v0 v2 v4 _ h) (cwV 2 hts (zg_V zu_457 zu_458 zu_459 zu_450 zu_460) rfl rfl rfl (by decide +kernel) ⟨Nat.le_of_ble_eq_true rfl, Nat.le_of_ble_eq_true rfl⟩) (ci := 10) rfl ho rfl hl.1 rfl (Nat.le_of_ble_eq_true rfl) dX7_divide_102 ⟨Nat.le_of_ble_eq_true rfl, Nat.le_of_ble_eq_true rfl⟩ (fun r26 M25 H locs hw h => ?_)
      refine lv_if_lt (tgt := 140) hx hb dX7_divide_105 (by decide) (fun hc => ?_) (fun hc => ?_)
      · have h := h.1 hc
        obtain ⟨x27, ex27⟩ : ∃ z : Int32, z = v5 + (-1 : Int32) := ⟨_, rfl⟩
        have h := h x27 ex27
        refine lv_iinc (v := x27) (lv' := [(5, .int x27), (0, .ref v0), (1, .int v1), (2, .int v2), (3, .int v3), (4, .int v4)]) hx hb dX7_divide_140 hl (k := 5) rfl (by rw [ex27]; rfl) (by decide) rfl (fun ls hl => ?_)
        refine lv_goto (tgt := 65) hx hb dX7_divide_143 (by decide) ?_
        exact ih v0 v1 v2 v3 v4 x27 _ h _ _ _ hw (lv_sub hl [1, 2, 3, 4, 5, 0] rfl)
      · have h := h.2 hc
        refine lv_aload_n hx hb dX7_divide_108 rfl (lv_at hl 0 rfl) ?_
        refine lv_iload_n hx hb dX7_divide_109 rfl (lv_at hl 2 rfl) ?_
        refine lv_iload hx hb dX7_divide_110 (lv_at hl 4 rfl) ?_
        obtain ⟨ho, h⟩ := h
        refine zr_Vv (As := [.int v2, .int v4]) (rest := []) S hK hw (kX7_less l lo g M25 v0 v2 v4 _ h) (cwV 2 hts (zg_V zu_461 zu_462 zu_463 zu_450 zu_464) rfl rfl rfl (by decide +kernel) ⟨Nat.le_of_ble_eq_true rfl, Nat.le_of_ble_eq_true rfl⟩) (ci := 10) rfl ho rfl hl.1 rfl (Nat.le_of_ble_eq_true rfl) dX7_divide_112 ⟨Nat.le_of_ble_eq_true rfl, Nat.le_of_ble_eq_true rfl⟩ (fun M28 H locs hw h => ?_)
        refine lv_aload_n hx hb dX7_divide_115 rfl (lv_at hl 0 rfl) ?_
        refine zr_ga (C := RX7) (T := TX7) (N := 14) (ci := 10) (k := 9) S hK hw zi_X7 rfl (by decide) zu_445 dX7_divide_116 h (fun g_29 h => ?_)
        refine lv_bipush (v := (72 : Int32)) hx hb dX7_divide_119 (by decide) ?_
        refine lv_iload_n hx hb dX7_divide_121 rfl (lv_at hl 1 rfl) ?_
        refine lv_imul hx hb dX7_divide_122 ?_
        refine lv_iload hx hb dX7_divide_123 (lv_at hl 5 rfl) ?_
        refine lv_bipush (v := (32 : Int32)) hx hb dX7_divide_125 (by decide) ?_
        refine lv_idiv hx hb dX7_divide_127 (by decide) ?_
        refine lv_iadd hx hb dX7_divide_128 ?_
        refine lv_dup2_11 hx hb dX7_divide_129 rfl rfl ?_
        refine zr_lald S hK hw dX7_divide_130 h (fun e30 h => ?_)
        refine lv_lconst (v := (1 : Int64)) hx hb dX7_divide_131 (by decide) ?_
        refine lv_iload hx hb dX7_divide_132 (lv_at hl 5 rfl) ?_
        refine lv_bipush (v := (32 : Int32)) hx hb dX7_divide_134 (by decide) ?_
        refine lv_irem hx hb dX7_divide_136 (by decide) ?_
        refine lv_lshl hx hb dX7_divide_137 rfl ?_
        refine lv_lor hx hb dX7_divide_138 ?_
        refine zr_last S hK hw dX7_divide_139 h (fun M31 H locs hw h => ?_)
        obtain ⟨x32, ex32⟩ : ∃ z : Int32, z = v5 + (-1 : Int32) := ⟨_, rfl⟩
        have h := h x32 ex32
        refine lv_iinc (v := x32) (lv' := [(5, .int x32), (0, .ref v0), (1, .int v1), (2, .int v2), (3, .int v3), (4, .int v4)]) hx hb dX7_divide_140 hl (k := 5) rfl (by rw [ex32]; rfl) (by decide) rfl (fun ls hl => ?_)
        refine lv_goto (tgt := 65) hx hb dX7_divide_143 (by decide) ?_
        exact ih v0 v1 v2 v3 v4 x32 _ h _ _ _ hw (lv_sub hl [1, 2, 3, 4, 5, 0] rfl)
set_option maxHeartbeats 4000000 in
set_option maxRecDepth 100000 in
theorem kX7_divide (l : Launch) (lo : Nat) (g : zg) (M : zm_M) (a0 : Nat) (a1 : Int32) (a2 : Int32) (a3 : Int32) (a4 : Int32) (post : zm_M → Prop) (h : pX7_divide g.2 a0 a1 a2 a3 a4 post M) : Met l yX7_divide (Cond.code yX7_divide cX7_divide 6 none :: zU) (({ frames := 3, cells := 0, slots := 0, locals := 87 } : Room)) (zc_P zNF zNM lo g M [.ref a0, .int a1, .int a2, .int a3, .int a4]) (va_Qv post (zc_B lo g) (zA lo)) 0 0 (zA lo) := by
  refine Met.ofW (cc := cX7_divide) (maxL := 6) (ret := none) (by decide) rfl ?_
  intro p e s m args below meth c s₁ B hml hv
  obtain ⟨rfl, hR, hK⟩ := hv
  have hts := atoms_spec (ws := Cond.code yX7_divide cX7_divide 6 none :: zU) B.pre
  have hts : ∀ w ∈ zU, w.before _ s = true := fun w hw => hts w (List.mem_cons_of_mem _ hw)
  have hown : s.vm.findClass RX7 = some m.cls := findClass_of_methodNamed B.named
  have hx := B.exec
  have hb := B.bytes
  have hr := B.returns
  have hlocks := B.notSynchronized
  have S : CallFix p m c cX7_divide 6 s ([.ref a0, .int a1, .int a2, .int a3, .int a4] : List Value).toArray zU RX7 := ⟨hx, hb, hml, hown, hts⟩
  have hw : zW lo g s s.heap [] M := ⟨hR, va_S.rf⟩
  have hl := lv_entry ([.ref a0, .int a1, .int a2, .int a3, .int a4]) (n := 6) (Nat.le_of_ble_eq_true rfl)
  rw [lg_entry_eq]
  generalize (lg_sl ([.ref a0, .int a1, .int a2, .int a3, .int a4]) ++ List.replicate (6 - (lg_sl ([.ref a0, .int a1, .int a2, .int a3, .int a4])).length) Slot.unset).toArray = ls at hl ⊢
  have hl : lv_has ls 6 [(0, .ref a0), (1, .int a1), (2, .int a2), (3, .int a3), (4, .int a4)] := hl
  unfold pX7_divide at h
  refine lv_aload_n hx hb dX7_divide_0 rfl (lv_at hl 0 rfl) ?_
  refine zr_ga (C := RX7) (T := TX7) (N := 14) (ci := 10) (k := 10) S hK hw zi_X7 rfl (by decide) zu_444 dX7_divide_1 h (fun n_1 h => ?_)
  refine lv_iload_n hx hb dX7_divide_4 rfl (lv_at hl 2 rfl) ?_
  refine lv_iconst (v := (0 : Int32)) hx hb dX7_divide_5 (by decide) ?_
  refine zr_iast S hK hw dX7_divide_6 h (fun M2 H locs hw h => ?_)
  refine lv_aload_n hx hb dX7_divide_7 rfl (lv_at hl 0 rfl) ?_
  refine zr_ga (C := RX7) (T := TX7) (N := 14) (ci := 10) (k := 10) S hK hw zi_X7 rfl (by decide) zu_444 dX7_divide_8 h (fun n_3 h => ?_)
  refine lv_iload_n hx hb dX7_divide_11 rfl (lv_at hl 1 rfl) ?_
  refine lv_aload_n hx hb dX7_divide_12 rfl (lv_at hl 0 rfl) ?_
  refine zr_ga (C := RX7) (T := TX7) (N := 14) (ci := 10) (k := 10) S hK hw zi_X7 rfl (by decide) zu_444 dX7_divide_13 h (fun n_4 h => ?_)
  refine lv_iload_n hx hb dX7_divide_16 rfl (lv_at hl 3 rfl) ?_
  refine zr_iald S hK hw dX7_divide_17 h (fun e5 h => ?_)
  refine zr_iast S hK hw dX7_divide_18 h (fun M6 H locs hw h => ?_)
  refine lv_iconst (v := (0 : Int32)) hx hb dX7_divide_19 (by decide) ?_
  refine lv_topi (fun x7 ex7 => ?_)
  have h := h x7 ex7
  refine lv_istore (lv' := [(5, .int x7), (0, .ref a0), (1, .int a1), (2, .int a2), (3, .int a3), (4, .int a4)]) hx hb dX7_divide_20 hl (by decide) rfl (fun ls hl => ?_)
  obtain ⟨n22, h⟩ := h
  refine sX7_divide_22 S hr hlocks hK (fun w13 w14 w15 w16 w17 M18 h H locs ls hw hl => ?_) n22 a0 a1 a2 a3 a4 x7 _ h _ _ _ hw (lv_sub hl [1, 2, 3, 4, 5, 0] rfl)
  refine lv_bipush (v := (32 : Int32)) hx hb dX7_divide_52 (by decide) ?_
  refine lv_aload_n hx hb dX7_divide_54 rfl (lv_at hl 0 rfl) ?_
  refine zr_ga (C := RX7) (T := TX7) (N := 14) (ci := 10) (k := 10) S hK hw zi_X7 rfl (by decide) zu_444 dX7_divide_55 h (fun n_19 h => ?_)
  refine lv_iload_n hx hb dX7_divide_58 rfl (lv_at hl 3 rfl) ?_
  refine zr_iald S hK hw dX7_divide_59 h (fun e20 h => ?_)
  refine lv_imul hx hb dX7_divide_60 ?_
  refine lv_iconst (v := (1 : Int32)) hx hb dX7_divide_61 (by decide) ?_
  refine lv_isub hx hb dX7_divide_62 ?_
  refine lv_topi (fun x21 ex21 => ?_)
  have h := h x21 ex21
  refine lv_istore (lv' := [(5, .int x21), (0, .ref w13), (1, .int w14), (2, .int w15), (3, .int w16), (4, .int w17)]) hx hb dX7_divide_63 hl (by decide) rfl (fun ls hl => ?_)
  obtain ⟨n65, h⟩ := h
  refine sX7_divide_65 S hr hlocks hK (fun w33 w34 M35 h H locs ls hw hl => ?_) n65 w13 w14 w15 w16 w17 x21 _ h _ _ _ hw (lv_sub hl [1, 2, 3, 4, 5, 0] rfl)
  refine lv_aload_n hx hb dX7_divide_146 rfl (lv_at hl 0 rfl) ?_
  refine lv_iload_n hx hb dX7_divide_147 rfl (lv_at hl 1 rfl) ?_
  obtain ⟨ho, h⟩ := h
  refine zr_Vv (As := [.int w34]) (rest := []) S hK hw (kX7_trim l lo g M35 w33 w34 _ h) (cwV 1 hts (zg_V zu_447 zu_448 zu_449 zu_450 zu_451) rfl rfl rfl (by decide +kernel) ⟨Nat.le_of_ble_eq_true rfl, Nat.le_of_ble_eq_true rfl⟩) (ci := 10) rfl ho rfl hl.1 rfl (Nat.le_of_ble_eq_true rfl) dX7_divide_148 ⟨Nat.le_of_ble_eq_true rfl, Nat.le_of_ble_eq_true rfl⟩ (fun M36 H locs hw h => ?_)
  exact zr_rv S hr hlocks hw h dX7_divide_151
set_option maxHeartbeats 4000000 in
set_option maxRecDepth 100000 in
theorem kX7_isOdd (l : Launch) (lo : Nat) (g : zg) (M : zm_M) (a0 : Nat) (a1 : Int32) (post : Int32 → zm_M → Prop) (h : pX7_isOdd g.2 a0 a1 post M) : Met l yX7_isOdd (Cond.code yX7_isOdd cX7_isOdd 2 (some .boolean) :: zU) (({ frames := 1, cells := 0, slots := 0, locals := 40 } : Room)) (zc_P zNF zNM lo g M [.ref a0, .int a1]) (va_Qi post (zc_B lo g) (zA lo)) 0 0 (zA lo) := by
  refine Met.ofW (cc := cX7_isOdd) (maxL := 2) (ret := (some .boolean)) (by decide) rfl ?_
  intro p e s m args below meth c s₁ B hml hv
  obtain ⟨rfl, hR, hK⟩ := hv
  have hts := atoms_spec (ws := Cond.code yX7_isOdd cX7_isOdd 2 (some .boolean) :: zU) B.pre
  have hts : ∀ w ∈ zU, w.before _ s = true := fun w hw => hts w (List.mem_cons_of_mem _ hw)
  have hown : s.vm.findClass RX7 = some m.cls := findClass_of_methodNamed B.named
  have hx := B.exec
  have hb := B.bytes
  have hr := B.returns
  have hlocks := B.notSynchronized
  have S : CallFix p m c cX7_isOdd 2 s ([.ref a0, .int a1] : List Value).toArray zU RX7 := ⟨hx, hb, hml, hown, hts⟩
  have hw : zW lo g s s.heap [] M := ⟨hR, va_S.rf⟩
  have hl := lv_entry ([.ref a0, .int a1]) (n := 2) (Nat.le_of_ble_eq_true rfl)
  rw [lg_entry_eq]
  generalize (lg_sl ([.ref a0, .int a1]) ++ List.replicate (2 - (lg_sl ([.ref a0, .int a1])).length) Slot.unset).toArray = ls at hl ⊢
  have hl : lv_has ls 2 [(0, .ref a0), (1, .int a1)] := hl
  unfold pX7_isOdd at h
  refine lv_aload_n hx hb dX7_isOdd_0 rfl (lv_at hl 0 rfl) ?_
  refine zr_ga (C := RX7) (T := TX7) (N := 14) (ci := 10) (k := 10) S hK hw zi_X7 rfl (by decide) zu_444 dX7_isOdd_1 h (fun n_1 h => ?_)
  refine lv_iload_n hx hb dX7_isOdd_4 rfl (lv_at hl 1 rfl) ?_
  refine zr_iald S hK hw dX7_isOdd_5 h (fun e2 h => ?_)
  refine lv_if_le (tgt := 29) hx hb dX7_isOdd_6 (by decide) (fun hc => ?_) (fun hc => ?_)
  · have h := h.1 hc
    refine lv_iconst (v := (0 : Int32)) hx hb dX7_isOdd_29 (by decide) ?_
    exact zr_rz S hr hlocks hw h dX7_isOdd_30
  · have h := h.2 hc
    refine lv_aload_n hx hb dX7_isOdd_9 rfl (lv_at hl 0 rfl) ?_
    refine zr_ga (C := RX7) (T := TX7) (N := 14) (ci := 10) (k := 9) S hK hw zi_X7 rfl (by decide) zu_445 dX7_isOdd_10 h (fun g_3 h => ?_)
    refine lv_bipush (v := (72 : Int32)) hx hb dX7_isOdd_13 (by decide) ?_
    refine lv_iload_n hx hb dX7_isOdd_15 rfl (lv_at hl 1 rfl) ?_
    refine lv_imul hx hb dX7_isOdd_16 ?_
    refine zr_lald S hK hw dX7_isOdd_17 h (fun e4 h => ?_)
    refine lv_lconst (v := (1 : Int64)) hx hb dX7_isOdd_18 (by decide) ?_
    refine lv_land hx hb dX7_isOdd_19 ?_
    refine lv_lconst (v := (1 : Int64)) hx hb dX7_isOdd_20 (by decide) ?_
    refine W.lcmp hx hb dX7_isOdd_21 ?_
    refine lv_if_ne (tgt := 29) hx hb dX7_isOdd_22 (by decide) (fun hc => ?_) (fun hc => ?_)
    · have h := h.1 (fun q => hc (zc_eq.mpr q))
      refine lv_iconst (v := (0 : Int32)) hx hb dX7_isOdd_29 (by decide) ?_
      exact zr_rz S hr hlocks hw h dX7_isOdd_30
    · have h := h.2 (zc_eq.mp hc)
      refine lv_iconst (v := (1 : Int32)) hx hb dX7_isOdd_25 (by decide) ?_
      refine lv_goto (tgt := 30) hx hb dX7_isOdd_26 (by decide) ?_
      exact zr_rz S hr hlocks hw h dX7_isOdd_30
set_option maxHeartbeats 4000000 in
set_option maxRecDepth 100000 in
theorem sX7_divisor_34 {p : Program} {l : Launch} {e : Env} {s : State} {m : MethodId} {args : Array Value} {below : List Frame} {meth : Method} {c : Code} {lo : Nat} {g : zg} {post : zm_M → Prop}  (S : CallFix p m c cX7_divisor 4 s args zU RX7) (hr : meth.sig.returnType = none) (hlocks : meth.locks = false) (hK : zk_K zNF zNM g s)  : ∀ (s0 : Nat) (s1 : Int32) (s2 : Int32) (M : zm_M), pX7_divisor_34 g.2 post  s0 s1 s2 M → ∀ (H : Heap) (locs : List Loc) (ls : Array Slot), zW lo g s H locs M → lv_has ls 4 [] → W p l e ({ frames := 4, cells := 0, slots := 0, locals := 111 } : Room) s m args below meth c H locs 0 0 (MQ below (va_Qv post (zc_B lo g) (zA lo)) args s 0 0 (zA lo)) (F0 m 34 ls [.int s2, .int s1, .ref s0]) := by
  obtain ⟨hx, hb, hml, hown, hts⟩ := id S
  intro s0 s1 s2 M h H locs ls hw hl
  unfold pX7_divisor_34 at h
  obtain ⟨ho, h⟩ := h
  refine zr_Vv (As := [.int s1, .int s2]) (rest := []) S hK hw (kX7_copy l lo g M s0 s1 s2 _ h) (cwV 2 hts (zg_V zu_465 zu_466 zu_467 zu_450 zu_468) rfl rfl rfl (by decide +kernel) ⟨Nat.le_of_ble_eq_true rfl, Nat.le_of_ble_eq_true rfl⟩) (ci := 10) rfl ho rfl hl.1 rfl (Nat.le_of_ble_eq_true rfl) dX7_divisor_34 ⟨Nat.le_of_ble_eq_true rfl, Nat.le_of_ble_eq_true rfl⟩ (fun M5 H locs hw h => ?_)
  exact zr_rv S hr hlocks hw h dX7_divisor_37
set_option maxHeartbeats 4000000 in
set_option maxRecDepth 100000 in
theorem sX7_divisor_18 {p : Program} {l : Launch} {e : Env} {s : State} {m : MethodId} {args : Array Value} {below : List Frame} {meth : Method} {c : Code} {lo : Nat} {g : zg} {post : zm_M → Prop}  (S : CallFix p m c cX7_divisor 4 s args zU RX7) (hr : meth.sig.returnType = none) (hlocks : meth.locks = false) (hK : zk_K zNF zNM g s)  : ∀ (v0 : Nat) (v1 : Int32) (v2 : Int32) (M : zm_M), pX7_divisor_18 g.2 post  v0 v1 v2 M → ∀ (H : Heap) (locs : List Loc) (ls : Array Slot), zW lo g s H locs M → lv_has ls 4 [(0, .ref v0), (1, .int v1), (2, .int v2)] → W p l e ({ frames := 4, cells := 0, slots := 0, locals := 111 } : Room) s m args below meth c H locs 0 0 (MQ below (va_Qv post (zc_B lo g) (zA lo)) args s 0 0 (zA lo)) (F0 m 18 ls []) := by
  obtain ⟨hx, hb, hml, hown, hts⟩ := id S
  intro v0 v1 v2 M h H locs ls hw hl
  unfold pX7_divisor_18 at h
  refine lv_aload_n hx hb dX7_divisor_18 rfl (lv_at hl 0 rfl) ?_
  refine lv_iload_n hx hb dX7_divisor_19 rfl (lv_at hl 1 rfl) ?_
  refine lv_aload_n hx hb dX7_divisor_20 rfl (lv_at hl 0 rfl) ?_
  refine zr_ga (C := RX7) (T := TX7) (N := 14) (ci := 10) (k := 10) S hK hw zi_X7 rfl (by decide) zu_444 dX7_divisor_21 h (fun n_3 h => ?_)
  refine lv_iload_n hx hb dX7_divisor_24 rfl (lv_at hl 1 rfl) ?_
  refine zr_iald S hK hw dX7_divisor_25 h (fun e4 h => ?_)
  refine lv_if_ne (tgt := 33) hx hb dX7_divisor_26 (by decide) (fun hc => ?_) (fun hc => ?_)
  · have h := h.1 hc
    refine lv_iload_n hx hb dX7_divisor_33 rfl (lv_at hl 1 rfl) ?_
    exact sX7_divisor_34 S hr hlocks hK  v0 v1 v1 _ h _ _ _ hw (lv_sub hl [] rfl)
  · have h := h.2 hc
    refine lv_iload_n hx hb dX7_divisor_29 rfl (lv_at hl 2 rfl) ?_
    refine lv_goto (tgt := 34) hx hb dX7_divisor_30 (by decide) ?_
    exact sX7_divisor_34 S hr hlocks hK  v0 v1 v2 _ h _ _ _ hw (lv_sub hl [] rfl)
set_option maxHeartbeats 4000000 in
set_option maxRecDepth 100000 in
theorem sX7_divisor_40 {p : Program} {l : Launch} {e : Env} {s : State} {m : MethodId} {args : Array Value} {below : List Frame} {meth : Method} {c : Code} {lo : Nat} {g : zg} {post : zm_M → Prop} {k72 : Nat → Int32 → Int32 → Int32 → zm_M → Prop} (S : CallFix p m c cX7_divisor 4 s args zU RX7) (hr : meth.sig.returnType = none) (hlocks : meth.locks = false) (hK : zk_K zNF zNM g s) (hk72 : ∀ (v0 : Nat) (v1 : Int32) (v2 : Int32) (v3 : Int32) (M : zm_M), k72 v0 v1 v2 v3 M → ∀ (H : Heap) (locs : List Loc) (ls : Array Slot), zW lo g s H locs M → lv_has ls 4 [(0, .ref v0), (1, .int v1), (2, .int v2), (3, .int v3)] → W p l e ({ frames := 4, cells := 0, slots := 0, locals := 111 } : Room) s m args below meth c H locs 0 0 (MQ below (va_Qv post (zc_B lo g) (zA lo)) args s 0 0 (zA lo)) (F0 m 72 ls [])) : ∀ (n : Nat) (v0 : Nat) (v1 : Int32) (v2 : Int32) (v3 : Int32) (M : zm_M), pX7_divisor_40 g.2 post k72 n v0 v1 v2 v3 M → ∀ (H : Heap) (locs : List Loc) (ls : Array Slot), zW lo g s H locs M → lv_has ls 4 [(0, .ref v0), (1, .int v1), (2, .int v2), (3, .int v3)] → W p l e ({ frames := 4, cells := 0, slots := 0, locals := 111 } : Room) s m args below meth c H locs 0 0 (MQ below (va_Qv post (zc_B lo g) (zA lo)) args s 0 0 (zA lo)) (F0 m 40 ls []) := by
  obtain ⟨hx, hb, hml, hown, hts⟩ := id S
  intro n
  induction n with
  | zero =>
    intro v0 v1 v2 v3 M h
    exact False.elim h
  | succ n40 ih =>
    intro v0 v1 v2 v3 M h H locs ls hw hl
    rw [pX7_divisor_40] at h
    refine lv_aload_n hx hb dX7_divisor_40 rfl (lv_at hl 0 rfl) ?_
    refine lv_iload_n hx hb dX7_divisor_41 rfl (lv_at hl 1 rfl) ?_
    obtain ⟨ho, h⟩ := h
    refine zr_Vi (As := [.int v1]) (rest := []) S hK hw (kX7_isOdd l lo g M v0 v1 _ h) (cwV 1 hts (zg_V zu_469 zu_470 zu_471 zu_450 zu_472) rfl rfl rfl (by decide +kernel) ⟨Nat.le_of_ble_eq_true rfl, Nat.le_of_ble_eq_true rfl⟩) (ci := 10) rfl ho rfl hl.1 rfl (Nat.le_of_ble_eq_true rfl) dX7_divisor_42 ⟨Nat.le_of_ble_eq_true rfl, Nat.le_of_ble_eq_true rfl⟩ (fun r10 M9 H locs hw h => ?_)
    refine lv_if_ne (tgt := 72) hx hb dX7_divisor_45 (by decide) (fun hc => ?_) (fun hc => ?_)
    · have h := h.1 hc
      exact hk72 v0 v1 v2 v3 _ h _ _ _ hw (lv_sub hl [0, 1, 2, 3] rfl)
    · have h := h.2 hc
      refine lv_aload_n hx hb dX7_divisor_48 rfl (lv_at hl 0 rfl) ?_
      refine lv_iload_n hx hb dX7_divisor_49 rfl (lv_at hl 2 rfl) ?_
      obtain ⟨ho, h⟩ := h
      refine zr_Vi (As := [.int v2]) (rest := []) S hK hw (kX7_isOdd l lo g M9 v0 v2 _ h) (cwV 1 hts (zg_V zu_469 zu_470 zu_471 zu_450 zu_472) rfl rfl rfl (by decide +kernel) ⟨Nat.le_of_ble_eq_true rfl, Nat.le_of_ble_eq_true rfl⟩) (ci := 10) rfl ho rfl hl.1 rfl (Nat.le_of_ble_eq_true rfl) dX7_divisor_50 ⟨Nat.le_of_ble_eq_true rfl, Nat.le_of_ble_eq_true rfl⟩ (fun r12 M11 H locs hw h => ?_)
      refine lv_if_ne (tgt := 72) hx hb dX7_divisor_53 (by decide) (fun hc => ?_) (fun hc => ?_)
      · have h := h.1 hc
        exact hk72 v0 v1 v2 v3 _ h _ _ _ hw (lv_sub hl [0, 1, 2, 3] rfl)
      · have h := h.2 hc
        refine lv_aload_n hx hb dX7_divisor_56 rfl (lv_at hl 0 rfl) ?_
        refine lv_iload_n hx hb dX7_divisor_57 rfl (lv_at hl 1 rfl) ?_
        obtain ⟨ho, h⟩ := h
        refine zr_Vv (As := [.int v1]) (rest := []) S hK hw (kX7_half l lo g M11 v0 v1 _ h) (cwV 1 hts (zg_V zu_473 zu_474 zu_475 zu_450 zu_476) rfl rfl rfl (by decide +kernel) ⟨Nat.le_of_ble_eq_true rfl, Nat.le_of_ble_eq_true rfl⟩) (ci := 10) rfl ho rfl hl.1 rfl (Nat.le_of_ble_eq_true rfl) dX7_divisor_58 ⟨Nat.le_of_ble_eq_true rfl, Nat.le_of_ble_eq_true rfl⟩ (fun M13 H locs hw h => ?_)
        refine lv_aload_n hx hb dX7_divisor_61 rfl (lv_at hl 0 rfl) ?_
        refine lv_iload_n hx hb dX7_divisor_62 rfl (lv_at hl 2 rfl) ?_
        obtain ⟨ho, h⟩ := h
        refine zr_Vv (As := [.int v2]) (rest := []) S hK hw (kX7_half l lo g M13 v0 v2 _ h) (cwV 1 hts (zg_V zu_473 zu_474 zu_475 zu_450 zu_476) rfl rfl rfl (by decide +kernel) ⟨Nat.le_of_ble_eq_true rfl, Nat.le_of_ble_eq_true rfl⟩) (ci := 10) rfl ho rfl hl.1 rfl (Nat.le_of_ble_eq_true rfl) dX7_divisor_63 ⟨Nat.le_of_ble_eq_true rfl, Nat.le_of_ble_eq_true rfl⟩ (fun M14 H locs hw h => ?_)
        obtain ⟨x15, ex15⟩ : ∃ z : Int32, z = v3 + (1 : Int32) := ⟨_, rfl⟩
        have h := h x15 ex15
        refine lv_iinc (v := x15) (lv' := [(3, .int x15), (0, .ref v0), (1, .int v1), (2, .int v2)]) hx hb dX7_divisor_66 hl (k := 3) rfl (by rw [ex15]; rfl) (by decide) rfl (fun ls hl => ?_)
        refine lv_goto (tgt := 40) hx hb dX7_divisor_69 (by decide) ?_
        exact ih v0 v1 v2 x15 _ h _ _ _ hw (lv_sub hl [1, 2, 3, 0] rfl)
set_option maxHeartbeats 4000000 in
set_option maxRecDepth 100000 in
theorem sX7_divisor_81 {p : Program} {l : Launch} {e : Env} {s : State} {m : MethodId} {args : Array Value} {below : List Frame} {meth : Method} {c : Code} {lo : Nat} {g : zg} {post : zm_M → Prop} {k97 : Nat → Int32 → Int32 → Int32 → zm_M → Prop} (S : CallFix p m c cX7_divisor 4 s args zU RX7) (hr : meth.sig.returnType = none) (hlocks : meth.locks = false) (hK : zk_K zNF zNM g s) (hk97 : ∀ (v0 : Nat) (v1 : Int32) (v2 : Int32) (v3 : Int32) (M : zm_M), k97 v0 v1 v2 v3 M → ∀ (H : Heap) (locs : List Loc) (ls : Array Slot), zW lo g s H locs M → lv_has ls 4 [(0, .ref v0), (1, .int v1), (2, .int v2), (3, .int v3)] → W p l e ({ frames := 4, cells := 0, slots := 0, locals := 111 } : Room) s m args below meth c H locs 0 0 (MQ below (va_Qv post (zc_B lo g) (zA lo)) args s 0 0 (zA lo)) (F0 m 97 ls [])) : ∀ (n : Nat) (v0 : Nat) (v1 : Int32) (v2 : Int32) (v3 : Int32) (M : zm_M), pX7_divisor_81 g.2 post k97 n v0 v1 v2 v3 M → ∀ (H : Heap) (locs : List Loc) (ls : Array Slot), zW lo g s H locs M → lv_has ls 4 [(0, .ref v0), (1, .int v1), (2, .int v2), (3, .int v3)] → W p l e ({ frames := 4, cells := 0, slots := 0, locals := 111 } : Room) s m args below meth c H locs 0 0 (MQ below (va_Qv post (zc_B lo g) (zA lo)) args s 0 0 (zA lo)) (F0 m 81 ls []) := by
  obtain ⟨hx, hb, hml, hown, hts⟩ := id S
  intro n
  induction n with
  | zero =>
    intro v0 v1 v2 v3 M h
    exact False.elim h
  | succ n81 ih =>
    intro v0 v1 v2 v3 M h H locs ls hw hl
    rw [pX7_divisor_81] at h
    refine lv_aload_n hx hb dX7_divisor_81 rfl (lv_at hl 0 rfl) ?_
    refine lv_iload_n hx hb dX7_divisor_82 rfl (lv_at hl 1 rfl) ?_
    obtain ⟨ho, h⟩ := h
    refine zr_Vi (As := [.int v1]) (rest := []) S hK hw (kX7_isOdd l lo g M v0 v1 _ h) (cwV 1 hts (zg_V zu_469 zu_470 zu_471 zu_450 zu_472) rfl rfl rfl (by decide +kernel) ⟨Nat.le_of_ble_eq_true rfl, Nat.le_of_ble_eq_true rfl⟩) (ci := 10) rfl ho rfl hl.1 rfl (Nat.le_of_ble_eq_true rfl) dX7_divisor_83 ⟨Nat.le_of_ble_eq_true rfl, Nat.le_of_ble_eq_true rfl⟩ (fun r24 M23 H locs hw h => ?_)
    refine lv_if_ne (tgt := 97) hx hb dX7_divisor_86 (by decide) (fun hc => ?_) (fun hc => ?_)
    · have h := h.1 hc
      exact hk97 v0 v1 v2 v3 _ h _ _ _ hw (lv_sub hl [0, 1, 2, 3] rfl)
    · have h := h.2 hc
      refine lv_aload_n hx hb dX7_divisor_89 rfl (lv_at hl 0 rfl) ?_
      refine lv_iload_n hx hb dX7_divisor_90 rfl (lv_at hl 1 rfl) ?_
      obtain ⟨ho, h⟩ := h
      refine zr_Vv (As := [.int v1]) (rest := []) S hK hw (kX7_half l lo g M23 v0 v1 _ h) (cwV 1 hts (zg_V zu_473 zu_474 zu_475 zu_450 zu_476) rfl rfl rfl (by decide +kernel) ⟨Nat.le_of_ble_eq_true rfl, Nat.le_of_ble_eq_true rfl⟩) (ci := 10) rfl ho rfl hl.1 rfl (Nat.le_of_ble_eq_true rfl) dX7_divisor_91 ⟨Nat.le_of_ble_eq_true rfl, Nat.le_of_ble_eq_true rfl⟩ (fun M25 H locs hw h => ?_)
      refine lv_goto (tgt := 81) hx hb dX7_divisor_94 (by decide) ?_
      exact ih v0 v1 v2 v3 _ h _ _ _ hw (lv_sub hl [0, 1, 2, 3] rfl)
set_option maxHeartbeats 4000000 in
set_option maxRecDepth 100000 in
theorem sX7_divisor_97 {p : Program} {l : Launch} {e : Env} {s : State} {m : MethodId} {args : Array Value} {below : List Frame} {meth : Method} {c : Code} {lo : Nat} {g : zg} {post : zm_M → Prop} {k113 : Nat → Int32 → Int32 → Int32 → zm_M → Prop} (S : CallFix p m c cX7_divisor 4 s args zU RX7) (hr : meth.sig.returnType = none) (hlocks : meth.locks = false) (hK : zk_K zNF zNM g s) (hk113 : ∀ (v0 : Nat) (v1 : Int32) (v2 : Int32) (v3 : Int32) (M : zm_M), k113 v0 v1 v2 v3 M → ∀ (H : Heap) (locs : List Loc) (ls : Array Slot), zW lo g s H locs M → lv_has ls 4 [(0, .ref v0), (1, .int v1), (2, .int v2), (3, .int v3)] → W p l e ({ frames := 4, cells := 0, slots := 0, locals := 111 } : Room) s m args below meth c H locs 0 0 (MQ below (va_Qv post (zc_B lo g) (zA lo)) args s 0 0 (zA lo)) (F0 m 113 ls [])) : ∀ (n : Nat) (v0 : Nat) (v1 : Int32) (v2 : Int32) (v3 : Int32) (M : zm_M), pX7_divisor_97 g.2 post k113 n v0 v1 v2 v3 M → ∀ (H : Heap) (locs : List Loc) (ls : Array Slot), zW lo g s H locs M → lv_has ls 4 [(0, .ref v0), (1, .int v1), (2, .int v2), (3, .int v3)] → W p l e ({ frames := 4, cells := 0, slots := 0, locals := 111 } : Room) s m args below meth c H locs 0 0 (MQ below (va_Qv post (zc_B lo g) (zA lo)) args s 0 0 (zA lo)) (F0 m 97 ls []) := by
  obtain ⟨hx, hb, hml, hown, hts⟩ := id S
  intro n
  induction n with
  | zero =>
    intro v0 v1 v2 v3 M h
    exact False.elim h
  | succ n97 ih =>
    intro v0 v1 v2 v3 M h H locs ls hw hl
    rw [pX7_divisor_97] at h
    refine lv_aload_n hx hb dX7_divisor_97 rfl (lv_at hl 0 rfl) ?_
    refine lv_iload_n hx hb dX7_divisor_98 rfl (lv_at hl 2 rfl) ?_
    obtain ⟨ho, h⟩ := h
    refine zr_Vi (As := [.int v2]) (rest := []) S hK hw (kX7_isOdd l lo g M v0 v2 _ h) (cwV 1 hts (zg_V zu_469 zu_470 zu_471 zu_450 zu_472) rfl rfl rfl (by decide +kernel) ⟨Nat.le_of_ble_eq_true rfl, Nat.le_of_ble_eq_true rfl⟩) (ci := 10) rfl ho rfl hl.1 rfl (Nat.le_of_ble_eq_true rfl) dX7_divisor_99 ⟨Nat.le_of_ble_eq_true rfl, Nat.le_of_ble_eq_true rfl⟩ (fun r32 M31 H locs hw h => ?_)
    refine lv_if_ne (tgt := 113) hx hb dX7_divisor_102 (by decide) (fun hc => ?_) (fun hc => ?_)
    · have h := h.1 hc
      exact hk113 v0 v1 v2 v3 _ h _ _ _ hw (lv_sub hl [0, 1, 2, 3] rfl)
    · have h := h.2 hc
      refine lv_aload_n hx hb dX7_divisor_105 rfl (lv_at hl 0 rfl) ?_
      refine lv_iload_n hx hb dX7_divisor_106 rfl (lv_at hl 2 rfl) ?_
      obtain ⟨ho, h⟩ := h
      refine zr_Vv (As := [.int v2]) (rest := []) S hK hw (kX7_half l lo g M31 v0 v2 _ h) (cwV 1 hts (zg_V zu_473 zu_474 zu_475 zu_450 zu_476) rfl rfl rfl (by decide +kernel) ⟨Nat.le_of_ble_eq_true rfl, Nat.le_of_ble_eq_true rfl⟩) (ci := 10) rfl ho rfl hl.1 rfl (Nat.le_of_ble_eq_true rfl) dX7_divisor_107 ⟨Nat.le_of_ble_eq_true rfl, Nat.le_of_ble_eq_true rfl⟩ (fun M33 H locs hw h => ?_)
      refine lv_goto (tgt := 97) hx hb dX7_divisor_110 (by decide) ?_
      exact ih v0 v1 v2 v3 _ h _ _ _ hw (lv_sub hl [0, 1, 2, 3] rfl)
set_option maxHeartbeats 4000000 in
set_option maxRecDepth 100000 in
theorem sX7_divisor_142 {p : Program} {l : Launch} {e : Env} {s : State} {m : MethodId} {args : Array Value} {below : List Frame} {meth : Method} {c : Code} {lo : Nat} {g : zg} {post : zm_M → Prop} {k72 : Nat → Int32 → Int32 → Int32 → zm_M → Prop} (S : CallFix p m c cX7_divisor 4 s args zU RX7) (hr : meth.sig.returnType = none) (hlocks : meth.locks = false) (hK : zk_K zNF zNM g s) (hk72 : ∀ (v0 : Nat) (v1 : Int32) (v2 : Int32) (v3 : Int32) (M : zm_M), k72 v0 v1 v2 v3 M → ∀ (H : Heap) (locs : List Loc) (ls : Array Slot), zW lo g s H locs M → lv_has ls 4 [(0, .ref v0), (1, .int v1), (2, .int v2), (3, .int v3)] → W p l e ({ frames := 4, cells := 0, slots := 0, locals := 111 } : Room) s m args below meth c H locs 0 0 (MQ below (va_Qv post (zc_B lo g) (zA lo)) args s 0 0 (zA lo)) (F0 m 72 ls [])) : ∀ (v0 : Nat) (v1 : Int32) (v2 : Int32) (v3 : Int32) (M : zm_M), pX7_divisor_142 g.2 post k72 v0 v1 v2 v3 M → ∀ (H : Heap) (locs : List Loc) (ls : Array Slot), zW lo g s H locs M → lv_has ls 4 [(0, .ref v0), (1, .int v1), (2, .int v2), (3, .int v3)] → W p l e ({ frames := 4, cells := 0, slots := 0, locals := 111 } : Room) s m args below meth c H locs 0 0 (MQ below (va_Qv post (zc_B lo g) (zA lo)) args s 0 0 (zA lo)) (F0 m 142 ls []) := by
  obtain ⟨hx, hb, hml, hown, hts⟩ := id S
  intro v0 v1 v2 v3 M h H locs ls hw hl
  unfold pX7_divisor_142 at h
  refine lv_aload_n hx hb dX7_divisor_142 rfl (lv_at hl 0 rfl) ?_
  refine lv_iload_n hx hb dX7_divisor_143 rfl (lv_at hl 2 rfl) ?_
  refine lv_iload_n hx hb dX7_divisor_144 rfl (lv_at hl 1 rfl) ?_
  obtain ⟨ho, h⟩ := h
  refine zr_Vv (As := [.int v2, .int v1]) (rest := []) S hK hw (kX7_less l lo g M v0 v2 v1 _ h) (cwV 2 hts (zg_V zu_461 zu_462 zu_463 zu_450 zu_464) rfl rfl rfl (by decide +kernel) ⟨Nat.le_of_ble_eq_true rfl, Nat.le_of_ble_eq_true rfl⟩) (ci := 10) rfl ho rfl hl.1 rfl (Nat.le_of_ble_eq_true rfl) dX7_divisor_145 ⟨Nat.le_of_ble_eq_true rfl, Nat.le_of_ble_eq_true rfl⟩ (fun M41 H locs hw h => ?_)
  refine lv_goto (tgt := 72) hx hb dX7_divisor_148 (by decide) ?_
  exact hk72 v0 v1 v2 v3 _ h _ _ _ hw (lv_sub hl [0, 1, 2, 3] rfl)
set_option maxHeartbeats 4000000 in
set_option maxRecDepth 100000 in
theorem sX7_divisor_72 {p : Program} {l : Launch} {e : Env} {s : State} {m : MethodId} {args : Array Value} {below : List Frame} {meth : Method} {c : Code} {lo : Nat} {g : zg} {post : zm_M → Prop} {k151 : Nat → Int32 → Int32 → zm_M → Prop} (S : CallFix p m c cX7_divisor 4 s args zU RX7) (hr : meth.sig.returnType = none) (hlocks : meth.locks = false) (hK : zk_K zNF zNM g s) (hk151 : ∀ (v0 : Nat) (v1 : Int32) (v3 : Int32) (M : zm_M), k151 v0 v1 v3 M → ∀ (H : Heap) (locs : List Loc) (ls : Array Slot), zW lo g s H locs M → lv_has ls 4 [(0, .ref v0), (1, .int v1), (3, .int v3)] → W p l e ({ frames := 4, cells := 0, slots := 0, locals := 111 } : Room) s m args below meth c H locs 0 0 (MQ below (va_Qv post (zc_B lo g) (zA lo)) args s 0 0 (zA lo)) (F0 m 151 ls [])) : ∀ (n : Nat) (v0 : Nat) (v1 : Int32) (v2 : Int32) (v3 : Int32) (M : zm_M), pX7_divisor_72 g.2 post k151 n v0 v1 v2 v3 M → ∀ (H : Heap) (locs : List Loc) (ls : Array Slot), zW lo g s H locs M → lv_has ls 4 [(0, .ref v0), (1, .int v1), (2, .int v2), (3, .int v3)] → W p l e ({ frames := 4, cells := 0, slots := 0, locals := 111 } : Room) s m args below meth c H locs 0 0 (MQ below (va_Qv post (zc_B lo g) (zA lo)) args s 0 0 (zA lo)) (F0 m 72 ls []) := by
  obtain ⟨hx, hb, hml, hown, hts⟩ := id S
  intro n
  induction n with
  | zero =>
    intro v0 v1 v2 v3 M h
    exact False.elim h
  | succ n72 ih =>
    intro v0 v1 v2 v3 M h H locs ls hw hl
    rw [pX7_divisor_72] at h
    refine lv_aload_n hx hb dX7_divisor_72 rfl (lv_at hl 0 rfl) ?_
    refine zr_ga (C := RX7) (T := TX7) (N := 14) (ci := 10) (k := 10) S hK hw zi_X7 rfl (by decide) zu_444 dX7_divisor_73 h (fun n_21 h => ?_)
    refine lv_iload_n hx hb dX7_divisor_76 rfl (lv_at hl 2 rfl) ?_
    refine zr_iald S hK hw dX7_divisor_77 h (fun e22 h => ?_)
    refine lv_if_le (tgt := 151) hx hb dX7_divisor_78 (by decide) (fun hc => ?_) (fun hc => ?_)
    · have h := h.1 hc
      exact hk151 v0 v1 v3 _ h _ _ _ hw (lv_sub hl [0, 1, 3] rfl)
    · have h := h.2 hc
      obtain ⟨n81, h⟩ := h
      refine sX7_divisor_81 S hr hlocks hK (fun w26 w27 w28 w29 M30 h H locs ls hw hl => ?_) n81 v0 v1 v2 v3 _ h _ _ _ hw (lv_sub hl [0, 1, 2, 3] rfl)
      obtain ⟨n97, h⟩ := h
      refine sX7_divisor_97 S hr hlocks hK (fun w34 w35 w36 w37 M38 h H locs ls hw hl => ?_) n97 w26 w27 w28 w29 _ h _ _ _ hw (lv_sub hl [0, 1, 2, 3] rfl)
      refine lv_aload_n hx hb dX7_divisor_113 rfl (lv_at hl 0 rfl) ?_
      refine lv_iload_n hx hb dX7_divisor_114 rfl (lv_at hl 1 rfl) ?_
      refine lv_iload_n hx hb dX7_divisor_115 rfl (lv_at hl 2 rfl) ?_
      obtain ⟨ho, h⟩ := h
      refine zr_Vi (As := [.int w35, .int w36]) (rest := []) S hK hw (kX7_compared l lo g M38 w34 w35 w36 _ h) (cwV 2 hts (zg_V zu_457 zu_458 zu_459 zu_450 zu_460) rfl rfl rfl (by decide +kernel) ⟨Nat.le_of_ble_eq_true rfl, Nat.le_of_ble_eq_true rfl⟩) (ci := 10) rfl ho rfl hl.1 rfl (Nat.le_of_ble_eq_true rfl) dX7_divisor_116 ⟨Nat.le_of_ble_eq_true rfl, Nat.le_of_ble_eq_true rfl⟩ (fun r40 M39 H locs hw h => ?_)
      refine lv_if_le (tgt := 142) hx hb dX7_divisor_119 (by decide) (fun hc => ?_) (fun hc => ?_)
      · have h := h.1 hc
        exact sX7_divisor_142 S hr hlocks hK ih w34 w35 w36 w37 _ h _ _ _ hw (lv_sub hl [0, 1, 2, 3] rfl)
      · have h := h.2 hc
        refine lv_aload_n hx hb dX7_divisor_122 rfl (lv_at hl 0 rfl) ?_
        refine lv_bipush (v := (20 : Int32)) hx hb dX7_divisor_123 (by decide) ?_
        refine lv_iload_n hx hb dX7_divisor_125 rfl (lv_at hl 1 rfl) ?_
        obtain ⟨ho, h⟩ := h
        refine zr_Vv (As := [.int (20 : Int32), .int w35]) (rest := []) S hK hw (kX7_copy l lo g M39 w34 (20 : Int32) w35 _ h) (cwV 2 hts (zg_V zu_465 zu_466 zu_467 zu_450 zu_468) rfl rfl rfl (by decide +kernel) ⟨Nat.le_of_ble_eq_true rfl, Nat.le_of_ble_eq_true rfl⟩) (ci := 10) rfl ho rfl hl.1 rfl (Nat.le_of_ble_eq_true rfl) dX7_divisor_126 ⟨Nat.le_of_ble_eq_true rfl, Nat.le_of_ble_eq_true rfl⟩ (fun M42 H locs hw h => ?_)
        refine lv_aload_n hx hb dX7_divisor_129 rfl (lv_at hl 0 rfl) ?_
        refine lv_iload_n hx hb dX7_divisor_130 rfl (lv_at hl 1 rfl) ?_
        refine lv_iload_n hx hb dX7_divisor_131 rfl (lv_at hl 2 rfl) ?_
        obtain ⟨ho, h⟩ := h
        refine zr_Vv (As := [.int w35, .int w36]) (rest := []) S hK hw (kX7_copy l lo g M42 w34 w35 w36 _ h) (cwV 2 hts (zg_V zu_465 zu_466 zu_467 zu_450 zu_468) rfl rfl rfl (by decide +kernel) ⟨Nat.le_of_ble_eq_true rfl, Nat.le_of_ble_eq_true rfl⟩) (ci := 10) rfl ho rfl hl.1 rfl (Nat.le_of_ble_eq_true rfl) dX7_divisor_132 ⟨Nat.le_of_ble_eq_true rfl, Nat.le_of_ble_eq_true rfl⟩ (fun M43 H locs hw h => ?_)
        refine lv_aload_n hx hb dX7_divisor_135 rfl (lv_at hl 0 rfl) ?_
        refine lv_iload_n hx hb dX7_divisor_136 rfl (lv_at hl 2 rfl) ?_
        refine lv_bipush (v := (20 : Int32)) hx hb dX7_divisor_137 (by decide) ?_
        obtain ⟨ho, h⟩ := h
        refine zr_Vv (As := [.int w36, .int (20 : Int32)]) (rest := []) S hK hw (kX7_copy l lo g M43 w34 w36 (20 : Int32) _ h) (cwV 2 hts (zg_V zu_465 zu_466 zu_467 zu_450 zu_468) rfl rfl rfl (by decide +kernel) ⟨Nat.le_of_ble_eq_true rfl, Nat.le_of_ble_eq_true rfl⟩) (ci := 10) rfl ho rfl hl.1 rfl (Nat.le_of_ble_eq_true rfl) dX7_divisor_139 ⟨Nat.le_of_ble_eq_true rfl, Nat.le_of_ble_eq_true rfl⟩ (fun M44 H locs hw h => ?_)
        exact sX7_divisor_142 S hr hlocks hK ih w34 w35 w36 w37 _ h _ _ _ hw (lv_sub hl [0, 1, 2, 3] rfl)
set_option maxHeartbeats 4000000 in
set_option maxRecDepth 100000 in
theorem kX7_divisor (l : Launch) (lo : Nat) (g : zg) (M : zm_M) (a0 : Nat) (a1 : Int32) (a2 : Int32) (post : zm_M → Prop) (h : pX7_divisor g.2 a0 a1 a2 post M) : Met l yX7_divisor (Cond.code yX7_divisor cX7_divisor 4 none :: zU) (({ frames := 4, cells := 0, slots := 0, locals := 111 } : Room)) (zc_P zNF zNM lo g M [.ref a0, .int a1, .int a2]) (va_Qv post (zc_B lo g) (zA lo)) 0 0 (zA lo) := by
  refine Met.ofW (cc := cX7_divisor) (maxL := 4) (ret := none) (by decide) rfl ?_
  intro p e s m args below meth c s₁ B hml hv
  obtain ⟨rfl, hR, hK⟩ := hv
  have hts := atoms_spec (ws := Cond.code yX7_divisor cX7_divisor 4 none :: zU) B.pre
  have hts : ∀ w ∈ zU, w.before _ s = true := fun w hw => hts w (List.mem_cons_of_mem _ hw)
  have hown : s.vm.findClass RX7 = some m.cls := findClass_of_methodNamed B.named
  have hx := B.exec
  have hb := B.bytes
  have hr := B.returns
  have hlocks := B.notSynchronized
  have S : CallFix p m c cX7_divisor 4 s ([.ref a0, .int a1, .int a2] : List Value).toArray zU RX7 := ⟨hx, hb, hml, hown, hts⟩
  have hw : zW lo g s s.heap [] M := ⟨hR, va_S.rf⟩
  have hl := lv_entry ([.ref a0, .int a1, .int a2]) (n := 4) (Nat.le_of_ble_eq_true rfl)
  rw [lg_entry_eq]
  generalize (lg_sl ([.ref a0, .int a1, .int a2]) ++ List.replicate (4 - (lg_sl ([.ref a0, .int a1, .int a2])).length) Slot.unset).toArray = ls at hl ⊢
  have hl : lv_has ls 4 [(0, .ref a0), (1, .int a1), (2, .int a2)] := hl
  unfold pX7_divisor at h
  refine lv_aload_n hx hb dX7_divisor_0 rfl (lv_at hl 0 rfl) ?_
  refine zr_ga (C := RX7) (T := TX7) (N := 14) (ci := 10) (k := 10) S hK hw zi_X7 rfl (by decide) zu_444 dX7_divisor_1 h (fun n_1 h => ?_)
  refine lv_iload_n hx hb dX7_divisor_4 rfl (lv_at hl 1 rfl) ?_
  refine zr_iald S hK hw dX7_divisor_5 h (fun e2 h => ?_)
  refine lv_if_eq (tgt := 18) hx hb dX7_divisor_6 (by decide) (fun hc => ?_) (fun hc => ?_)
  · have h := h.1 hc
    exact sX7_divisor_18 S hr hlocks hK  a0 a1 a2 _ h _ _ _ hw (lv_sub hl [0, 1, 2] rfl)
  · have h := h.2 hc
    refine lv_aload_n hx hb dX7_divisor_9 rfl (lv_at hl 0 rfl) ?_
    refine zr_ga (C := RX7) (T := TX7) (N := 14) (ci := 10) (k := 10) S hK hw zi_X7 rfl (by decide) zu_444 dX7_divisor_10 h (fun n_6 h => ?_)
    refine lv_iload_n hx hb dX7_divisor_13 rfl (lv_at hl 2 rfl) ?_
    refine zr_iald S hK hw dX7_divisor_14 h (fun e7 h => ?_)
    refine lv_if_ne (tgt := 38) hx hb dX7_divisor_15 (by decide) (fun hc => ?_) (fun hc => ?_)
    · have h := h.1 hc
      refine lv_iconst (v := (0 : Int32)) hx hb dX7_divisor_38 (by decide) ?_
      refine lv_topi (fun x8 ex8 => ?_)
      have h := h x8 ex8
      refine lv_istore_n (lv' := [(3, .int x8), (0, .ref a0), (1, .int a1), (2, .int a2)]) hx hb dX7_divisor_39 rfl hl (by decide) rfl (fun ls hl => ?_)
      obtain ⟨n40, h⟩ := h
      refine sX7_divisor_40 S hr hlocks hK (fun w16 w17 w18 w19 M20 h H locs ls hw hl => ?_) n40 a0 a1 a2 x8 _ h _ _ _ hw (lv_sub hl [1, 2, 3, 0] rfl)
      obtain ⟨n72, h⟩ := h
      refine sX7_divisor_72 S hr hlocks hK (fun w45 w46 w47 M48 h H locs ls hw hl => ?_) n72 w16 w17 w18 w19 _ h _ _ _ hw (lv_sub hl [0, 1, 2, 3] rfl)
      refine lv_aload_n hx hb dX7_divisor_151 rfl (lv_at hl 0 rfl) ?_
      refine lv_iload_n hx hb dX7_divisor_152 rfl (lv_at hl 1 rfl) ?_
      refine lv_iload_n hx hb dX7_divisor_153 rfl (lv_at hl 2 rfl) ?_
      obtain ⟨ho, h⟩ := h
      refine zr_Vv (As := [.int w46, .int w47]) (rest := []) S hK hw (kX7_up l lo g M48 w45 w46 w47 _ h) (cwV 2 hts (zg_V zu_477 zu_478 zu_479 zu_450 zu_480) rfl rfl rfl (by decide +kernel) ⟨Nat.le_of_ble_eq_true rfl, Nat.le_of_ble_eq_true rfl⟩) (ci := 10) rfl ho rfl hl.1 rfl (Nat.le_of_ble_eq_true rfl) dX7_divisor_154 ⟨Nat.le_of_ble_eq_true rfl, Nat.le_of_ble_eq_true rfl⟩ (fun M49 H locs hw h => ?_)
      exact zr_rv S hr hlocks hw h dX7_divisor_157
    · have h := h.2 hc
      exact sX7_divisor_18 S hr hlocks hK  a0 a1 a2 _ h _ _ _ hw (lv_sub hl [0, 1, 2] rfl)
set_option maxHeartbeats 4000000 in
set_option maxRecDepth 100000 in
theorem sX7_bySmall_13 {p : Program} {l : Launch} {e : Env} {s : State} {m : MethodId} {args : Array Value} {below : List Frame} {meth : Method} {c : Code} {lo : Nat} {g : zg} {post : Int64 → zm_M → Prop} {k66 : Nat → Int32 → Int64 → zm_M → Prop} (S : CallFix p m c cX7_bySmall 7 s args zU RX7) (hr : meth.sig.returnType = (some .long)) (hlocks : meth.locks = false) (hK : zk_K zNF zNM g s) (hk66 : ∀ (v0 : Nat) (v1 : Int32) (v4 : Int64) (M : zm_M), k66 v0 v1 v4 M → ∀ (H : Heap) (locs : List Loc) (ls : Array Slot), zW lo g s H locs M → lv_has ls 7 [(0, .ref v0), (1, .int v1), (4, .long v4)] → W p l e ({ frames := 2, cells := 0, slots := 0, locals := 61 } : Room) s m args below meth c H locs 0 0 (MQ below (va_Ql post (zc_B lo g) (zA lo)) args s 0 0 (zA lo)) (F0 m 66 ls [])) : ∀ (n : Nat) (v0 : Nat) (v1 : Int32) (v2 : Int64) (v4 : Int64) (v6 : Int32) (M : zm_M), pX7_bySmall_13 g.2 post k66 n v0 v1 v2 v4 v6 M → ∀ (H : Heap) (locs : List Loc) (ls : Array Slot), zW lo g s H locs M → lv_has ls 7 [(0, .ref v0), (1, .int v1), (2, .long v2), (4, .long v4), (6, .int v6)] → W p l e ({ frames := 2, cells := 0, slots := 0, locals := 61 } : Room) s m args below meth c H locs 0 0 (MQ below (va_Ql post (zc_B lo g) (zA lo)) args s 0 0 (zA lo)) (F0 m 13 ls []) := by
  obtain ⟨hx, hb, hml, hown, hts⟩ := id S
  intro n
  induction n with
  | zero =>
    intro v0 v1 v2 v4 v6 M h
    exact False.elim h
  | succ n13 ih =>
    intro v0 v1 v2 v4 v6 M h H locs ls hw hl
    rw [pX7_bySmall_13] at h
    refine lv_iload hx hb dX7_bySmall_13 (lv_at hl 4 rfl) ?_
    refine lv_if_lt (tgt := 66) hx hb dX7_bySmall_15 (by decide) (fun hc => ?_) (fun hc => ?_)
    · have h := h.1 hc
      exact hk66 v0 v1 v4 _ h _ _ _ hw (lv_sub hl [0, 1, 3] rfl)
    · have h := h.2 hc
      refine lv_lload hx hb dX7_bySmall_18 (lv_at hl 3 rfl) ?_
      refine lv_bipush (v := (32 : Int32)) hx hb dX7_bySmall_20 (by decide) ?_
      refine lv_lshl hx hb dX7_bySmall_22 rfl ?_
      refine lv_aload_n hx hb dX7_bySmall_23 rfl (lv_at hl 0 rfl) ?_
      refine zr_ga (C := RX7) (T := TX7) (N := 14) (ci := 10) (k := 9) S hK hw zi_X7 rfl (by decide) zu_445 dX7_bySmall_24 h (fun g_5 h => ?_)
      refine lv_bipush (v := (72 : Int32)) hx hb dX7_bySmall_27 (by decide) ?_
      refine lv_iload_n hx hb dX7_bySmall_29 rfl (lv_at hl 1 rfl) ?_
      refine lv_imul hx hb dX7_bySmall_30 ?_
      refine lv_iload hx hb dX7_bySmall_31 (lv_at hl 4 rfl) ?_
      refine lv_iadd hx hb dX7_bySmall_33 ?_
      refine zr_lald S hK hw dX7_bySmall_34 h (fun e6 h => ?_)
      refine lv_lor hx hb dX7_bySmall_35 ?_
      refine lv_topl (fun x7 ex7 => ?_)
      have h := h x7 ex7
      refine lv_lstore (lv' := [(4, .long x7), (0, .ref v0), (1, .int v1), (2, .long v2), (6, .int v6)]) hx hb dX7_bySmall_36 hl (by decide) rfl (fun ls hl => ?_)
      refine lv_aload_n hx hb dX7_bySmall_38 rfl (lv_at hl 1 rfl) ?_
      refine zr_ga (C := RX7) (T := TX7) (N := 14) (ci := 10) (k := 9) S hK hw zi_X7 rfl (by decide) zu_445 dX7_bySmall_39 h (fun g_8 h => ?_)
      refine lv_bipush (v := (72 : Int32)) hx hb dX7_bySmall_42 (by decide) ?_
      refine lv_iload_n hx hb dX7_bySmall_44 rfl (lv_at hl 2 rfl) ?_
      refine lv_imul hx hb dX7_bySmall_45 ?_
      refine lv_iload hx hb dX7_bySmall_46 (lv_at hl 4 rfl) ?_
      refine lv_iadd hx hb dX7_bySmall_48 ?_
      refine lv_lload hx hb dX7_bySmall_49 (lv_at hl 0 rfl) ?_
      refine lv_lload_n hx hb dX7_bySmall_51 rfl (lv_at hl 3 rfl) ?_
      refine lv_ldiv hx hb dX7_bySmall_52 h.1 ?_
      have h := h.2
      refine zr_last S hK hw dX7_bySmall_53 h (fun M9 H locs hw h => ?_)
      refine lv_lload hx hb dX7_bySmall_54 (lv_at hl 0 rfl) ?_
      refine lv_lload_n hx hb dX7_bySmall_56 rfl (lv_at hl 3 rfl) ?_
      refine lv_lrem hx hb dX7_bySmall_57 h.1 ?_
      have h := h.2
      refine lv_topl (fun x10 ex10 => ?_)
      have h := h x10 ex10
      refine lv_lstore (lv' := [(4, .long x10), (0, .ref v0), (1, .int v1), (2, .long v2), (6, .int v6)]) hx hb dX7_bySmall_58 hl (by decide) rfl (fun ls hl => ?_)
      obtain ⟨x11, ex11⟩ : ∃ z : Int32, z = v6 + (-1 : Int32) := ⟨_, rfl⟩
      have h := h x11 ex11
      refine lv_iinc (v := x11) (lv' := [(6, .int x11), (4, .long x10), (0, .ref v0), (1, .int v1), (2, .long v2)]) hx hb dX7_bySmall_60 hl (k := 4) rfl (by rw [ex11]; rfl) (by decide) rfl (fun ls hl => ?_)
      refine lv_goto (tgt := 13) hx hb dX7_bySmall_63 (by decide) ?_
      exact ih v0 v1 v2 x10 x11 _ h _ _ _ hw (lv_sub hl [2, 3, 4, 1, 0] rfl)
set_option maxHeartbeats 4000000 in
set_option maxRecDepth 100000 in
theorem kX7_bySmall (l : Launch) (lo : Nat) (g : zg) (M : zm_M) (a0 : Nat) (a1 : Int32) (a2 : Int64) (post : Int64 → zm_M → Prop) (h : pX7_bySmall g.2 a0 a1 a2 post M) : Met l yX7_bySmall (Cond.code yX7_bySmall cX7_bySmall 7 (some .long) :: zU) (({ frames := 2, cells := 0, slots := 0, locals := 61 } : Room)) (zc_P zNF zNM lo g M [.ref a0, .int a1, .long a2]) (va_Ql post (zc_B lo g) (zA lo)) 0 0 (zA lo) := by
  refine Met.ofW (cc := cX7_bySmall) (maxL := 7) (ret := (some .long)) (by decide) rfl ?_
  intro p e s m args below meth c s₁ B hml hv
  obtain ⟨rfl, hR, hK⟩ := hv
  have hts := atoms_spec (ws := Cond.code yX7_bySmall cX7_bySmall 7 (some .long) :: zU) B.pre
  have hts : ∀ w ∈ zU, w.before _ s = true := fun w hw => hts w (List.mem_cons_of_mem _ hw)
  have hown : s.vm.findClass RX7 = some m.cls := findClass_of_methodNamed B.named
  have hx := B.exec
  have hb := B.bytes
  have hr := B.returns
  have hlocks := B.notSynchronized
  have S : CallFix p m c cX7_bySmall 7 s ([.ref a0, .int a1, .long a2] : List Value).toArray zU RX7 := ⟨hx, hb, hml, hown, hts⟩
  have hw : zW lo g s s.heap [] M := ⟨hR, va_S.rf⟩
  have hl := lv_entry ([.ref a0, .int a1, .long a2]) (n := 7) (Nat.le_of_ble_eq_true rfl)
  rw [lg_entry_eq]
  generalize (lg_sl ([.ref a0, .int a1, .long a2]) ++ List.replicate (7 - (lg_sl ([.ref a0, .int a1, .long a2])).length) Slot.unset).toArray = ls at hl ⊢
  have hl : lv_has ls 7 [(0, .ref a0), (1, .int a1), (2, .long a2)] := hl
  unfold pX7_bySmall at h
  refine lv_lconst (v := (0 : Int64)) hx hb dX7_bySmall_0 (by decide) ?_
  refine lv_topl (fun x1 ex1 => ?_)
  have h := h x1 ex1
  refine lv_lstore (lv' := [(4, .long x1), (0, .ref a0), (1, .int a1), (2, .long a2)]) hx hb dX7_bySmall_1 hl (by decide) rfl (fun ls hl => ?_)
  refine lv_aload_n hx hb dX7_bySmall_3 rfl (lv_at hl 1 rfl) ?_
  refine zr_ga (C := RX7) (T := TX7) (N := 14) (ci := 10) (k := 10) S hK hw zi_X7 rfl (by decide) zu_444 dX7_bySmall_4 h (fun n_2 h => ?_)
  refine lv_iload_n hx hb dX7_bySmall_7 rfl (lv_at hl 2 rfl) ?_
  refine zr_iald S hK hw dX7_bySmall_8 h (fun e3 h => ?_)
  refine lv_iconst (v := (1 : Int32)) hx hb dX7_bySmall_9 (by decide) ?_
  refine lv_isub hx hb dX7_bySmall_10 ?_
  refine lv_topi (fun x4 ex4 => ?_)
  have h := h x4 ex4
  refine lv_istore (lv' := [(6, .int x4), (4, .long x1), (0, .ref a0), (1, .int a1), (2, .long a2)]) hx hb dX7_bySmall_11 hl (by decide) rfl (fun ls hl => ?_)
  obtain ⟨n13, h⟩ := h
  refine sX7_bySmall_13 S hr hlocks hK (fun w12 w13 w14 M15 h H locs ls hw hl => ?_) n13 a0 a1 a2 x1 x4 _ h _ _ _ hw (lv_sub hl [2, 3, 4, 1, 0] rfl)
  refine lv_aload_n hx hb dX7_bySmall_66 rfl (lv_at hl 0 rfl) ?_
  refine lv_iload_n hx hb dX7_bySmall_67 rfl (lv_at hl 1 rfl) ?_
  obtain ⟨ho, h⟩ := h
  refine zr_Vv (As := [.int w13]) (rest := []) S hK hw (kX7_trim l lo g M15 w12 w13 _ h) (cwV 1 hts (zg_V zu_447 zu_448 zu_449 zu_450 zu_451) rfl rfl rfl (by decide +kernel) ⟨Nat.le_of_ble_eq_true rfl, Nat.le_of_ble_eq_true rfl⟩) (ci := 10) rfl ho rfl hl.1 rfl (Nat.le_of_ble_eq_true rfl) dX7_bySmall_68 ⟨Nat.le_of_ble_eq_true rfl, Nat.le_of_ble_eq_true rfl⟩ (fun M16 H locs hw h => ?_)
  refine lv_lload hx hb dX7_bySmall_71 (lv_at hl 2 rfl) ?_
  exact zr_rl S hr hlocks hw h dX7_bySmall_73
set_option maxHeartbeats 4000000 in
set_option maxRecDepth 100000 in
theorem sX7_timesSmall_7 {p : Program} {l : Launch} {e : Env} {s : State} {m : MethodId} {args : Array Value} {below : List Frame} {meth : Method} {c : Code} {lo : Nat} {g : zg} {post : zm_M → Prop} {k68 : Nat → Int32 → Int64 → zm_M → Prop} (S : CallFix p m c cX7_timesSmall 9 s args zU RX7) (hr : meth.sig.returnType = none) (hlocks : meth.locks = false) (hK : zk_K zNF zNM g s) (hk68 : ∀ (v0 : Nat) (v1 : Int32) (v6 : Int64) (M : zm_M), k68 v0 v1 v6 M → ∀ (H : Heap) (locs : List Loc) (ls : Array Slot), zW lo g s H locs M → lv_has ls 9 [(0, .ref v0), (1, .int v1), (6, .long v6)] → W p l e ({ frames := 2, cells := 0, slots := 0, locals := 61 } : Room) s m args below meth c H locs 0 0 (MQ below (va_Qv post (zc_B lo g) (zA lo)) args s 0 0 (zA lo)) (F0 m 68 ls [])) : ∀ (n : Nat) (v0 : Nat) (v1 : Int32) (v2 : Int64) (v6 : Int64) (v8 : Int32) (M : zm_M), pX7_timesSmall_7 g.2 post k68 n v0 v1 v2 v6 v8 M → ∀ (H : Heap) (locs : List Loc) (ls : Array Slot), zW lo g s H locs M → lv_has ls 9 [(0, .ref v0), (1, .int v1), (2, .long v2), (6, .long v6), (8, .int v8)] → W p l e ({ frames := 2, cells := 0, slots := 0, locals := 61 } : Room) s m args below meth c H locs 0 0 (MQ below (va_Qv post (zc_B lo g) (zA lo)) args s 0 0 (zA lo)) (F0 m 7 ls []) := by
  obtain ⟨hx, hb, hml, hown, hts⟩ := id S
  intro n
  induction n with
  | zero =>
    intro v0 v1 v2 v6 v8 M h
    exact False.elim h
  | succ n7 ih =>
    intro v0 v1 v2 v6 v8 M h H locs ls hw hl
    rw [pX7_timesSmall_7] at h
    refine lv_iload hx hb dX7_timesSmall_7 (lv_at hl 4 rfl) ?_
    refine lv_aload_n hx hb dX7_timesSmall_9 rfl (lv_at hl 0 rfl) ?_
    refine zr_ga (C := RX7) (T := TX7) (N := 14) (ci := 10) (k := 10) S hK hw zi_X7 rfl (by decide) zu_444 dX7_timesSmall_10 h (fun n_2 h => ?_)
    refine lv_iload_n hx hb dX7_timesSmall_13 rfl (lv_at hl 1 rfl) ?_
    refine zr_iald S hK hw dX7_timesSmall_14 h (fun e3 h => ?_)
    refine lv_icmp_ge (tgt := 68) hx hb dX7_timesSmall_15 (by decide) (fun hc => ?_) (fun hc => ?_)
    · have h := h.1 hc
      exact hk68 v0 v1 v6 _ h _ _ _ hw (lv_sub hl [0, 1, 3] rfl)
    · have h := h.2 hc
      refine lv_lload hx hb dX7_timesSmall_18 (lv_at hl 3 rfl) ?_
      refine lv_aload_n hx hb dX7_timesSmall_20 rfl (lv_at hl 0 rfl) ?_
      refine zr_ga (C := RX7) (T := TX7) (N := 14) (ci := 10) (k := 9) S hK hw zi_X7 rfl (by decide) zu_445 dX7_timesSmall_21 h (fun g_4 h => ?_)
      refine lv_bipush (v := (72 : Int32)) hx hb dX7_timesSmall_24 (by decide) ?_
      refine lv_iload_n hx hb dX7_timesSmall_26 rfl (lv_at hl 1 rfl) ?_
      refine lv_imul hx hb dX7_timesSmall_27 ?_
      refine lv_iload hx hb dX7_timesSmall_28 (lv_at hl 4 rfl) ?_
      refine lv_iadd hx hb dX7_timesSmall_30 ?_
      refine zr_lald S hK hw dX7_timesSmall_31 h (fun e5 h => ?_)
      refine lv_lload_n hx hb dX7_timesSmall_32 rfl (lv_at hl 2 rfl) ?_
      refine lv_lmul hx hb dX7_timesSmall_33 ?_
      refine lv_ladd hx hb dX7_timesSmall_34 ?_
      refine lv_topl (fun x6 ex6 => ?_)
      have h := h x6 ex6
      refine lv_lstore (lv' := [(6, .long x6), (0, .ref v0), (1, .int v1), (2, .long v2), (8, .int v8)]) hx hb dX7_timesSmall_35 hl (by decide) rfl (fun ls hl => ?_)
      refine lv_aload_n hx hb dX7_timesSmall_37 rfl (lv_at hl 1 rfl) ?_
      refine zr_ga (C := RX7) (T := TX7) (N := 14) (ci := 10) (k := 9) S hK hw zi_X7 rfl (by decide) zu_445 dX7_timesSmall_38 h (fun g_7 h => ?_)
      refine lv_bipush (v := (72 : Int32)) hx hb dX7_timesSmall_41 (by decide) ?_
      refine lv_iload_n hx hb dX7_timesSmall_43 rfl (lv_at hl 2 rfl) ?_
      refine lv_imul hx hb dX7_timesSmall_44 ?_
      refine lv_iload hx hb dX7_timesSmall_45 (lv_at hl 4 rfl) ?_
      refine lv_iadd hx hb dX7_timesSmall_47 ?_
      refine lv_lload hx hb dX7_timesSmall_48 (lv_at hl 0 rfl) ?_
      refine lv_ldc2 (v := (4294967295 : Int64)) hx hb hown (hts _ zu_446) dX7_timesSmall_50 ?_
      refine lv_land hx hb dX7_timesSmall_53 ?_
      refine zr_last S hK hw dX7_timesSmall_54 h (fun M8 H locs hw h => ?_)
      refine lv_lload hx hb dX7_timesSmall_55 (lv_at hl 0 rfl) ?_
      refine lv_bipush (v := (32 : Int32)) hx hb dX7_timesSmall_57 (by decide) ?_
      refine lv_lushr hx hb dX7_timesSmall_59 rfl ?_
      refine lv_topl (fun x9 ex9 => ?_)
      have h := h x9 ex9
      refine lv_lstore (lv' := [(6, .long x9), (0, .ref v0), (1, .int v1), (2, .long v2), (8, .int v8)]) hx hb dX7_timesSmall_60 hl (by decide) rfl (fun ls hl => ?_)
      obtain ⟨x10, ex10⟩ : ∃ z : Int32, z = v8 + (1 : Int32) := ⟨_, rfl⟩
      have h := h x10 ex10
      refine lv_iinc (v := x10) (lv' := [(8, .int x10), (6, .long x9), (0, .ref v0), (1, .int v1), (2, .long v2)]) hx hb dX7_timesSmall_62 hl (k := 4) rfl (by rw [ex10]; rfl) (by decide) rfl (fun ls hl => ?_)
      refine lv_goto (tgt := 7) hx hb dX7_timesSmall_65 (by decide) ?_
      exact ih v0 v1 v2 x9 x10 _ h _ _ _ hw (lv_sub hl [2, 3, 4, 1, 0] rfl)
set_option maxHeartbeats 4000000 in
set_option maxRecDepth 100000 in
theorem kX7_timesSmall (l : Launch) (lo : Nat) (g : zg) (M : zm_M) (a0 : Nat) (a1 : Int32) (a2 : Int64) (a4 : Int64) (post : zm_M → Prop) (h : pX7_timesSmall g.2 a0 a1 a2 a4 post M) : Met l yX7_timesSmall (Cond.code yX7_timesSmall cX7_timesSmall 9 none :: zU) (({ frames := 2, cells := 0, slots := 0, locals := 61 } : Room)) (zc_P zNF zNM lo g M [.ref a0, .int a1, .long a2, .long a4]) (va_Qv post (zc_B lo g) (zA lo)) 0 0 (zA lo) := by
  refine Met.ofW (cc := cX7_timesSmall) (maxL := 9) (ret := none) (by decide) rfl ?_
  intro p e s m args below meth c s₁ B hml hv
  obtain ⟨rfl, hR, hK⟩ := hv
  have hts := atoms_spec (ws := Cond.code yX7_timesSmall cX7_timesSmall 9 none :: zU) B.pre
  have hts : ∀ w ∈ zU, w.before _ s = true := fun w hw => hts w (List.mem_cons_of_mem _ hw)
  have hown : s.vm.findClass RX7 = some m.cls := findClass_of_methodNamed B.named
  have hx := B.exec
  have hb := B.bytes
  have hr := B.returns
  have hlocks := B.notSynchronized
  have S : CallFix p m c cX7_timesSmall 9 s ([.ref a0, .int a1, .long a2, .long a4] : List Value).toArray zU RX7 := ⟨hx, hb, hml, hown, hts⟩
  have hw : zW lo g s s.heap [] M := ⟨hR, va_S.rf⟩
  have hl := lv_entry ([.ref a0, .int a1, .long a2, .long a4]) (n := 9) (Nat.le_of_ble_eq_true rfl)
  rw [lg_entry_eq]
  generalize (lg_sl ([.ref a0, .int a1, .long a2, .long a4]) ++ List.replicate (9 - (lg_sl ([.ref a0, .int a1, .long a2, .long a4])).length) Slot.unset).toArray = ls at hl ⊢
  have hl : lv_has ls 9 [(0, .ref a0), (1, .int a1), (2, .long a2), (4, .long a4)] := hl
  unfold pX7_timesSmall at h
  refine lv_lload hx hb dX7_timesSmall_0 (lv_at hl 3 rfl) ?_
  refine lv_lstore (lv' := [(6, .long a4), (0, .ref a0), (1, .int a1), (2, .long a2), (4, .long a4)]) hx hb dX7_timesSmall_2 hl (by decide) rfl (fun ls hl => ?_)
  refine lv_iconst (v := (0 : Int32)) hx hb dX7_timesSmall_4 (by decide) ?_
  refine lv_topi (fun x1 ex1 => ?_)
  have h := h x1 ex1
  refine lv_istore (lv' := [(8, .int x1), (6, .long a4), (0, .ref a0), (1, .int a1), (2, .long a2), (4, .long a4)]) hx hb dX7_timesSmall_5 hl (by decide) rfl (fun ls hl => ?_)
  obtain ⟨n7, h⟩ := h
  refine sX7_timesSmall_7 S hr hlocks hK (fun w11 w12 w13 M14 h H locs ls hw hl => ?_) n7 a0 a1 a2 a4 x1 _ h _ _ _ hw (lv_sub hl [2, 3, 4, 1, 0] rfl)
  refine lv_aload_n hx hb dX7_timesSmall_68 rfl (lv_at hl 0 rfl) ?_
  refine zr_ga (C := RX7) (T := TX7) (N := 14) (ci := 10) (k := 9) S hK hw zi_X7 rfl (by decide) zu_445 dX7_timesSmall_69 h (fun g_15 h => ?_)
  refine lv_bipush (v := (72 : Int32)) hx hb dX7_timesSmall_72 (by decide) ?_
  refine lv_iload_n hx hb dX7_timesSmall_74 rfl (lv_at hl 1 rfl) ?_
  refine lv_imul hx hb dX7_timesSmall_75 ?_
  refine lv_aload_n hx hb dX7_timesSmall_76 rfl (lv_at hl 0 rfl) ?_
  refine zr_ga (C := RX7) (T := TX7) (N := 14) (ci := 10) (k := 10) S hK hw zi_X7 rfl (by decide) zu_444 dX7_timesSmall_77 h (fun n_16 h => ?_)
  refine lv_iload_n hx hb dX7_timesSmall_80 rfl (lv_at hl 1 rfl) ?_
  refine zr_iald S hK hw dX7_timesSmall_81 h (fun e17 h => ?_)
  refine lv_iadd hx hb dX7_timesSmall_82 ?_
  refine lv_lload hx hb dX7_timesSmall_83 (lv_at hl 2 rfl) ?_
  refine zr_last S hK hw dX7_timesSmall_85 h (fun M18 H locs hw h => ?_)
  refine lv_aload_n hx hb dX7_timesSmall_86 rfl (lv_at hl 0 rfl) ?_
  refine zr_ga (C := RX7) (T := TX7) (N := 14) (ci := 10) (k := 10) S hK hw zi_X7 rfl (by decide) zu_444 dX7_timesSmall_87 h (fun n_19 h => ?_)
  refine lv_iload_n hx hb dX7_timesSmall_90 rfl (lv_at hl 1 rfl) ?_
  refine lv_dup2_11 hx hb dX7_timesSmall_91 rfl rfl ?_
  refine zr_iald S hK hw dX7_timesSmall_92 h (fun e20 h => ?_)
  refine lv_iconst (v := (1 : Int32)) hx hb dX7_timesSmall_93 (by decide) ?_
  refine lv_iadd hx hb dX7_timesSmall_94 ?_
  refine zr_iast S hK hw dX7_timesSmall_95 h (fun M21 H locs hw h => ?_)
  refine lv_aload_n hx hb dX7_timesSmall_96 rfl (lv_at hl 0 rfl) ?_
  refine lv_iload_n hx hb dX7_timesSmall_97 rfl (lv_at hl 1 rfl) ?_
  obtain ⟨ho, h⟩ := h
  refine zr_Vv (As := [.int w12]) (rest := []) S hK hw (kX7_trim l lo g M21 w11 w12 _ h) (cwV 1 hts (zg_V zu_447 zu_448 zu_449 zu_450 zu_451) rfl rfl rfl (by decide +kernel) ⟨Nat.le_of_ble_eq_true rfl, Nat.le_of_ble_eq_true rfl⟩) (ci := 10) rfl ho rfl hl.1 rfl (Nat.le_of_ble_eq_true rfl) dX7_timesSmall_98 ⟨Nat.le_of_ble_eq_true rfl, Nat.le_of_ble_eq_true rfl⟩ (fun M22 H locs hw h => ?_)
  exact zr_rv S hr hlocks hw h dX7_timesSmall_101
set_option maxHeartbeats 4000000 in
set_option maxRecDepth 100000 in
theorem kX7_isNumber (l : Launch) (lo : Nat) (g : zg) (M : zm_M) (a0 : Nat) (a1 : Int32) (post : Int32 → zm_M → Prop) (h : pX7_isNumber g.2 a0 a1 post M) : Met l yX7_isNumber (Cond.code yX7_isNumber cX7_isNumber 2 (some .boolean) :: zU) (({ frames := 2, cells := 0, slots := 0, locals := 65 } : Room)) (zc_P zNF zNM lo g M [.ref a0, .int a1]) (va_Qi post (zc_B lo g) (zA lo)) 0 0 (zA lo) := by
  refine Met.ofW (cc := cX7_isNumber) (maxL := 2) (ret := (some .boolean)) (by decide) rfl ?_
  intro p e s m args below meth c s₁ B hml hv
  obtain ⟨rfl, hR, hK⟩ := hv
  have hts := atoms_spec (ws := Cond.code yX7_isNumber cX7_isNumber 2 (some .boolean) :: zU) B.pre
  have hts : ∀ w ∈ zU, w.before _ s = true := fun w hw => hts w (List.mem_cons_of_mem _ hw)
  have hown : s.vm.findClass RX7 = some m.cls := findClass_of_methodNamed B.named
  have hx := B.exec
  have hb := B.bytes
  have hr := B.returns
  have hlocks := B.notSynchronized
  have S : CallFix p m c cX7_isNumber 2 s ([.ref a0, .int a1] : List Value).toArray zU RX7 := ⟨hx, hb, hml, hown, hts⟩
  have hw : zW lo g s s.heap [] M := ⟨hR, va_S.rf⟩
  have hl := lv_entry ([.ref a0, .int a1]) (n := 2) (Nat.le_of_ble_eq_true rfl)
  rw [lg_entry_eq]
  generalize (lg_sl ([.ref a0, .int a1]) ++ List.replicate (2 - (lg_sl ([.ref a0, .int a1])).length) Slot.unset).toArray = ls at hl ⊢
  have hl : lv_has ls 2 [(0, .ref a0), (1, .int a1)] := hl
  unfold pX7_isNumber at h
  refine lv_iload_n hx hb dX7_isNumber_0 rfl (lv_at hl 1 rfl) ?_
  refine lv_i2l hx hb dX7_isNumber_1 rfl ?_
  refine lv_lconst (v := (0 : Int64)) hx hb dX7_isNumber_2 (by decide) ?_
  refine lv_ldc2 (v := (23 : Int64)) hx hb hown (hts _ zu_481) dX7_isNumber_3 ?_
  refine zr_Si (As := [.long (a1.toInt64), .long (0 : Int64), .long (23 : Int64)]) (rest := []) S hK hw (kX7_in l lo g M (a1.toInt64) (0 : Int64) (23 : Int64) _ h) (va_cwS 3 hts (zg_S zu_482 zu_483 zu_450 zu_484) rfl rfl rfl (by decide +kernel) ⟨Nat.le_of_ble_eq_true rfl, Nat.le_of_ble_eq_true rfl⟩) rfl hl.1 rfl (Nat.le_of_ble_eq_true rfl) dX7_isNumber_6 ⟨Nat.le_of_ble_eq_true rfl, Nat.le_of_ble_eq_true rfl⟩ (fun r2 M1 H locs hw h => ?_)
  refine lv_if_eq (tgt := 25) hx hb dX7_isNumber_9 (by decide) (fun hc => ?_) (fun hc => ?_)
  · have h := h.1 hc
    refine lv_iconst (v := (0 : Int32)) hx hb dX7_isNumber_25 (by decide) ?_
    exact zr_rz S hr hlocks hw h dX7_isNumber_26
  · have h := h.2 hc
    refine lv_aload_n hx hb dX7_isNumber_12 rfl (lv_at hl 0 rfl) ?_
    refine zr_ga (C := RX7) (T := TX7) (N := 14) (ci := 10) (k := 1) S hK hw zi_X7 rfl (by decide) zu_485 dX7_isNumber_13 h (fun isThere_3 h => ?_)
    refine lv_iload_n hx hb dX7_isNumber_16 rfl (lv_at hl 1 rfl) ?_
    refine zr_zald S hK hw dX7_isNumber_17 h (fun e4 h => ?_)
    refine lv_if_eq (tgt := 25) hx hb dX7_isNumber_18 (by decide) (fun hc => ?_) (fun hc => ?_)
    · have h := h.1 hc
      refine lv_iconst (v := (0 : Int32)) hx hb dX7_isNumber_25 (by decide) ?_
      exact zr_rz S hr hlocks hw h dX7_isNumber_26
    · have h := h.2 hc
      refine lv_iconst (v := (1 : Int32)) hx hb dX7_isNumber_21 (by decide) ?_
      refine lv_goto (tgt := 26) hx hb dX7_isNumber_22 (by decide) ?_
      exact zr_rz S hr hlocks hw h dX7_isNumber_26
set_option maxHeartbeats 4000000 in
set_option maxRecDepth 100000 in
theorem sX7_take_19 {p : Program} {l : Launch} {e : Env} {s : State} {m : MethodId} {args : Array Value} {below : List Frame} {meth : Method} {c : Code} {lo : Nat} {g : zg} {post : zm_M → Prop}  (S : CallFix p m c cX7_take 5 s args zU RX7) (hr : meth.sig.returnType = none) (hlocks : meth.locks = false) (hK : zk_K zNF zNM g s)  : ∀ (n : Nat) (v0 : Nat) (v1 : Int32) (v2 : Int32) (v3 : Int32) (v4 : Int32) (M : zm_M), pX7_take_19 g.2 post  n v0 v1 v2 v3 v4 M → ∀ (H : Heap) (locs : List Loc) (ls : Array Slot), zW lo g s H locs M → lv_has ls 5 [(0, .ref v0), (1, .int v1), (2, .int v2), (3, .int v3), (4, .int v4)] → W p l e ({ frames := 1, cells := 0, slots := 0, locals := 40 } : Room) s m args below meth c H locs 0 0 (MQ below (va_Qv post (zc_B lo g) (zA lo)) args s 0 0 (zA lo)) (F0 m 19 ls []) := by
  obtain ⟨hx, hb, hml, hown, hts⟩ := id S
  intro n
  induction n with
  | zero =>
    intro v0 v1 v2 v3 v4 M h
    exact False.elim h
  | succ n19 ih =>
    intro v0 v1 v2 v3 v4 M h H locs ls hw hl
    rw [pX7_take_19] at h
    refine lv_iload hx hb dX7_take_19 (lv_at hl 4 rfl) ?_
    refine lv_aload_n hx hb dX7_take_21 rfl (lv_at hl 0 rfl) ?_
    refine zr_ga (C := RX7) (T := TX7) (N := 14) (ci := 10) (k := 10) S hK hw zi_X7 rfl (by decide) zu_444 dX7_take_22 h (fun n_6 h => ?_)
    refine lv_iload_n hx hb dX7_take_25 rfl (lv_at hl 1 rfl) ?_
    refine zr_iald S hK hw dX7_take_26 h (fun e7 h => ?_)
    refine lv_icmp_ge (tgt := 64) hx hb dX7_take_27 (by decide) (fun hc => ?_) (fun hc => ?_)
    · have h := h.1 hc
      exact zr_rv S hr hlocks hw h dX7_take_64
    · have h := h.2 hc
      refine lv_aload_n hx hb dX7_take_30 rfl (lv_at hl 0 rfl) ?_
      refine zr_ga (C := RX7) (T := TX7) (N := 14) (ci := 10) (k := 9) S hK hw zi_X7 rfl (by decide) zu_445 dX7_take_31 h (fun g_8 h => ?_)
      refine lv_bipush (v := (72 : Int32)) hx hb dX7_take_34 (by decide) ?_
      refine lv_iload_n hx hb dX7_take_36 rfl (lv_at hl 1 rfl) ?_
      refine lv_imul hx hb dX7_take_37 ?_
      refine lv_iload hx hb dX7_take_38 (lv_at hl 4 rfl) ?_
      refine lv_iadd hx hb dX7_take_40 ?_
      refine lv_aload_n hx hb dX7_take_41 rfl (lv_at hl 0 rfl) ?_
      refine zr_ga (C := RX7) (T := TX7) (N := 14) (ci := 10) (k := 3) S hK hw zi_X7 rfl (by decide) zu_487 dX7_take_42 h (fun keptLimb_9 h => ?_)
      refine lv_bipush (v := (16 : Int32)) hx hb dX7_take_45 (by decide) ?_
      refine lv_iconst (v := (2 : Int32)) hx hb dX7_take_47 (by decide) ?_
      refine lv_iload_n hx hb dX7_take_48 rfl (lv_at hl 2 rfl) ?_
      refine lv_imul hx hb dX7_take_49 ?_
      refine lv_iload_n hx hb dX7_take_50 rfl (lv_at hl 3 rfl) ?_
      refine lv_iadd hx hb dX7_take_51 ?_
      refine lv_imul hx hb dX7_take_52 ?_
      refine lv_iload hx hb dX7_take_53 (lv_at hl 4 rfl) ?_
      refine lv_iadd hx hb dX7_take_55 ?_
      refine zr_lald S hK hw dX7_take_56 h (fun e10 h => ?_)
      refine zr_last S hK hw dX7_take_57 h (fun M11 H locs hw h => ?_)
      obtain ⟨x12, ex12⟩ : ∃ z : Int32, z = v4 + (1 : Int32) := ⟨_, rfl⟩
      have h := h x12 ex12
      refine lv_iinc (v := x12) (lv' := [(4, .int x12), (0, .ref v0), (1, .int v1), (2, .int v2), (3, .int v3)]) hx hb dX7_take_58 hl (k := 4) rfl (by rw [ex12]; rfl) (by decide) rfl (fun ls hl => ?_)
      refine lv_goto (tgt := 19) hx hb dX7_take_61 (by decide) ?_
      exact ih v0 v1 v2 v3 x12 _ h _ _ _ hw (lv_sub hl [1, 2, 3, 4, 0] rfl)
set_option maxHeartbeats 4000000 in
set_option maxRecDepth 100000 in
theorem kX7_take (l : Launch) (lo : Nat) (g : zg) (M : zm_M) (a0 : Nat) (a1 : Int32) (a2 : Int32) (a3 : Int32) (post : zm_M → Prop) (h : pX7_take g.2 a0 a1 a2 a3 post M) : Met l yX7_take (Cond.code yX7_take cX7_take 5 none :: zU) (({ frames := 1, cells := 0, slots := 0, locals := 40 } : Room)) (zc_P zNF zNM lo g M [.ref a0, .int a1, .int a2, .int a3]) (va_Qv post (zc_B lo g) (zA lo)) 0 0 (zA lo) := by
  refine Met.ofW (cc := cX7_take) (maxL := 5) (ret := none) (by decide) rfl ?_
  intro p e s m args below meth c s₁ B hml hv
  obtain ⟨rfl, hR, hK⟩ := hv
  have hts := atoms_spec (ws := Cond.code yX7_take cX7_take 5 none :: zU) B.pre
  have hts : ∀ w ∈ zU, w.before _ s = true := fun w hw => hts w (List.mem_cons_of_mem _ hw)
  have hown : s.vm.findClass RX7 = some m.cls := findClass_of_methodNamed B.named
  have hx := B.exec
  have hb := B.bytes
  have hr := B.returns
  have hlocks := B.notSynchronized
  have S : CallFix p m c cX7_take 5 s ([.ref a0, .int a1, .int a2, .int a3] : List Value).toArray zU RX7 := ⟨hx, hb, hml, hown, hts⟩
  have hw : zW lo g s s.heap [] M := ⟨hR, va_S.rf⟩
  have hl := lv_entry ([.ref a0, .int a1, .int a2, .int a3]) (n := 5) (Nat.le_of_ble_eq_true rfl)
  rw [lg_entry_eq]
  generalize (lg_sl ([.ref a0, .int a1, .int a2, .int a3]) ++ List.replicate (5 - (lg_sl ([.ref a0, .int a1, .int a2, .int a3])).length) Slot.unset).toArray = ls at hl ⊢
  have hl : lv_has ls 5 [(0, .ref a0), (1, .int a1), (2, .int a2), (3, .int a3)] := hl
  unfold pX7_take at h
  refine lv_aload_n hx hb dX7_take_0 rfl (lv_at hl 0 rfl) ?_
  refine zr_ga (C := RX7) (T := TX7) (N := 14) (ci := 10) (k := 10) S hK hw zi_X7 rfl (by decide) zu_444 dX7_take_1 h (fun n_1 h => ?_)
  refine lv_iload_n hx hb dX7_take_4 rfl (lv_at hl 1 rfl) ?_
  refine lv_aload_n hx hb dX7_take_5 rfl (lv_at hl 0 rfl) ?_
  refine zr_ga (C := RX7) (T := TX7) (N := 14) (ci := 10) (k := 4) S hK hw zi_X7 rfl (by decide) zu_486 dX7_take_6 h (fun keptSize_2 h => ?_)
  refine lv_iconst (v := (2 : Int32)) hx hb dX7_take_9 (by decide) ?_
  refine lv_iload_n hx hb dX7_take_10 rfl (lv_at hl 2 rfl) ?_
  refine lv_imul hx hb dX7_take_11 ?_
  refine lv_iload_n hx hb dX7_take_12 rfl (lv_at hl 3 rfl) ?_
  refine lv_iadd hx hb dX7_take_13 ?_
  refine zr_iald S hK hw dX7_take_14 h (fun e3 h => ?_)
  refine zr_iast S hK hw dX7_take_15 h (fun M4 H locs hw h => ?_)
  refine lv_iconst (v := (0 : Int32)) hx hb dX7_take_16 (by decide) ?_
  refine lv_topi (fun x5 ex5 => ?_)
  have h := h x5 ex5
  refine lv_istore (lv' := [(4, .int x5), (0, .ref a0), (1, .int a1), (2, .int a2), (3, .int a3)]) hx hb dX7_take_17 hl (by decide) rfl (fun ls hl => ?_)
  obtain ⟨n19, h⟩ := h
  refine sX7_take_19 S hr hlocks hK  n19 a0 a1 a2 a3 x5 _ h _ _ _ hw (lv_sub hl [1, 2, 3, 4, 0] rfl)
