set_option maxHeartbeats 4000000 in
set_option maxRecDepth 100000 in
theorem sX7_free_2 {p : Program} {l : Launch} {e : Env} {s : State} {m : MethodId} {args : Array Value} {below : List Frame} {meth : Method} {c : Code} {lo : Nat} {g : zg} {post : Int32 → zm_M → Prop}  (S : CallFix p m c cX7_free 2 s args zU RX7) (hr : meth.sig.returnType = (some .int)) (hlocks : meth.locks = false) (hK : zk_K zNF zNM g s)  : ∀ (n : Nat) (v0 : Nat) (v1 : Int32) (M : zm_M), pX7_free_2 g.2 post  n v0 v1 M → ∀ (H : Heap) (locs : List Loc) (ls : Array Slot), zW lo g s H locs M → lv_has ls 2 [(0, .ref v0), (1, .int v1)] → W p l e ({ frames := 1, cells := 0, slots := 0, locals := 40 } : Room) s m args below meth c H locs 0 0 (MQ below (va_Qi post (zc_B lo g) (zA lo)) args s 0 0 (zA lo)) (F0 m 2 ls []) := by
  obtain ⟨hx, hb, hml, hown, hts⟩ := id S
  intro n
  induction n with
  | zero =>
    intro v0 v1 M h
    exact False.elim h
  | succ n2 ih =>
    intro v0 v1 M h H locs ls hw hl
    rw [pX7_free_2] at h
    refine lv_iload_n hx hb dX7_free_2 rfl (lv_at hl 1 rfl) ?_
    refine lv_bipush (v := (24 : Int32)) hx hb dX7_free_3 (by decide) ?_
    refine lv_icmp_ge (tgt := 25) hx hb dX7_free_5 (by decide) (fun hc => ?_) (fun hc => ?_)
    · have h := h.1 hc
      refine lv_bipush (v := (-3 : Int32)) hx hb dX7_free_25 (by decide) ?_
      exact zr_ri S hr hlocks hw h dX7_free_27
    · have h := h.2 hc
      refine lv_aload_n hx hb dX7_free_8 rfl (lv_at hl 0 rfl) ?_
      refine zr_ga (C := RX7) (T := TX7) (N := 14) (ci := 10) (k := 1) S hK hw zi_X7 rfl (by decide) zu_485 dX7_free_9 h (fun isThere_2 h => ?_)
      refine lv_iload_n hx hb dX7_free_12 rfl (lv_at hl 1 rfl) ?_
      refine zr_zald S hK hw dX7_free_13 h (fun e3 h => ?_)
      refine lv_if_ne (tgt := 19) hx hb dX7_free_14 (by decide) (fun hc => ?_) (fun hc => ?_)
      · have h := h.1 hc
        obtain ⟨x4, ex4⟩ : ∃ z : Int32, z = v1 + (1 : Int32) := ⟨_, rfl⟩
        have h := h x4 ex4
        refine lv_iinc (v := x4) (lv' := [(1, .int x4), (0, .ref v0)]) hx hb dX7_free_19 hl (k := 1) rfl (by rw [ex4]; rfl) (by decide) rfl (fun ls hl => ?_)
        refine lv_goto (tgt := 2) hx hb dX7_free_22 (by decide) ?_
        exact ih v0 x4 _ h _ _ _ hw (lv_sub hl [1, 0] rfl)
      · have h := h.2 hc
        refine lv_iload_n hx hb dX7_free_17 rfl (lv_at hl 1 rfl) ?_
        exact zr_ri S hr hlocks hw h dX7_free_18
set_option maxHeartbeats 4000000 in
set_option maxRecDepth 100000 in
theorem kX7_free (l : Launch) (lo : Nat) (g : zg) (M : zm_M) (a0 : Nat) (post : Int32 → zm_M → Prop) (h : pX7_free g.2 a0 post M) : Met l yX7_free (Cond.code yX7_free cX7_free 2 (some .int) :: zU) (({ frames := 1, cells := 0, slots := 0, locals := 40 } : Room)) (zc_P zNF zNM lo g M [.ref a0]) (va_Qi post (zc_B lo g) (zA lo)) 0 0 (zA lo) := by
  refine Met.ofW (cc := cX7_free) (maxL := 2) (ret := (some .int)) (by decide) rfl ?_
  intro p e s m args below meth c s₁ B hml hv
  obtain ⟨rfl, hR, hK⟩ := hv
  have hts := atoms_spec (ws := Cond.code yX7_free cX7_free 2 (some .int) :: zU) B.pre
  have hts : ∀ w ∈ zU, w.before _ s = true := fun w hw => hts w (List.mem_cons_of_mem _ hw)
  have hown : s.vm.findClass RX7 = some m.cls := findClass_of_methodNamed B.named
  have hx := B.exec
  have hb := B.bytes
  have hr := B.returns
  have hlocks := B.notSynchronized
  have S : CallFix p m c cX7_free 2 s ([.ref a0] : List Value).toArray zU RX7 := ⟨hx, hb, hml, hown, hts⟩
  have hw : zW lo g s s.heap [] M := ⟨hR, va_S.rf⟩
  have hl := lv_entry ([.ref a0]) (n := 2) (Nat.le_of_ble_eq_true rfl)
  rw [lg_entry_eq]
  generalize (lg_sl ([.ref a0]) ++ List.replicate (2 - (lg_sl ([.ref a0])).length) Slot.unset).toArray = ls at hl ⊢
  have hl : lv_has ls 2 [(0, .ref a0)] := hl
  unfold pX7_free at h
  refine lv_iconst (v := (0 : Int32)) hx hb dX7_free_0 (by decide) ?_
  refine lv_topi (fun x1 ex1 => ?_)
  have h := h x1 ex1
  refine lv_istore_n (lv' := [(1, .int x1), (0, .ref a0)]) hx hb dX7_free_1 rfl hl (by decide) rfl (fun ls hl => ?_)
  obtain ⟨n2, h⟩ := h
  refine sX7_free_2 S hr hlocks hK  n2 a0 x1 _ h _ _ _ hw (lv_sub hl [1, 0] rfl)
set_option maxHeartbeats 4000000 in
set_option maxRecDepth 100000 in
theorem sX7_keep_83 {p : Program} {l : Launch} {e : Env} {s : State} {m : MethodId} {args : Array Value} {below : List Frame} {meth : Method} {c : Code} {lo : Nat} {g : zg} {post : Int32 → zm_M → Prop} {k128 : Nat → Int32 → Int32 → zm_M → Prop} (S : CallFix p m c cX7_keep 5 s args zU RX7) (hr : meth.sig.returnType = (some .int)) (hlocks : meth.locks = false) (hK : zk_K zNF zNM g s) (hk128 : ∀ (v0 : Nat) (v2 : Int32) (v3 : Int32) (M : zm_M), k128 v0 v2 v3 M → ∀ (H : Heap) (locs : List Loc) (ls : Array Slot), zW lo g s H locs M → lv_has ls 5 [(0, .ref v0), (2, .int v2), (3, .int v3)] → W p l e ({ frames := 2, cells := 0, slots := 0, locals := 64 } : Room) s m args below meth c H locs 0 0 (MQ below (va_Qi post (zc_B lo g) (zA lo)) args s 0 0 (zA lo)) (F0 m 128 ls [])) : ∀ (n : Nat) (v0 : Nat) (v2 : Int32) (v3 : Int32) (v4 : Int32) (M : zm_M), pX7_keep_83 g.2 post k128 n v0 v2 v3 v4 M → ∀ (H : Heap) (locs : List Loc) (ls : Array Slot), zW lo g s H locs M → lv_has ls 5 [(0, .ref v0), (2, .int v2), (3, .int v3), (4, .int v4)] → W p l e ({ frames := 2, cells := 0, slots := 0, locals := 64 } : Room) s m args below meth c H locs 0 0 (MQ below (va_Qi post (zc_B lo g) (zA lo)) args s 0 0 (zA lo)) (F0 m 83 ls []) := by
  obtain ⟨hx, hb, hml, hown, hts⟩ := id S
  intro n
  induction n with
  | zero =>
    intro v0 v2 v3 v4 M h
    exact False.elim h
  | succ n83 ih =>
    intro v0 v2 v3 v4 M h H locs ls hw hl
    rw [pX7_keep_83] at h
    refine lv_iload hx hb dX7_keep_83 (lv_at hl 3 rfl) ?_
    refine lv_aload_n hx hb dX7_keep_85 rfl (lv_at hl 0 rfl) ?_
    refine zr_ga (C := RX7) (T := TX7) (N := 14) (ci := 10) (k := 10) S hK hw zi_X7 rfl (by decide) zu_444 dX7_keep_86 h (fun n_19 h => ?_)
    refine lv_iload_n hx hb dX7_keep_89 rfl (lv_at hl 2 rfl) ?_
    refine zr_iald S hK hw dX7_keep_90 h (fun e20 h => ?_)
    refine lv_icmp_ge (tgt := 128) hx hb dX7_keep_91 (by decide) (fun hc => ?_) (fun hc => ?_)
    · have h := h.1 hc
      exact hk128 v0 v2 v3 _ h _ _ _ hw (lv_sub hl [0, 1, 2] rfl)
    · have h := h.2 hc
      refine lv_aload_n hx hb dX7_keep_94 rfl (lv_at hl 0 rfl) ?_
      refine zr_ga (C := RX7) (T := TX7) (N := 14) (ci := 10) (k := 3) S hK hw zi_X7 rfl (by decide) zu_487 dX7_keep_95 h (fun keptLimb_21 h => ?_)
      refine lv_bipush (v := (16 : Int32)) hx hb dX7_keep_98 (by decide) ?_
      refine lv_iconst (v := (2 : Int32)) hx hb dX7_keep_100 (by decide) ?_
      refine lv_iload_n hx hb dX7_keep_101 rfl (lv_at hl 1 rfl) ?_
      refine lv_imul hx hb dX7_keep_102 ?_
      refine lv_iload_n hx hb dX7_keep_103 rfl (lv_at hl 2 rfl) ?_
      refine lv_iadd hx hb dX7_keep_104 ?_
      refine lv_imul hx hb dX7_keep_105 ?_
      refine lv_iload hx hb dX7_keep_106 (lv_at hl 3 rfl) ?_
      refine lv_iadd hx hb dX7_keep_108 ?_
      refine lv_aload_n hx hb dX7_keep_109 rfl (lv_at hl 0 rfl) ?_
      refine zr_ga (C := RX7) (T := TX7) (N := 14) (ci := 10) (k := 9) S hK hw zi_X7 rfl (by decide) zu_445 dX7_keep_110 h (fun g_22 h => ?_)
      refine lv_bipush (v := (72 : Int32)) hx hb dX7_keep_113 (by decide) ?_
      refine lv_iload_n hx hb dX7_keep_115 rfl (lv_at hl 2 rfl) ?_
      refine lv_imul hx hb dX7_keep_116 ?_
      refine lv_iload hx hb dX7_keep_117 (lv_at hl 3 rfl) ?_
      refine lv_iadd hx hb dX7_keep_119 ?_
      refine zr_lald S hK hw dX7_keep_120 h (fun e23 h => ?_)
      refine zr_last S hK hw dX7_keep_121 h (fun M24 H locs hw h => ?_)
      obtain ⟨x25, ex25⟩ : ∃ z : Int32, z = v4 + (1 : Int32) := ⟨_, rfl⟩
      have h := h x25 ex25
      refine lv_iinc (v := x25) (lv' := [(4, .int x25), (0, .ref v0), (2, .int v2), (3, .int v3)]) hx hb dX7_keep_122 hl (k := 3) rfl (by rw [ex25]; rfl) (by decide) rfl (fun ls hl => ?_)
      refine lv_goto (tgt := 83) hx hb dX7_keep_125 (by decide) ?_
      exact ih v0 v2 v3 x25 _ h _ _ _ hw (lv_sub hl [1, 2, 3, 0] rfl)
set_option maxHeartbeats 4000000 in
set_option maxRecDepth 100000 in
theorem sX7_keep_59 {p : Program} {l : Launch} {e : Env} {s : State} {m : MethodId} {args : Array Value} {below : List Frame} {meth : Method} {c : Code} {lo : Nat} {g : zg} {post : Int32 → zm_M → Prop}  (S : CallFix p m c cX7_keep 5 s args zU RX7) (hr : meth.sig.returnType = (some .int)) (hlocks : meth.locks = false) (hK : zk_K zNF zNM g s)  : ∀ (n : Nat) (v0 : Nat) (v2 : Int32) (v3 : Int32) (M : zm_M), pX7_keep_59 g.2 post  n v0 v2 v3 M → ∀ (H : Heap) (locs : List Loc) (ls : Array Slot), zW lo g s H locs M → lv_has ls 5 [(0, .ref v0), (2, .int v2), (3, .int v3)] → W p l e ({ frames := 2, cells := 0, slots := 0, locals := 64 } : Room) s m args below meth c H locs 0 0 (MQ below (va_Qi post (zc_B lo g) (zA lo)) args s 0 0 (zA lo)) (F0 m 59 ls []) := by
  obtain ⟨hx, hb, hml, hown, hts⟩ := id S
  intro n
  induction n with
  | zero =>
    intro v0 v2 v3 M h
    exact False.elim h
  | succ n59 ih =>
    intro v0 v2 v3 M h H locs ls hw hl
    rw [pX7_keep_59] at h
    refine lv_iload_n hx hb dX7_keep_59 rfl (lv_at hl 2 rfl) ?_
    refine lv_iconst (v := (2 : Int32)) hx hb dX7_keep_60 (by decide) ?_
    refine lv_icmp_ge (tgt := 134) hx hb dX7_keep_61 (by decide) (fun hc => ?_) (fun hc => ?_)
    · have h := h.1 hc
      refine lv_iload_n hx hb dX7_keep_134 rfl (lv_at hl 1 rfl) ?_
      exact zr_ri S hr hlocks hw h dX7_keep_135
    · have h := h.2 hc
      refine lv_aload_n hx hb dX7_keep_64 rfl (lv_at hl 0 rfl) ?_
      refine zr_ga (C := RX7) (T := TX7) (N := 14) (ci := 10) (k := 4) S hK hw zi_X7 rfl (by decide) zu_486 dX7_keep_65 h (fun keptSize_14 h => ?_)
      refine lv_iconst (v := (2 : Int32)) hx hb dX7_keep_68 (by decide) ?_
      refine lv_iload_n hx hb dX7_keep_69 rfl (lv_at hl 1 rfl) ?_
      refine lv_imul hx hb dX7_keep_70 ?_
      refine lv_iload_n hx hb dX7_keep_71 rfl (lv_at hl 2 rfl) ?_
      refine lv_iadd hx hb dX7_keep_72 ?_
      refine lv_aload_n hx hb dX7_keep_73 rfl (lv_at hl 0 rfl) ?_
      refine zr_ga (C := RX7) (T := TX7) (N := 14) (ci := 10) (k := 10) S hK hw zi_X7 rfl (by decide) zu_444 dX7_keep_74 h (fun n_15 h => ?_)
      refine lv_iload_n hx hb dX7_keep_77 rfl (lv_at hl 2 rfl) ?_
      refine zr_iald S hK hw dX7_keep_78 h (fun e16 h => ?_)
      refine zr_iast S hK hw dX7_keep_79 h (fun M17 H locs hw h => ?_)
      refine lv_iconst (v := (0 : Int32)) hx hb dX7_keep_80 (by decide) ?_
      refine lv_topi (fun x18 ex18 => ?_)
      have h := h x18 ex18
      refine lv_istore (lv' := [(4, .int x18), (0, .ref v0), (2, .int v2), (3, .int v3)]) hx hb dX7_keep_81 hl (by decide) rfl (fun ls hl => ?_)
      obtain ⟨n83, h⟩ := h
      refine sX7_keep_83 S hr hlocks hK (fun w26 w27 w28 M29 h H locs ls hw hl => ?_) n83 v0 v2 v3 x18 _ h _ _ _ hw (lv_sub hl [1, 2, 3, 0] rfl)
      obtain ⟨x30, ex30⟩ : ∃ z : Int32, z = w28 + (1 : Int32) := ⟨_, rfl⟩
      have h := h x30 ex30
      refine lv_iinc (v := x30) (lv' := [(3, .int x30), (0, .ref w26), (2, .int w27)]) hx hb dX7_keep_128 hl (k := 2) rfl (by rw [ex30]; rfl) (by decide) rfl (fun ls hl => ?_)
      refine lv_goto (tgt := 59) hx hb dX7_keep_131 (by decide) ?_
      exact ih w26 w27 x30 _ h _ _ _ hw (lv_sub hl [1, 2, 0] rfl)
set_option maxHeartbeats 4000000 in
set_option maxRecDepth 100000 in
theorem kX7_keep (l : Launch) (lo : Nat) (g : zg) (M : zm_M) (a0 : Nat) (a1 : Int32) (post : Int32 → zm_M → Prop) (h : pX7_keep g.2 a0 a1 post M) : Met l yX7_keep (Cond.code yX7_keep cX7_keep 5 (some .int) :: zU) (({ frames := 2, cells := 0, slots := 0, locals := 64 } : Room)) (zc_P zNF zNM lo g M [.ref a0, .int a1]) (va_Qi post (zc_B lo g) (zA lo)) 0 0 (zA lo) := by
  refine Met.ofW (cc := cX7_keep) (maxL := 5) (ret := (some .int)) (by decide) rfl ?_
  intro p e s m args below meth c s₁ B hml hv
  obtain ⟨rfl, hR, hK⟩ := hv
  have hts := atoms_spec (ws := Cond.code yX7_keep cX7_keep 5 (some .int) :: zU) B.pre
  have hts : ∀ w ∈ zU, w.before _ s = true := fun w hw => hts w (List.mem_cons_of_mem _ hw)
  have hown : s.vm.findClass RX7 = some m.cls := findClass_of_methodNamed B.named
  have hx := B.exec
  have hb := B.bytes
  have hr := B.returns
  have hlocks := B.notSynchronized
  have S : CallFix p m c cX7_keep 5 s ([.ref a0, .int a1] : List Value).toArray zU RX7 := ⟨hx, hb, hml, hown, hts⟩
  have hw : zW lo g s s.heap [] M := ⟨hR, va_S.rf⟩
  have hl := lv_entry ([.ref a0, .int a1]) (n := 5) (Nat.le_of_ble_eq_true rfl)
  rw [lg_entry_eq]
  generalize (lg_sl ([.ref a0, .int a1]) ++ List.replicate (5 - (lg_sl ([.ref a0, .int a1])).length) Slot.unset).toArray = ls at hl ⊢
  have hl : lv_has ls 5 [(0, .ref a0), (1, .int a1)] := hl
  unfold pX7_keep at h
  refine lv_aload_n hx hb dX7_keep_0 rfl (lv_at hl 0 rfl) ?_
  refine lv_iconst (v := (0 : Int32)) hx hb dX7_keep_1 (by decide) ?_
  obtain ⟨ho, h⟩ := h
  refine zr_Vi (As := [.int (0 : Int32)]) (rest := []) S hK hw (kX7_bits l lo g M a0 (0 : Int32) _ h) (cwV 1 hts (zg_V zu_488 zu_489 zu_490 zu_450 zu_491) rfl rfl rfl (by decide +kernel) ⟨Nat.le_of_ble_eq_true rfl, Nat.le_of_ble_eq_true rfl⟩) (ci := 10) rfl ho rfl hl.1 rfl (Nat.le_of_ble_eq_true rfl) dX7_keep_2 ⟨Nat.le_of_ble_eq_true rfl, Nat.le_of_ble_eq_true rfl⟩ (fun r2 M1 H locs hw h => ?_)
  refine lv_sipush (v := (512 : Int32)) hx hb dX7_keep_5 (by decide) ?_
  refine lv_icmp_gt (tgt := 22) hx hb dX7_keep_8 (by decide) (fun hc => ?_) (fun hc => ?_)
  · have h := h.1 hc
    refine lv_bipush (v := (-4 : Int32)) hx hb dX7_keep_22 (by decide) ?_
    exact zr_ri S hr hlocks hw h dX7_keep_24
  · have h := h.2 hc
    refine lv_aload_n hx hb dX7_keep_11 rfl (lv_at hl 0 rfl) ?_
    refine lv_iconst (v := (1 : Int32)) hx hb dX7_keep_12 (by decide) ?_
    obtain ⟨ho, h⟩ := h
    refine zr_Vi (As := [.int (1 : Int32)]) (rest := []) S hK hw (kX7_bits l lo g M1 a0 (1 : Int32) _ h) (cwV 1 hts (zg_V zu_488 zu_489 zu_490 zu_450 zu_491) rfl rfl rfl (by decide +kernel) ⟨Nat.le_of_ble_eq_true rfl, Nat.le_of_ble_eq_true rfl⟩) (ci := 10) rfl ho rfl hl.1 rfl (Nat.le_of_ble_eq_true rfl) dX7_keep_13 ⟨Nat.le_of_ble_eq_true rfl, Nat.le_of_ble_eq_true rfl⟩ (fun r4 M3 H locs hw h => ?_)
    refine lv_sipush (v := (512 : Int32)) hx hb dX7_keep_16 (by decide) ?_
    refine lv_icmp_le (tgt := 25) hx hb dX7_keep_19 (by decide) (fun hc => ?_) (fun hc => ?_)
    · have h := h.1 hc
      refine lv_aload_n hx hb dX7_keep_25 rfl (lv_at hl 0 rfl) ?_
      obtain ⟨ho, h⟩ := h
      refine zr_Vi (As := []) (rest := []) S hK hw (kX7_free l lo g M3 a0  _ h) (cwV 0 hts (zg_V zu_492 zu_493 zu_494 zu_450 zu_495) rfl rfl rfl (by decide +kernel) ⟨Nat.le_of_ble_eq_true rfl, Nat.le_of_ble_eq_true rfl⟩) (ci := 10) rfl ho rfl hl.1 rfl (Nat.le_of_ble_eq_true rfl) dX7_keep_26 ⟨Nat.le_of_ble_eq_true rfl, Nat.le_of_ble_eq_true rfl⟩ (fun r6 M5 H locs hw h => ?_)
      refine lv_istore_n (lv' := [(2, .int r6), (0, .ref a0), (1, .int a1)]) hx hb dX7_keep_29 rfl hl (by decide) rfl (fun ls hl => ?_)
      refine lv_aload_n hx hb dX7_keep_30 rfl (lv_at hl 1 rfl) ?_
      refine zr_ga (C := RX7) (T := TX7) (N := 14) (ci := 10) (k := 1) S hK hw zi_X7 rfl (by decide) zu_485 dX7_keep_31 h (fun isThere_7 h => ?_)
      refine lv_iload_n hx hb dX7_keep_34 rfl (lv_at hl 0 rfl) ?_
      refine lv_iconst (v := (1 : Int32)) hx hb dX7_keep_35 (by decide) ?_
      refine zr_zast S hK hw dX7_keep_36 h (fun M8 H locs hw h => ?_)
      refine lv_aload_n hx hb dX7_keep_37 rfl (lv_at hl 1 rfl) ?_
      refine zr_ga (C := RX7) (T := TX7) (N := 14) (ci := 10) (k := 2) S hK hw zi_X7 rfl (by decide) zu_496 dX7_keep_38 h (fun sign_9 h => ?_)
      refine lv_iload_n hx hb dX7_keep_41 rfl (lv_at hl 0 rfl) ?_
      refine lv_aload_n hx hb dX7_keep_42 rfl (lv_at hl 1 rfl) ?_
      refine zr_ga (C := RX7) (T := TX7) (N := 14) (ci := 10) (k := 10) S hK hw zi_X7 rfl (by decide) zu_444 dX7_keep_43 h (fun n_10 h => ?_)
      refine lv_iconst (v := (0 : Int32)) hx hb dX7_keep_46 (by decide) ?_
      refine zr_iald S hK hw dX7_keep_47 h (fun e11 h => ?_)
      refine lv_if_ne (tgt := 55) hx hb dX7_keep_48 (by decide) (fun hc => ?_) (fun hc => ?_)
      · have h := h.1 hc
        refine lv_iload_n hx hb dX7_keep_55 rfl (lv_at hl 2 rfl) ?_
        refine zr_iast S hK hw dX7_keep_56 h (fun M12 H locs hw h => ?_)
        refine lv_iconst (v := (0 : Int32)) hx hb dX7_keep_57 (by decide) ?_
        refine lv_topi (fun x13 ex13 => ?_)
        have h := h x13 ex13
        refine lv_istore_n (lv' := [(3, .int x13), (2, .int r6), (0, .ref a0), (1, .int a1)]) hx hb dX7_keep_58 rfl hl (by decide) rfl (fun ls hl => ?_)
        obtain ⟨n59, h⟩ := h
        refine sX7_keep_59 S hr hlocks hK  n59 a0 r6 x13 _ h _ _ _ hw (lv_sub hl [2, 1, 0] rfl)
      · have h := h.2 hc
        refine lv_iconst (v := (0 : Int32)) hx hb dX7_keep_51 (by decide) ?_
        refine lv_goto (tgt := 56) hx hb dX7_keep_52 (by decide) ?_
        refine zr_iast S hK hw dX7_keep_56 h (fun M31 H locs hw h => ?_)
        refine lv_iconst (v := (0 : Int32)) hx hb dX7_keep_57 (by decide) ?_
        refine lv_topi (fun x32 ex32 => ?_)
        have h := h x32 ex32
        refine lv_istore_n (lv' := [(3, .int x32), (2, .int r6), (0, .ref a0), (1, .int a1)]) hx hb dX7_keep_58 rfl hl (by decide) rfl (fun ls hl => ?_)
        obtain ⟨n59, h⟩ := h
        refine sX7_keep_59 S hr hlocks hK  n59 a0 r6 x32 _ h _ _ _ hw (lv_sub hl [2, 1, 0] rfl)
    · have h := h.2 hc
      refine lv_bipush (v := (-4 : Int32)) hx hb dX7_keep_22 (by decide) ?_
      exact zr_ri S hr hlocks hw h dX7_keep_24
set_option maxHeartbeats 4000000 in
set_option maxRecDepth 100000 in
theorem kX7_keepLeast (l : Launch) (lo : Nat) (g : zg) (M : zm_M) (a0 : Nat) (a1 : Int32) (post : Int32 → zm_M → Prop) (h : pX7_keepLeast g.2 a0 a1 post M) : Met l yX7_keepLeast (Cond.code yX7_keepLeast cX7_keepLeast 2 (some .int) :: zU) (({ frames := 5, cells := 0, slots := 0, locals := 134 } : Room)) (zc_P zNF zNM lo g M [.ref a0, .int a1]) (va_Qi post (zc_B lo g) (zA lo)) 0 0 (zA lo) := by
  refine Met.ofW (cc := cX7_keepLeast) (maxL := 2) (ret := (some .int)) (by decide) rfl ?_
  intro p e s m args below meth c s₁ B hml hv
  obtain ⟨rfl, hR, hK⟩ := hv
  have hts := atoms_spec (ws := Cond.code yX7_keepLeast cX7_keepLeast 2 (some .int) :: zU) B.pre
  have hts : ∀ w ∈ zU, w.before _ s = true := fun w hw => hts w (List.mem_cons_of_mem _ hw)
  have hown : s.vm.findClass RX7 = some m.cls := findClass_of_methodNamed B.named
  have hx := B.exec
  have hb := B.bytes
  have hr := B.returns
  have hlocks := B.notSynchronized
  have S : CallFix p m c cX7_keepLeast 2 s ([.ref a0, .int a1] : List Value).toArray zU RX7 := ⟨hx, hb, hml, hown, hts⟩
  have hw : zW lo g s s.heap [] M := ⟨hR, va_S.rf⟩
  have hl := lv_entry ([.ref a0, .int a1]) (n := 2) (Nat.le_of_ble_eq_true rfl)
  rw [lg_entry_eq]
  generalize (lg_sl ([.ref a0, .int a1]) ++ List.replicate (2 - (lg_sl ([.ref a0, .int a1])).length) Slot.unset).toArray = ls at hl ⊢
  have hl : lv_has ls 2 [(0, .ref a0), (1, .int a1)] := hl
  unfold pX7_keepLeast at h
  refine lv_aload_n hx hb dX7_keepLeast_0 rfl (lv_at hl 0 rfl) ?_
  refine lv_bipush (v := (16 : Int32)) hx hb dX7_keepLeast_1 (by decide) ?_
  refine lv_iconst (v := (0 : Int32)) hx hb dX7_keepLeast_3 (by decide) ?_
  obtain ⟨ho, h⟩ := h
  refine zr_Vv (As := [.int (16 : Int32), .int (0 : Int32)]) (rest := []) S hK hw (kX7_copy l lo g M a0 (16 : Int32) (0 : Int32) _ h) (cwV 2 hts (zg_V zu_465 zu_466 zu_467 zu_450 zu_468) rfl rfl rfl (by decide +kernel) ⟨Nat.le_of_ble_eq_true rfl, Nat.le_of_ble_eq_true rfl⟩) (ci := 10) rfl ho rfl hl.1 rfl (Nat.le_of_ble_eq_true rfl) dX7_keepLeast_4 ⟨Nat.le_of_ble_eq_true rfl, Nat.le_of_ble_eq_true rfl⟩ (fun M1 H locs hw h => ?_)
  refine lv_aload_n hx hb dX7_keepLeast_7 rfl (lv_at hl 0 rfl) ?_
  refine lv_bipush (v := (17 : Int32)) hx hb dX7_keepLeast_8 (by decide) ?_
  refine lv_iconst (v := (1 : Int32)) hx hb dX7_keepLeast_10 (by decide) ?_
  obtain ⟨ho, h⟩ := h
  refine zr_Vv (As := [.int (17 : Int32), .int (1 : Int32)]) (rest := []) S hK hw (kX7_copy l lo g M1 a0 (17 : Int32) (1 : Int32) _ h) (cwV 2 hts (zg_V zu_465 zu_466 zu_467 zu_450 zu_468) rfl rfl rfl (by decide +kernel) ⟨Nat.le_of_ble_eq_true rfl, Nat.le_of_ble_eq_true rfl⟩) (ci := 10) rfl ho rfl hl.1 rfl (Nat.le_of_ble_eq_true rfl) dX7_keepLeast_11 ⟨Nat.le_of_ble_eq_true rfl, Nat.le_of_ble_eq_true rfl⟩ (fun M2 H locs hw h => ?_)
  refine lv_aload_n hx hb dX7_keepLeast_14 rfl (lv_at hl 0 rfl) ?_
  refine lv_bipush (v := (16 : Int32)) hx hb dX7_keepLeast_15 (by decide) ?_
  refine lv_bipush (v := (17 : Int32)) hx hb dX7_keepLeast_17 (by decide) ?_
  obtain ⟨ho, h⟩ := h
  refine zr_Vv (As := [.int (16 : Int32), .int (17 : Int32)]) (rest := []) S hK hw (kX7_divisor l lo g M2 a0 (16 : Int32) (17 : Int32) _ h) (cwV 2 hts (zg_V zu_497 zu_498 zu_499 zu_450 zu_500) rfl rfl rfl (by decide +kernel) ⟨Nat.le_of_ble_eq_true rfl, Nat.le_of_ble_eq_true rfl⟩) (ci := 10) rfl ho rfl hl.1 rfl (Nat.le_of_ble_eq_true rfl) dX7_keepLeast_19 ⟨Nat.le_of_ble_eq_true rfl, Nat.le_of_ble_eq_true rfl⟩ (fun M3 H locs hw h => ?_)
  refine lv_aload_n hx hb dX7_keepLeast_22 rfl (lv_at hl 0 rfl) ?_
  refine lv_bipush (v := (18 : Int32)) hx hb dX7_keepLeast_23 (by decide) ?_
  refine lv_bipush (v := (19 : Int32)) hx hb dX7_keepLeast_25 (by decide) ?_
  refine lv_iconst (v := (0 : Int32)) hx hb dX7_keepLeast_27 (by decide) ?_
  refine lv_bipush (v := (16 : Int32)) hx hb dX7_keepLeast_28 (by decide) ?_
  obtain ⟨ho, h⟩ := h
  refine zr_Vv (As := [.int (18 : Int32), .int (19 : Int32), .int (0 : Int32), .int (16 : Int32)]) (rest := []) S hK hw (kX7_divide l lo g M3 a0 (18 : Int32) (19 : Int32) (0 : Int32) (16 : Int32) _ h) (cwV 4 hts (zg_V zu_501 zu_502 zu_503 zu_450 zu_504) rfl rfl rfl (by decide +kernel) ⟨Nat.le_of_ble_eq_true rfl, Nat.le_of_ble_eq_true rfl⟩) (ci := 10) rfl ho rfl hl.1 rfl (Nat.le_of_ble_eq_true rfl) dX7_keepLeast_30 ⟨Nat.le_of_ble_eq_true rfl, Nat.le_of_ble_eq_true rfl⟩ (fun M4 H locs hw h => ?_)
  refine lv_aload_n hx hb dX7_keepLeast_33 rfl (lv_at hl 0 rfl) ?_
  refine lv_iconst (v := (0 : Int32)) hx hb dX7_keepLeast_34 (by decide) ?_
  refine lv_bipush (v := (18 : Int32)) hx hb dX7_keepLeast_35 (by decide) ?_
  obtain ⟨ho, h⟩ := h
  refine zr_Vv (As := [.int (0 : Int32), .int (18 : Int32)]) (rest := []) S hK hw (kX7_copy l lo g M4 a0 (0 : Int32) (18 : Int32) _ h) (cwV 2 hts (zg_V zu_465 zu_466 zu_467 zu_450 zu_468) rfl rfl rfl (by decide +kernel) ⟨Nat.le_of_ble_eq_true rfl, Nat.le_of_ble_eq_true rfl⟩) (ci := 10) rfl ho rfl hl.1 rfl (Nat.le_of_ble_eq_true rfl) dX7_keepLeast_37 ⟨Nat.le_of_ble_eq_true rfl, Nat.le_of_ble_eq_true rfl⟩ (fun M5 H locs hw h => ?_)
  refine lv_aload_n hx hb dX7_keepLeast_40 rfl (lv_at hl 0 rfl) ?_
  refine lv_bipush (v := (18 : Int32)) hx hb dX7_keepLeast_41 (by decide) ?_
  refine lv_bipush (v := (19 : Int32)) hx hb dX7_keepLeast_43 (by decide) ?_
  refine lv_iconst (v := (1 : Int32)) hx hb dX7_keepLeast_45 (by decide) ?_
  refine lv_bipush (v := (16 : Int32)) hx hb dX7_keepLeast_46 (by decide) ?_
  obtain ⟨ho, h⟩ := h
  refine zr_Vv (As := [.int (18 : Int32), .int (19 : Int32), .int (1 : Int32), .int (16 : Int32)]) (rest := []) S hK hw (kX7_divide l lo g M5 a0 (18 : Int32) (19 : Int32) (1 : Int32) (16 : Int32) _ h) (cwV 4 hts (zg_V zu_501 zu_502 zu_503 zu_450 zu_504) rfl rfl rfl (by decide +kernel) ⟨Nat.le_of_ble_eq_true rfl, Nat.le_of_ble_eq_true rfl⟩) (ci := 10) rfl ho rfl hl.1 rfl (Nat.le_of_ble_eq_true rfl) dX7_keepLeast_48 ⟨Nat.le_of_ble_eq_true rfl, Nat.le_of_ble_eq_true rfl⟩ (fun M6 H locs hw h => ?_)
  refine lv_aload_n hx hb dX7_keepLeast_51 rfl (lv_at hl 0 rfl) ?_
  refine lv_iconst (v := (1 : Int32)) hx hb dX7_keepLeast_52 (by decide) ?_
  refine lv_bipush (v := (18 : Int32)) hx hb dX7_keepLeast_53 (by decide) ?_
  obtain ⟨ho, h⟩ := h
  refine zr_Vv (As := [.int (1 : Int32), .int (18 : Int32)]) (rest := []) S hK hw (kX7_copy l lo g M6 a0 (1 : Int32) (18 : Int32) _ h) (cwV 2 hts (zg_V zu_465 zu_466 zu_467 zu_450 zu_468) rfl rfl rfl (by decide +kernel) ⟨Nat.le_of_ble_eq_true rfl, Nat.le_of_ble_eq_true rfl⟩) (ci := 10) rfl ho rfl hl.1 rfl (Nat.le_of_ble_eq_true rfl) dX7_keepLeast_55 ⟨Nat.le_of_ble_eq_true rfl, Nat.le_of_ble_eq_true rfl⟩ (fun M7 H locs hw h => ?_)
  refine lv_aload_n hx hb dX7_keepLeast_58 rfl (lv_at hl 0 rfl) ?_
  refine lv_iload_n hx hb dX7_keepLeast_59 rfl (lv_at hl 1 rfl) ?_
  obtain ⟨ho, h⟩ := h
  refine zr_Vi (As := [.int a1]) (rest := []) S hK hw (kX7_keep l lo g M7 a0 a1 _ h) (cwV 1 hts (zg_V zu_505 zu_506 zu_507 zu_450 zu_508) rfl rfl rfl (by decide +kernel) ⟨Nat.le_of_ble_eq_true rfl, Nat.le_of_ble_eq_true rfl⟩) (ci := 10) rfl ho rfl hl.1 rfl (Nat.le_of_ble_eq_true rfl) dX7_keepLeast_60 ⟨Nat.le_of_ble_eq_true rfl, Nat.le_of_ble_eq_true rfl⟩ (fun r9 M8 H locs hw h => ?_)
  exact zr_ri S hr hlocks hw h dX7_keepLeast_63
set_option maxHeartbeats 4000000 in
set_option maxRecDepth 100000 in
theorem kX7_keepWhole (l : Launch) (lo : Nat) (g : zg) (M : zm_M) (a0 : Nat) (a1 : Int32) (a2 : Int32) (post : Int32 → zm_M → Prop) (h : pX7_keepWhole g.2 a0 a1 a2 post M) : Met l yX7_keepWhole (Cond.code yX7_keepWhole cX7_keepWhole 3 (some .int) :: zU) (({ frames := 3, cells := 0, slots := 0, locals := 88 } : Room)) (zc_P zNF zNM lo g M [.ref a0, .int a1, .int a2]) (va_Qi post (zc_B lo g) (zA lo)) 0 0 (zA lo) := by
  refine Met.ofW (cc := cX7_keepWhole) (maxL := 3) (ret := (some .int)) (by decide) rfl ?_
  intro p e s m args below meth c s₁ B hml hv
  obtain ⟨rfl, hR, hK⟩ := hv
  have hts := atoms_spec (ws := Cond.code yX7_keepWhole cX7_keepWhole 3 (some .int) :: zU) B.pre
  have hts : ∀ w ∈ zU, w.before _ s = true := fun w hw => hts w (List.mem_cons_of_mem _ hw)
  have hown : s.vm.findClass RX7 = some m.cls := findClass_of_methodNamed B.named
  have hx := B.exec
  have hb := B.bytes
  have hr := B.returns
  have hlocks := B.notSynchronized
  have S : CallFix p m c cX7_keepWhole 3 s ([.ref a0, .int a1, .int a2] : List Value).toArray zU RX7 := ⟨hx, hb, hml, hown, hts⟩
  have hw : zW lo g s s.heap [] M := ⟨hR, va_S.rf⟩
  have hl := lv_entry ([.ref a0, .int a1, .int a2]) (n := 3) (Nat.le_of_ble_eq_true rfl)
  rw [lg_entry_eq]
  generalize (lg_sl ([.ref a0, .int a1, .int a2]) ++ List.replicate (3 - (lg_sl ([.ref a0, .int a1, .int a2])).length) Slot.unset).toArray = ls at hl ⊢
  have hl : lv_has ls 3 [(0, .ref a0), (1, .int a1), (2, .int a2)] := hl
  unfold pX7_keepWhole at h
  refine lv_aload_n hx hb dX7_keepWhole_0 rfl (lv_at hl 0 rfl) ?_
  refine lv_iconst (v := (0 : Int32)) hx hb dX7_keepWhole_1 (by decide) ?_
  refine lv_iload_n hx hb dX7_keepWhole_2 rfl (lv_at hl 1 rfl) ?_
  obtain ⟨ho, h⟩ := h
  refine zr_Vv (As := [.int (0 : Int32), .int a1]) (rest := []) S hK hw (kX7_copy l lo g M a0 (0 : Int32) a1 _ h) (cwV 2 hts (zg_V zu_465 zu_466 zu_467 zu_450 zu_468) rfl rfl rfl (by decide +kernel) ⟨Nat.le_of_ble_eq_true rfl, Nat.le_of_ble_eq_true rfl⟩) (ci := 10) rfl ho rfl hl.1 rfl (Nat.le_of_ble_eq_true rfl) dX7_keepWhole_3 ⟨Nat.le_of_ble_eq_true rfl, Nat.le_of_ble_eq_true rfl⟩ (fun M1 H locs hw h => ?_)
  refine lv_aload_n hx hb dX7_keepWhole_6 rfl (lv_at hl 0 rfl) ?_
  refine lv_iconst (v := (1 : Int32)) hx hb dX7_keepWhole_7 (by decide) ?_
  refine lv_lconst (v := (1 : Int64)) hx hb dX7_keepWhole_8 (by decide) ?_
  obtain ⟨ho, h⟩ := h
  refine zr_Vv (As := [.int (1 : Int32), .long (1 : Int64)]) (rest := []) S hK hw (kX7_small l lo g M1 a0 (1 : Int32) (1 : Int64) _ h) (cwV 2 hts (zg_V zu_509 zu_510 zu_511 zu_450 zu_512) rfl rfl rfl (by decide +kernel) ⟨Nat.le_of_ble_eq_true rfl, Nat.le_of_ble_eq_true rfl⟩) (ci := 10) rfl ho rfl hl.1 rfl (Nat.le_of_ble_eq_true rfl) dX7_keepWhole_9 ⟨Nat.le_of_ble_eq_true rfl, Nat.le_of_ble_eq_true rfl⟩ (fun M2 H locs hw h => ?_)
  refine lv_aload_n hx hb dX7_keepWhole_12 rfl (lv_at hl 0 rfl) ?_
  refine lv_iload_n hx hb dX7_keepWhole_13 rfl (lv_at hl 2 rfl) ?_
  obtain ⟨ho, h⟩ := h
  refine zr_Vi (As := [.int a2]) (rest := []) S hK hw (kX7_keep l lo g M2 a0 a2 _ h) (cwV 1 hts (zg_V zu_505 zu_506 zu_507 zu_450 zu_508) rfl rfl rfl (by decide +kernel) ⟨Nat.le_of_ble_eq_true rfl, Nat.le_of_ble_eq_true rfl⟩) (ci := 10) rfl ho rfl hl.1 rfl (Nat.le_of_ble_eq_true rfl) dX7_keepWhole_14 ⟨Nat.le_of_ble_eq_true rfl, Nat.le_of_ble_eq_true rfl⟩ (fun r4 M3 H locs hw h => ?_)
  exact zr_ri S hr hlocks hw h dX7_keepWhole_17
set_option maxHeartbeats 4000000 in
set_option maxRecDepth 100000 in
theorem sX7_whole_52 {p : Program} {l : Launch} {e : Env} {s : State} {m : MethodId} {args : Array Value} {below : List Frame} {meth : Method} {c : Code} {lo : Nat} {g : zg} {post : Int32 → zm_M → Prop}  (S : CallFix p m c cX7_whole 3 s args zU RX7) (hr : meth.sig.returnType = (some .int)) (hlocks : meth.locks = false) (hK : zk_K zNF zNM g s)  : ∀ (s0 : Nat) (s1 : Int32) (M : zm_M), pX7_whole_52 g.2 post  s0 s1 M → ∀ (H : Heap) (locs : List Loc) (ls : Array Slot), zW lo g s H locs M → lv_has ls 3 [] → W p l e ({ frames := 3, cells := 0, slots := 0, locals := 88 } : Room) s m args below meth c H locs 0 0 (MQ below (va_Qi post (zc_B lo g) (zA lo)) args s 0 0 (zA lo)) (F0 m 52 ls [.int s1, .ref s0]) := by
  obtain ⟨hx, hb, hml, hown, hts⟩ := id S
  intro s0 s1 M h H locs ls hw hl
  unfold pX7_whole_52 at h
  obtain ⟨ho, h⟩ := h
  refine zr_Vi (As := [.int s1]) (rest := []) S hK hw (kX7_keep l lo g M s0 s1 _ h) (cwV 1 hts (zg_V zu_505 zu_506 zu_507 zu_450 zu_508) rfl rfl rfl (by decide +kernel) ⟨Nat.le_of_ble_eq_true rfl, Nat.le_of_ble_eq_true rfl⟩) (ci := 10) rfl ho rfl hl.1 rfl (Nat.le_of_ble_eq_true rfl) dX7_whole_52 ⟨Nat.le_of_ble_eq_true rfl, Nat.le_of_ble_eq_true rfl⟩ (fun r7 M6 H locs hw h => ?_)
  exact zr_ri S hr hlocks hw h dX7_whole_55
set_option maxHeartbeats 4000000 in
set_option maxRecDepth 100000 in
theorem sX7_whole_31 {p : Program} {l : Launch} {e : Env} {s : State} {m : MethodId} {args : Array Value} {below : List Frame} {meth : Method} {c : Code} {lo : Nat} {g : zg} {post : Int32 → zm_M → Prop}  (S : CallFix p m c cX7_whole 3 s args zU RX7) (hr : meth.sig.returnType = (some .int)) (hlocks : meth.locks = false) (hK : zk_K zNF zNM g s)  : ∀ (v0 : Nat) (v1 : Int64) (s0 : Nat) (s1 : Int32) (s2 : Int64) (M : zm_M), pX7_whole_31 g.2 post  v0 v1 s0 s1 s2 M → ∀ (H : Heap) (locs : List Loc) (ls : Array Slot), zW lo g s H locs M → lv_has ls 3 [(0, .ref v0), (1, .long v1)] → W p l e ({ frames := 3, cells := 0, slots := 0, locals := 88 } : Room) s m args below meth c H locs 0 0 (MQ below (va_Qi post (zc_B lo g) (zA lo)) args s 0 0 (zA lo)) (F0 m 31 ls [.long s2, .int s1, .ref s0]) := by
  obtain ⟨hx, hb, hml, hown, hts⟩ := id S
  intro v0 v1 s0 s1 s2 M h H locs ls hw hl
  unfold pX7_whole_31 at h
  obtain ⟨ho, h⟩ := h
  refine zr_Vv (As := [.int s1, .long s2]) (rest := []) S hK hw (kX7_small l lo g M s0 s1 s2 _ h) (cwV 2 hts (zg_V zu_509 zu_510 zu_511 zu_450 zu_512) rfl rfl rfl (by decide +kernel) ⟨Nat.le_of_ble_eq_true rfl, Nat.le_of_ble_eq_true rfl⟩) (ci := 10) rfl ho rfl hl.1 rfl (Nat.le_of_ble_eq_true rfl) dX7_whole_31 ⟨Nat.le_of_ble_eq_true rfl, Nat.le_of_ble_eq_true rfl⟩ (fun M4 H locs hw h => ?_)
  refine lv_aload_n hx hb dX7_whole_34 rfl (lv_at hl 0 rfl) ?_
  refine lv_iconst (v := (1 : Int32)) hx hb dX7_whole_35 (by decide) ?_
  refine lv_lconst (v := (1 : Int64)) hx hb dX7_whole_36 (by decide) ?_
  obtain ⟨ho, h⟩ := h
  refine zr_Vv (As := [.int (1 : Int32), .long (1 : Int64)]) (rest := []) S hK hw (kX7_small l lo g M4 v0 (1 : Int32) (1 : Int64) _ h) (cwV 2 hts (zg_V zu_509 zu_510 zu_511 zu_450 zu_512) rfl rfl rfl (by decide +kernel) ⟨Nat.le_of_ble_eq_true rfl, Nat.le_of_ble_eq_true rfl⟩) (ci := 10) rfl ho rfl hl.1 rfl (Nat.le_of_ble_eq_true rfl) dX7_whole_37 ⟨Nat.le_of_ble_eq_true rfl, Nat.le_of_ble_eq_true rfl⟩ (fun M5 H locs hw h => ?_)
  refine lv_aload_n hx hb dX7_whole_40 rfl (lv_at hl 0 rfl) ?_
  refine lv_lload_n hx hb dX7_whole_41 rfl (lv_at hl 1 rfl) ?_
  refine lv_lconst (v := (0 : Int64)) hx hb dX7_whole_42 (by decide) ?_
  refine W.lcmp hx hb dX7_whole_43 ?_
  refine lv_if_ge (tgt := 51) hx hb dX7_whole_44 (by decide) (fun hc => ?_) (fun hc => ?_)
  · have h := h.1 (zc_ge.mp hc)
    refine lv_iconst (v := (1 : Int32)) hx hb dX7_whole_51 (by decide) ?_
    exact sX7_whole_52 S hr hlocks hK  v0 (1 : Int32) _ h _ _ _ hw (lv_sub hl [] rfl)
  · have h := h.2 (fun q => hc (zc_ge.mpr q))
    refine lv_iconst (v := (-1 : Int32)) hx hb dX7_whole_47 (by decide) ?_
    refine lv_goto (tgt := 52) hx hb dX7_whole_48 (by decide) ?_
    exact sX7_whole_52 S hr hlocks hK  v0 (-1 : Int32) _ h _ _ _ hw (lv_sub hl [] rfl)
set_option maxHeartbeats 4000000 in
set_option maxRecDepth 100000 in
theorem kX7_whole (l : Launch) (lo : Nat) (g : zg) (M : zm_M) (a0 : Nat) (a1 : Int64) (post : Int32 → zm_M → Prop) (h : pX7_whole g.2 a0 a1 post M) : Met l yX7_whole (Cond.code yX7_whole cX7_whole 3 (some .int) :: zU) (({ frames := 3, cells := 0, slots := 0, locals := 88 } : Room)) (zc_P zNF zNM lo g M [.ref a0, .long a1]) (va_Qi post (zc_B lo g) (zA lo)) 0 0 (zA lo) := by
  refine Met.ofW (cc := cX7_whole) (maxL := 3) (ret := (some .int)) (by decide) rfl ?_
  intro p e s m args below meth c s₁ B hml hv
  obtain ⟨rfl, hR, hK⟩ := hv
  have hts := atoms_spec (ws := Cond.code yX7_whole cX7_whole 3 (some .int) :: zU) B.pre
  have hts : ∀ w ∈ zU, w.before _ s = true := fun w hw => hts w (List.mem_cons_of_mem _ hw)
  have hown : s.vm.findClass RX7 = some m.cls := findClass_of_methodNamed B.named
  have hx := B.exec
  have hb := B.bytes
  have hr := B.returns
  have hlocks := B.notSynchronized
  have S : CallFix p m c cX7_whole 3 s ([.ref a0, .long a1] : List Value).toArray zU RX7 := ⟨hx, hb, hml, hown, hts⟩
  have hw : zW lo g s s.heap [] M := ⟨hR, va_S.rf⟩
  have hl := lv_entry ([.ref a0, .long a1]) (n := 3) (Nat.le_of_ble_eq_true rfl)
  rw [lg_entry_eq]
  generalize (lg_sl ([.ref a0, .long a1]) ++ List.replicate (3 - (lg_sl ([.ref a0, .long a1])).length) Slot.unset).toArray = ls at hl ⊢
  have hl : lv_has ls 3 [(0, .ref a0), (1, .long a1)] := hl
  unfold pX7_whole at h
  refine lv_aload_n hx hb dX7_whole_0 rfl (lv_at hl 0 rfl) ?_
  refine lv_iconst (v := (0 : Int32)) hx hb dX7_whole_1 (by decide) ?_
  refine zr_p (C := RX7) (T := TX7) (N := 14) (ci := 10) (k := 0) S hK hw zi_X7 tyX7 tyX7_ok nmX7 rfl (by decide) zu_443 rfl rfl rfl dX7_whole_2 h (fun M1 H locs hw h => ?_)
  refine lv_aload_n hx hb dX7_whole_5 rfl (lv_at hl 0 rfl) ?_
  obtain ⟨ho, h⟩ := h
  refine zr_Vi (As := []) (rest := []) S hK hw (kX7_free l lo g M1 a0  _ h) (cwV 0 hts (zg_V zu_492 zu_493 zu_494 zu_450 zu_495) rfl rfl rfl (by decide +kernel) ⟨Nat.le_of_ble_eq_true rfl, Nat.le_of_ble_eq_true rfl⟩) (ci := 10) rfl ho rfl hl.1 rfl (Nat.le_of_ble_eq_true rfl) dX7_whole_6 ⟨Nat.le_of_ble_eq_true rfl, Nat.le_of_ble_eq_true rfl⟩ (fun r3 M2 H locs hw h => ?_)
  refine lv_bipush (v := (-3 : Int32)) hx hb dX7_whole_9 (by decide) ?_
  refine lv_icmp_ne (tgt := 17) hx hb dX7_whole_11 (by decide) (fun hc => ?_) (fun hc => ?_)
  · have h := h.1 hc
    refine lv_aload_n hx hb dX7_whole_17 rfl (lv_at hl 0 rfl) ?_
    refine lv_iconst (v := (0 : Int32)) hx hb dX7_whole_18 (by decide) ?_
    refine lv_lload_n hx hb dX7_whole_19 rfl (lv_at hl 1 rfl) ?_
    refine lv_lconst (v := (0 : Int64)) hx hb dX7_whole_20 (by decide) ?_
    refine W.lcmp hx hb dX7_whole_21 ?_
    refine lv_if_ge (tgt := 30) hx hb dX7_whole_22 (by decide) (fun hc => ?_) (fun hc => ?_)
    · have h := h.1 (zc_ge.mp hc)
      refine lv_lload_n hx hb dX7_whole_30 rfl (lv_at hl 1 rfl) ?_
      exact sX7_whole_31 S hr hlocks hK  a0 a1 a0 (0 : Int32) a1 _ h _ _ _ hw (lv_sub hl [0, 1] rfl)
    · have h := h.2 (fun q => hc (zc_ge.mpr q))
      refine lv_lload_n hx hb dX7_whole_25 rfl (lv_at hl 1 rfl) ?_
      refine lv_lneg hx hb dX7_whole_26 ?_
      refine lv_goto (tgt := 31) hx hb dX7_whole_27 (by decide) ?_
      exact sX7_whole_31 S hr hlocks hK  a0 a1 a0 (0 : Int32) (-a1) _ h _ _ _ hw (lv_sub hl [0, 1] rfl)
  · have h := h.2 hc
    refine lv_bipush (v := (-3 : Int32)) hx hb dX7_whole_14 (by decide) ?_
    exact zr_ri S hr hlocks hw h dX7_whole_16
set_option maxHeartbeats 4000000 in
set_option maxRecDepth 100000 in
theorem sX7_shifted_10 {p : Program} {l : Launch} {e : Env} {s : State} {m : MethodId} {args : Array Value} {below : List Frame} {meth : Method} {c : Code} {lo : Nat} {g : zg} {post : Int32 → zm_M → Prop}  (S : CallFix p m c cX7_shifted 2 s args zU RX7) (hr : meth.sig.returnType = (some .int)) (hlocks : meth.locks = false) (hK : zk_K zNF zNM g s)  : ∀ (v0 : Nat) (v1 : Int32) (s0 : Nat) (s1 : Int32) (M : zm_M), pX7_shifted_10 g.2 post  v0 v1 s0 s1 M → ∀ (H : Heap) (locs : List Loc) (ls : Array Slot), zW lo g s H locs M → lv_has ls 2 [(0, .ref v0), (1, .int v1)] → W p l e ({ frames := 4, cells := 0, slots := 0, locals := 111 } : Room) s m args below meth c H locs 0 0 (MQ below (va_Qi post (zc_B lo g) (zA lo)) args s 0 0 (zA lo)) (F0 m 10 ls [.int s1, .ref s0]) := by
  obtain ⟨hx, hb, hml, hown, hts⟩ := id S
  intro v0 v1 s0 s1 M h H locs ls hw hl
  unfold pX7_shifted_10 at h
  refine zr_p (C := RX7) (T := TX7) (N := 14) (ci := 10) (k := 0) S hK hw zi_X7 tyX7 tyX7_ok nmX7 rfl (by decide) zu_443 rfl rfl rfl dX7_shifted_10 h (fun M1 H locs hw h => ?_)
  refine lv_iload_n hx hb dX7_shifted_13 rfl (lv_at hl 1 rfl) ?_
  refine lv_if_ge (tgt := 19) hx hb dX7_shifted_14 (by decide) (fun hc => ?_) (fun hc => ?_)
  · have h := h.1 hc
    refine lv_aload_n hx hb dX7_shifted_19 rfl (lv_at hl 0 rfl) ?_
    obtain ⟨ho, h⟩ := h
    refine zr_Vi (As := []) (rest := []) S hK hw (kX7_free l lo g M1 v0  _ h) (cwV 0 hts (zg_V zu_492 zu_493 zu_494 zu_450 zu_495) rfl rfl rfl (by decide +kernel) ⟨Nat.le_of_ble_eq_true rfl, Nat.le_of_ble_eq_true rfl⟩) (ci := 10) rfl ho rfl hl.1 rfl (Nat.le_of_ble_eq_true rfl) dX7_shifted_20 ⟨Nat.le_of_ble_eq_true rfl, Nat.le_of_ble_eq_true rfl⟩ (fun r3 M2 H locs hw h => ?_)
    refine lv_bipush (v := (-3 : Int32)) hx hb dX7_shifted_23 (by decide) ?_
    refine lv_icmp_ne (tgt := 31) hx hb dX7_shifted_25 (by decide) (fun hc => ?_) (fun hc => ?_)
    · have h := h.1 hc
      refine lv_iload_n hx hb dX7_shifted_31 rfl (lv_at hl 1 rfl) ?_
      refine lv_bipush (v := (15 : Int32)) hx hb dX7_shifted_32 (by decide) ?_
      refine lv_icmp_le (tgt := 40) hx hb dX7_shifted_34 (by decide) (fun hc => ?_) (fun hc => ?_)
      · have h := h.1 hc
        refine lv_aload_n hx hb dX7_shifted_40 rfl (lv_at hl 0 rfl) ?_
        refine lv_iconst (v := (2 : Int32)) hx hb dX7_shifted_41 (by decide) ?_
        refine lv_lconst (v := (1 : Int64)) hx hb dX7_shifted_42 (by decide) ?_
        obtain ⟨ho, h⟩ := h
        refine zr_Vv (As := [.int (2 : Int32), .long (1 : Int64)]) (rest := []) S hK hw (kX7_small l lo g M2 v0 (2 : Int32) (1 : Int64) _ h) (cwV 2 hts (zg_V zu_509 zu_510 zu_511 zu_450 zu_512) rfl rfl rfl (by decide +kernel) ⟨Nat.le_of_ble_eq_true rfl, Nat.le_of_ble_eq_true rfl⟩) (ci := 10) rfl ho rfl hl.1 rfl (Nat.le_of_ble_eq_true rfl) dX7_shifted_43 ⟨Nat.le_of_ble_eq_true rfl, Nat.le_of_ble_eq_true rfl⟩ (fun M4 H locs hw h => ?_)
        refine lv_aload_n hx hb dX7_shifted_46 rfl (lv_at hl 0 rfl) ?_
        refine lv_iconst (v := (2 : Int32)) hx hb dX7_shifted_47 (by decide) ?_
        refine lv_bipush (v := (32 : Int32)) hx hb dX7_shifted_48 (by decide) ?_
        refine lv_iload_n hx hb dX7_shifted_50 rfl (lv_at hl 1 rfl) ?_
        refine lv_imul hx hb dX7_shifted_51 ?_
        obtain ⟨ho, h⟩ := h
        refine zr_Vv (As := [.int (2 : Int32), .int ((32 : Int32) * v1)]) (rest := []) S hK hw (kX7_up l lo g M4 v0 (2 : Int32) ((32 : Int32) * v1) _ h) (cwV 2 hts (zg_V zu_477 zu_478 zu_479 zu_450 zu_480) rfl rfl rfl (by decide +kernel) ⟨Nat.le_of_ble_eq_true rfl, Nat.le_of_ble_eq_true rfl⟩) (ci := 10) rfl ho rfl hl.1 rfl (Nat.le_of_ble_eq_true rfl) dX7_shifted_52 ⟨Nat.le_of_ble_eq_true rfl, Nat.le_of_ble_eq_true rfl⟩ (fun M5 H locs hw h => ?_)
        refine lv_aload_n hx hb dX7_shifted_55 rfl (lv_at hl 0 rfl) ?_
        refine lv_iconst (v := (2 : Int32)) hx hb dX7_shifted_56 (by decide) ?_
        refine lv_iconst (v := (1 : Int32)) hx hb dX7_shifted_57 (by decide) ?_
        obtain ⟨ho, h⟩ := h
        refine zr_Vi (As := [.int (2 : Int32), .int (1 : Int32)]) (rest := []) S hK hw (kX7_keepWhole l lo g M5 v0 (2 : Int32) (1 : Int32) _ h) (cwV 2 hts (zg_V zu_513 zu_514 zu_515 zu_450 zu_516) rfl rfl rfl (by decide +kernel) ⟨Nat.le_of_ble_eq_true rfl, Nat.le_of_ble_eq_true rfl⟩) (ci := 10) rfl ho rfl hl.1 rfl (Nat.le_of_ble_eq_true rfl) dX7_shifted_58 ⟨Nat.le_of_ble_eq_true rfl, Nat.le_of_ble_eq_true rfl⟩ (fun r7 M6 H locs hw h => ?_)
        exact zr_ri S hr hlocks hw h dX7_shifted_61
      · have h := h.2 hc
        refine lv_bipush (v := (-4 : Int32)) hx hb dX7_shifted_37 (by decide) ?_
        exact zr_ri S hr hlocks hw h dX7_shifted_39
    · have h := h.2 hc
      refine lv_bipush (v := (-3 : Int32)) hx hb dX7_shifted_28 (by decide) ?_
      exact zr_ri S hr hlocks hw h dX7_shifted_30
  · have h := h.2 hc
    refine lv_iconst (v := (0 : Int32)) hx hb dX7_shifted_17 (by decide) ?_
    exact zr_ri S hr hlocks hw h dX7_shifted_18
set_option maxHeartbeats 4000000 in
set_option maxRecDepth 100000 in
theorem kX7_shifted (l : Launch) (lo : Nat) (g : zg) (M : zm_M) (a0 : Nat) (a1 : Int32) (post : Int32 → zm_M → Prop) (h : pX7_shifted g.2 a0 a1 post M) : Met l yX7_shifted (Cond.code yX7_shifted cX7_shifted 2 (some .int) :: zU) (({ frames := 4, cells := 0, slots := 0, locals := 111 } : Room)) (zc_P zNF zNM lo g M [.ref a0, .int a1]) (va_Qi post (zc_B lo g) (zA lo)) 0 0 (zA lo) := by
  refine Met.ofW (cc := cX7_shifted) (maxL := 2) (ret := (some .int)) (by decide) rfl ?_
  intro p e s m args below meth c s₁ B hml hv
  obtain ⟨rfl, hR, hK⟩ := hv
  have hts := atoms_spec (ws := Cond.code yX7_shifted cX7_shifted 2 (some .int) :: zU) B.pre
  have hts : ∀ w ∈ zU, w.before _ s = true := fun w hw => hts w (List.mem_cons_of_mem _ hw)
  have hown : s.vm.findClass RX7 = some m.cls := findClass_of_methodNamed B.named
  have hx := B.exec
  have hb := B.bytes
  have hr := B.returns
  have hlocks := B.notSynchronized
  have S : CallFix p m c cX7_shifted 2 s ([.ref a0, .int a1] : List Value).toArray zU RX7 := ⟨hx, hb, hml, hown, hts⟩
  have hw : zW lo g s s.heap [] M := ⟨hR, va_S.rf⟩
  have hl := lv_entry ([.ref a0, .int a1]) (n := 2) (Nat.le_of_ble_eq_true rfl)
  rw [lg_entry_eq]
  generalize (lg_sl ([.ref a0, .int a1]) ++ List.replicate (2 - (lg_sl ([.ref a0, .int a1])).length) Slot.unset).toArray = ls at hl ⊢
  have hl : lv_has ls 2 [(0, .ref a0), (1, .int a1)] := hl
  unfold pX7_shifted at h
  refine lv_aload_n hx hb dX7_shifted_0 rfl (lv_at hl 0 rfl) ?_
  refine lv_iload_n hx hb dX7_shifted_1 rfl (lv_at hl 1 rfl) ?_
  refine lv_if_ge (tgt := 9) hx hb dX7_shifted_2 (by decide) (fun hc => ?_) (fun hc => ?_)
  · have h := h.1 hc
    refine lv_iconst (v := (0 : Int32)) hx hb dX7_shifted_9 (by decide) ?_
    exact sX7_shifted_10 S hr hlocks hK  a0 a1 a0 (0 : Int32) _ h _ _ _ hw (lv_sub hl [0, 1] rfl)
  · have h := h.2 hc
    refine lv_iconst (v := (1 : Int32)) hx hb dX7_shifted_5 (by decide) ?_
    refine lv_goto (tgt := 10) hx hb dX7_shifted_6 (by decide) ?_
    exact sX7_shifted_10 S hr hlocks hK  a0 a1 a0 (1 : Int32) _ h _ _ _ hw (lv_sub hl [0, 1] rfl)
set_option maxHeartbeats 4000000 in
set_option maxRecDepth 100000 in
theorem kX7_over (l : Launch) (lo : Nat) (g : zg) (M : zm_M) (a0 : Nat) (a1 : Int32) (a2 : Int32) (post : Int32 → zm_M → Prop) (h : pX7_over g.2 a0 a1 a2 post M) : Met l yX7_over (Cond.code yX7_over cX7_over 3 (some .int) :: zU) (({ frames := 6, cells := 0, slots := 0, locals := 155 } : Room)) (zc_P zNF zNM lo g M [.ref a0, .int a1, .int a2]) (va_Qi post (zc_B lo g) (zA lo)) 0 0 (zA lo) := by
  refine Met.ofW (cc := cX7_over) (maxL := 3) (ret := (some .int)) (by decide) rfl ?_
  intro p e s m args below meth c s₁ B hml hv
  obtain ⟨rfl, hR, hK⟩ := hv
  have hts := atoms_spec (ws := Cond.code yX7_over cX7_over 3 (some .int) :: zU) B.pre
  have hts : ∀ w ∈ zU, w.before _ s = true := fun w hw => hts w (List.mem_cons_of_mem _ hw)
  have hown : s.vm.findClass RX7 = some m.cls := findClass_of_methodNamed B.named
  have hx := B.exec
  have hb := B.bytes
  have hr := B.returns
  have hlocks := B.notSynchronized
  have S : CallFix p m c cX7_over 3 s ([.ref a0, .int a1, .int a2] : List Value).toArray zU RX7 := ⟨hx, hb, hml, hown, hts⟩
  have hw : zW lo g s s.heap [] M := ⟨hR, va_S.rf⟩
  have hl := lv_entry ([.ref a0, .int a1, .int a2]) (n := 3) (Nat.le_of_ble_eq_true rfl)
  rw [lg_entry_eq]
  generalize (lg_sl ([.ref a0, .int a1, .int a2]) ++ List.replicate (3 - (lg_sl ([.ref a0, .int a1, .int a2])).length) Slot.unset).toArray = ls at hl ⊢
  have hl : lv_has ls 3 [(0, .ref a0), (1, .int a1), (2, .int a2)] := hl
  unfold pX7_over at h
  refine lv_aload_n hx hb dX7_over_0 rfl (lv_at hl 0 rfl) ?_
  refine lv_iconst (v := (0 : Int32)) hx hb dX7_over_1 (by decide) ?_
  refine zr_p (C := RX7) (T := TX7) (N := 14) (ci := 10) (k := 0) S hK hw zi_X7 tyX7 tyX7_ok nmX7 rfl (by decide) zu_443 rfl rfl rfl dX7_over_2 h (fun M1 H locs hw h => ?_)
  refine lv_aload_n hx hb dX7_over_5 rfl (lv_at hl 0 rfl) ?_
  refine lv_iload_n hx hb dX7_over_6 rfl (lv_at hl 1 rfl) ?_
  obtain ⟨ho, h⟩ := h
  refine zr_Vi (As := [.int a1]) (rest := []) S hK hw (kX7_isNumber l lo g M1 a0 a1 _ h) (cwV 1 hts (zg_V zu_517 zu_518 zu_519 zu_450 zu_520) rfl rfl rfl (by decide +kernel) ⟨Nat.le_of_ble_eq_true rfl, Nat.le_of_ble_eq_true rfl⟩) (ci := 10) rfl ho rfl hl.1 rfl (Nat.le_of_ble_eq_true rfl) dX7_over_7 ⟨Nat.le_of_ble_eq_true rfl, Nat.le_of_ble_eq_true rfl⟩ (fun r3 M2 H locs hw h => ?_)
  refine lv_if_eq (tgt := 21) hx hb dX7_over_10 (by decide) (fun hc => ?_) (fun hc => ?_)
  · have h := h.1 hc
    refine lv_iconst (v := (-1 : Int32)) hx hb dX7_over_21 (by decide) ?_
    exact zr_ri S hr hlocks hw h dX7_over_22
  · have h := h.2 hc
    refine lv_aload_n hx hb dX7_over_13 rfl (lv_at hl 0 rfl) ?_
    refine lv_iload_n hx hb dX7_over_14 rfl (lv_at hl 2 rfl) ?_
    obtain ⟨ho, h⟩ := h
    refine zr_Vi (As := [.int a2]) (rest := []) S hK hw (kX7_isNumber l lo g M2 a0 a2 _ h) (cwV 1 hts (zg_V zu_517 zu_518 zu_519 zu_450 zu_520) rfl rfl rfl (by decide +kernel) ⟨Nat.le_of_ble_eq_true rfl, Nat.le_of_ble_eq_true rfl⟩) (ci := 10) rfl ho rfl hl.1 rfl (Nat.le_of_ble_eq_true rfl) dX7_over_15 ⟨Nat.le_of_ble_eq_true rfl, Nat.le_of_ble_eq_true rfl⟩ (fun r5 M4 H locs hw h => ?_)
    refine lv_if_ne (tgt := 23) hx hb dX7_over_18 (by decide) (fun hc => ?_) (fun hc => ?_)
    · have h := h.1 hc
      refine lv_aload_n hx hb dX7_over_23 rfl (lv_at hl 0 rfl) ?_
      refine zr_ga (C := RX7) (T := TX7) (N := 14) (ci := 10) (k := 2) S hK hw zi_X7 rfl (by decide) zu_496 dX7_over_24 h (fun sign_6 h => ?_)
      refine lv_iload_n hx hb dX7_over_27 rfl (lv_at hl 2 rfl) ?_
      refine zr_iald S hK hw dX7_over_28 h (fun e7 h => ?_)
      refine lv_if_ne (tgt := 39) hx hb dX7_over_29 (by decide) (fun hc => ?_) (fun hc => ?_)
      · have h := h.1 hc
        refine lv_aload_n hx hb dX7_over_39 rfl (lv_at hl 0 rfl) ?_
        obtain ⟨ho, h⟩ := h
        refine zr_Vi (As := []) (rest := []) S hK hw (kX7_free l lo g M4 a0  _ h) (cwV 0 hts (zg_V zu_492 zu_493 zu_494 zu_450 zu_495) rfl rfl rfl (by decide +kernel) ⟨Nat.le_of_ble_eq_true rfl, Nat.le_of_ble_eq_true rfl⟩) (ci := 10) rfl ho rfl hl.1 rfl (Nat.le_of_ble_eq_true rfl) dX7_over_40 ⟨Nat.le_of_ble_eq_true rfl, Nat.le_of_ble_eq_true rfl⟩ (fun r9 M8 H locs hw h => ?_)
        refine lv_bipush (v := (-3 : Int32)) hx hb dX7_over_43 (by decide) ?_
        refine lv_icmp_ne (tgt := 51) hx hb dX7_over_45 (by decide) (fun hc => ?_) (fun hc => ?_)
        · have h := h.1 hc
          refine lv_aload_n hx hb dX7_over_51 rfl (lv_at hl 0 rfl) ?_
          refine lv_iconst (v := (2 : Int32)) hx hb dX7_over_52 (by decide) ?_
          refine lv_iload_n hx hb dX7_over_53 rfl (lv_at hl 1 rfl) ?_
          refine lv_iconst (v := (0 : Int32)) hx hb dX7_over_54 (by decide) ?_
          obtain ⟨ho, h⟩ := h
          refine zr_Vv (As := [.int (2 : Int32), .int a1, .int (0 : Int32)]) (rest := []) S hK hw (kX7_take l lo g M8 a0 (2 : Int32) a1 (0 : Int32) _ h) (cwV 3 hts (zg_V zu_521 zu_522 zu_523 zu_450 zu_524) rfl rfl rfl (by decide +kernel) ⟨Nat.le_of_ble_eq_true rfl, Nat.le_of_ble_eq_true rfl⟩) (ci := 10) rfl ho rfl hl.1 rfl (Nat.le_of_ble_eq_true rfl) dX7_over_55 ⟨Nat.le_of_ble_eq_true rfl, Nat.le_of_ble_eq_true rfl⟩ (fun M10 H locs hw h => ?_)
          refine lv_aload_n hx hb dX7_over_58 rfl (lv_at hl 0 rfl) ?_
          refine lv_iconst (v := (3 : Int32)) hx hb dX7_over_59 (by decide) ?_
          refine lv_iload_n hx hb dX7_over_60 rfl (lv_at hl 2 rfl) ?_
          refine lv_iconst (v := (1 : Int32)) hx hb dX7_over_61 (by decide) ?_
          obtain ⟨ho, h⟩ := h
          refine zr_Vv (As := [.int (3 : Int32), .int a2, .int (1 : Int32)]) (rest := []) S hK hw (kX7_take l lo g M10 a0 (3 : Int32) a2 (1 : Int32) _ h) (cwV 3 hts (zg_V zu_521 zu_522 zu_523 zu_450 zu_524) rfl rfl rfl (by decide +kernel) ⟨Nat.le_of_ble_eq_true rfl, Nat.le_of_ble_eq_true rfl⟩) (ci := 10) rfl ho rfl hl.1 rfl (Nat.le_of_ble_eq_true rfl) dX7_over_62 ⟨Nat.le_of_ble_eq_true rfl, Nat.le_of_ble_eq_true rfl⟩ (fun M11 H locs hw h => ?_)
          refine lv_aload_n hx hb dX7_over_65 rfl (lv_at hl 0 rfl) ?_
          refine lv_iconst (v := (0 : Int32)) hx hb dX7_over_66 (by decide) ?_
          refine lv_iconst (v := (2 : Int32)) hx hb dX7_over_67 (by decide) ?_
          refine lv_iconst (v := (3 : Int32)) hx hb dX7_over_68 (by decide) ?_
          obtain ⟨ho, h⟩ := h
          refine zr_Vv (As := [.int (0 : Int32), .int (2 : Int32), .int (3 : Int32)]) (rest := []) S hK hw (kX7_times l lo g M11 a0 (0 : Int32) (2 : Int32) (3 : Int32) _ h) (cwV 3 hts (zg_V zu_525 zu_526 zu_527 zu_450 zu_528) rfl rfl rfl (by decide +kernel) ⟨Nat.le_of_ble_eq_true rfl, Nat.le_of_ble_eq_true rfl⟩) (ci := 10) rfl ho rfl hl.1 rfl (Nat.le_of_ble_eq_true rfl) dX7_over_69 ⟨Nat.le_of_ble_eq_true rfl, Nat.le_of_ble_eq_true rfl⟩ (fun M12 H locs hw h => ?_)
          refine lv_aload_n hx hb dX7_over_72 rfl (lv_at hl 0 rfl) ?_
          refine lv_iconst (v := (2 : Int32)) hx hb dX7_over_73 (by decide) ?_
          refine lv_iload_n hx hb dX7_over_74 rfl (lv_at hl 1 rfl) ?_
          refine lv_iconst (v := (1 : Int32)) hx hb dX7_over_75 (by decide) ?_
          obtain ⟨ho, h⟩ := h
          refine zr_Vv (As := [.int (2 : Int32), .int a1, .int (1 : Int32)]) (rest := []) S hK hw (kX7_take l lo g M12 a0 (2 : Int32) a1 (1 : Int32) _ h) (cwV 3 hts (zg_V zu_521 zu_522 zu_523 zu_450 zu_524) rfl rfl rfl (by decide +kernel) ⟨Nat.le_of_ble_eq_true rfl, Nat.le_of_ble_eq_true rfl⟩) (ci := 10) rfl ho rfl hl.1 rfl (Nat.le_of_ble_eq_true rfl) dX7_over_76 ⟨Nat.le_of_ble_eq_true rfl, Nat.le_of_ble_eq_true rfl⟩ (fun M13 H locs hw h => ?_)
          refine lv_aload_n hx hb dX7_over_79 rfl (lv_at hl 0 rfl) ?_
          refine lv_iconst (v := (3 : Int32)) hx hb dX7_over_80 (by decide) ?_
          refine lv_iload_n hx hb dX7_over_81 rfl (lv_at hl 2 rfl) ?_
          refine lv_iconst (v := (0 : Int32)) hx hb dX7_over_82 (by decide) ?_
          obtain ⟨ho, h⟩ := h
          refine zr_Vv (As := [.int (3 : Int32), .int a2, .int (0 : Int32)]) (rest := []) S hK hw (kX7_take l lo g M13 a0 (3 : Int32) a2 (0 : Int32) _ h) (cwV 3 hts (zg_V zu_521 zu_522 zu_523 zu_450 zu_524) rfl rfl rfl (by decide +kernel) ⟨Nat.le_of_ble_eq_true rfl, Nat.le_of_ble_eq_true rfl⟩) (ci := 10) rfl ho rfl hl.1 rfl (Nat.le_of_ble_eq_true rfl) dX7_over_83 ⟨Nat.le_of_ble_eq_true rfl, Nat.le_of_ble_eq_true rfl⟩ (fun M14 H locs hw h => ?_)
          refine lv_aload_n hx hb dX7_over_86 rfl (lv_at hl 0 rfl) ?_
          refine lv_iconst (v := (1 : Int32)) hx hb dX7_over_87 (by decide) ?_
          refine lv_iconst (v := (2 : Int32)) hx hb dX7_over_88 (by decide) ?_
          refine lv_iconst (v := (3 : Int32)) hx hb dX7_over_89 (by decide) ?_
          obtain ⟨ho, h⟩ := h
          refine zr_Vv (As := [.int (1 : Int32), .int (2 : Int32), .int (3 : Int32)]) (rest := []) S hK hw (kX7_times l lo g M14 a0 (1 : Int32) (2 : Int32) (3 : Int32) _ h) (cwV 3 hts (zg_V zu_525 zu_526 zu_527 zu_450 zu_528) rfl rfl rfl (by decide +kernel) ⟨Nat.le_of_ble_eq_true rfl, Nat.le_of_ble_eq_true rfl⟩) (ci := 10) rfl ho rfl hl.1 rfl (Nat.le_of_ble_eq_true rfl) dX7_over_90 ⟨Nat.le_of_ble_eq_true rfl, Nat.le_of_ble_eq_true rfl⟩ (fun M15 H locs hw h => ?_)
          refine lv_aload_n hx hb dX7_over_93 rfl (lv_at hl 0 rfl) ?_
          refine lv_aload_n hx hb dX7_over_94 rfl (lv_at hl 0 rfl) ?_
          refine zr_ga (C := RX7) (T := TX7) (N := 14) (ci := 10) (k := 2) S hK hw zi_X7 rfl (by decide) zu_496 dX7_over_95 h (fun sign_16 h => ?_)
          refine lv_iload_n hx hb dX7_over_98 rfl (lv_at hl 1 rfl) ?_
          refine zr_iald S hK hw dX7_over_99 h (fun e17 h => ?_)
          refine lv_aload_n hx hb dX7_over_100 rfl (lv_at hl 0 rfl) ?_
          refine zr_ga (C := RX7) (T := TX7) (N := 14) (ci := 10) (k := 2) S hK hw zi_X7 rfl (by decide) zu_496 dX7_over_101 h (fun sign_18 h => ?_)
          refine lv_iload_n hx hb dX7_over_104 rfl (lv_at hl 2 rfl) ?_
          refine zr_iald S hK hw dX7_over_105 h (fun e19 h => ?_)
          refine lv_imul hx hb dX7_over_106 ?_
          obtain ⟨ho, h⟩ := h
          refine zr_Vi (As := [.int (e17 * e19)]) (rest := []) S hK hw (kX7_keepLeast l lo g M15 a0 (e17 * e19) _ h) (cwV 1 hts (zg_V zu_529 zu_530 zu_531 zu_450 zu_532) rfl rfl rfl (by decide +kernel) ⟨Nat.le_of_ble_eq_true rfl, Nat.le_of_ble_eq_true rfl⟩) (ci := 10) rfl ho rfl hl.1 rfl (Nat.le_of_ble_eq_true rfl) dX7_over_107 ⟨Nat.le_of_ble_eq_true rfl, Nat.le_of_ble_eq_true rfl⟩ (fun r21 M20 H locs hw h => ?_)
          exact zr_ri S hr hlocks hw h dX7_over_110
        · have h := h.2 hc
          refine lv_bipush (v := (-3 : Int32)) hx hb dX7_over_48 (by decide) ?_
          exact zr_ri S hr hlocks hw h dX7_over_50
      · have h := h.2 hc
        refine lv_aload_n hx hb dX7_over_32 rfl (lv_at hl 0 rfl) ?_
        refine lv_iconst (v := (1 : Int32)) hx hb dX7_over_33 (by decide) ?_
        refine zr_p (C := RX7) (T := TX7) (N := 14) (ci := 10) (k := 0) S hK hw zi_X7 tyX7 tyX7_ok nmX7 rfl (by decide) zu_443 rfl rfl rfl dX7_over_34 h (fun M22 H locs hw h => ?_)
        refine lv_iconst (v := (0 : Int32)) hx hb dX7_over_37 (by decide) ?_
        exact zr_ri S hr hlocks hw h dX7_over_38
    · have h := h.2 hc
      refine lv_iconst (v := (-1 : Int32)) hx hb dX7_over_21 (by decide) ?_
      exact zr_ri S hr hlocks hw h dX7_over_22
set_option maxHeartbeats 4000000 in
set_option maxRecDepth 100000 in
theorem kX7_sum (l : Launch) (lo : Nat) (g : zg) (M : zm_M) (a0 : Nat) (a1 : Int32) (a2 : Int32) (a3 : Int32) (a4 : Int32) (post : Int32 → zm_M → Prop) (h : pX7_sum g.2 a0 a1 a2 a3 a4 post M) : Met l yX7_sum (Cond.code yX7_sum cX7_sum 5 (some .int) :: zU) (({ frames := 3, cells := 0, slots := 0, locals := 87 } : Room)) (zc_P zNF zNM lo g M [.ref a0, .int a1, .int a2, .int a3, .int a4]) (va_Qi post (zc_B lo g) (zA lo)) 0 0 (zA lo) := by
  refine Met.ofW (cc := cX7_sum) (maxL := 5) (ret := (some .int)) (by decide) rfl ?_
  intro p e s m args below meth c s₁ B hml hv
  obtain ⟨rfl, hR, hK⟩ := hv
  have hts := atoms_spec (ws := Cond.code yX7_sum cX7_sum 5 (some .int) :: zU) B.pre
  have hts : ∀ w ∈ zU, w.before _ s = true := fun w hw => hts w (List.mem_cons_of_mem _ hw)
  have hown : s.vm.findClass RX7 = some m.cls := findClass_of_methodNamed B.named
  have hx := B.exec
  have hb := B.bytes
  have hr := B.returns
  have hlocks := B.notSynchronized
  have S : CallFix p m c cX7_sum 5 s ([.ref a0, .int a1, .int a2, .int a3, .int a4] : List Value).toArray zU RX7 := ⟨hx, hb, hml, hown, hts⟩
  have hw : zW lo g s s.heap [] M := ⟨hR, va_S.rf⟩
  have hl := lv_entry ([.ref a0, .int a1, .int a2, .int a3, .int a4]) (n := 5) (Nat.le_of_ble_eq_true rfl)
  rw [lg_entry_eq]
  generalize (lg_sl ([.ref a0, .int a1, .int a2, .int a3, .int a4]) ++ List.replicate (5 - (lg_sl ([.ref a0, .int a1, .int a2, .int a3, .int a4])).length) Slot.unset).toArray = ls at hl ⊢
  have hl : lv_has ls 5 [(0, .ref a0), (1, .int a1), (2, .int a2), (3, .int a3), (4, .int a4)] := hl
  unfold pX7_sum at h
  refine lv_iload_n hx hb dX7_sum_0 rfl (lv_at hl 2 rfl) ?_
  refine lv_iload hx hb dX7_sum_1 (lv_at hl 4 rfl) ?_
  refine lv_icmp_ne (tgt := 14) hx hb dX7_sum_3 (by decide) (fun hc => ?_) (fun hc => ?_)
  · have h := h.1 hc
    refine lv_aload_n hx hb dX7_sum_14 rfl (lv_at hl 0 rfl) ?_
    refine lv_iload_n hx hb dX7_sum_15 rfl (lv_at hl 1 rfl) ?_
    refine lv_iload_n hx hb dX7_sum_16 rfl (lv_at hl 3 rfl) ?_
    obtain ⟨ho, h⟩ := h
    refine zr_Vi (As := [.int a1, .int a3]) (rest := []) S hK hw (kX7_compared l lo g M a0 a1 a3 _ h) (cwV 2 hts (zg_V zu_457 zu_458 zu_459 zu_450 zu_460) rfl rfl rfl (by decide +kernel) ⟨Nat.le_of_ble_eq_true rfl, Nat.le_of_ble_eq_true rfl⟩) (ci := 10) rfl ho rfl hl.1 rfl (Nat.le_of_ble_eq_true rfl) dX7_sum_17 ⟨Nat.le_of_ble_eq_true rfl, Nat.le_of_ble_eq_true rfl⟩ (fun r2 M1 H locs hw h => ?_)
    refine lv_if_lt (tgt := 31) hx hb dX7_sum_20 (by decide) (fun hc => ?_) (fun hc => ?_)
    · have h := h.1 hc
      refine lv_aload_n hx hb dX7_sum_31 rfl (lv_at hl 0 rfl) ?_
      refine lv_bipush (v := (20 : Int32)) hx hb dX7_sum_32 (by decide) ?_
      refine lv_iload_n hx hb dX7_sum_34 rfl (lv_at hl 3 rfl) ?_
      obtain ⟨ho, h⟩ := h
      refine zr_Vv (As := [.int (20 : Int32), .int a3]) (rest := []) S hK hw (kX7_copy l lo g M1 a0 (20 : Int32) a3 _ h) (cwV 2 hts (zg_V zu_465 zu_466 zu_467 zu_450 zu_468) rfl rfl rfl (by decide +kernel) ⟨Nat.le_of_ble_eq_true rfl, Nat.le_of_ble_eq_true rfl⟩) (ci := 10) rfl ho rfl hl.1 rfl (Nat.le_of_ble_eq_true rfl) dX7_sum_35 ⟨Nat.le_of_ble_eq_true rfl, Nat.le_of_ble_eq_true rfl⟩ (fun M3 H locs hw h => ?_)
      refine lv_aload_n hx hb dX7_sum_38 rfl (lv_at hl 0 rfl) ?_
      refine lv_bipush (v := (20 : Int32)) hx hb dX7_sum_39 (by decide) ?_
      refine lv_iload_n hx hb dX7_sum_41 rfl (lv_at hl 1 rfl) ?_
      obtain ⟨ho, h⟩ := h
      refine zr_Vv (As := [.int (20 : Int32), .int a1]) (rest := []) S hK hw (kX7_less l lo g M3 a0 (20 : Int32) a1 _ h) (cwV 2 hts (zg_V zu_461 zu_462 zu_463 zu_450 zu_464) rfl rfl rfl (by decide +kernel) ⟨Nat.le_of_ble_eq_true rfl, Nat.le_of_ble_eq_true rfl⟩) (ci := 10) rfl ho rfl hl.1 rfl (Nat.le_of_ble_eq_true rfl) dX7_sum_42 ⟨Nat.le_of_ble_eq_true rfl, Nat.le_of_ble_eq_true rfl⟩ (fun M4 H locs hw h => ?_)
      refine lv_aload_n hx hb dX7_sum_45 rfl (lv_at hl 0 rfl) ?_
      refine lv_iload_n hx hb dX7_sum_46 rfl (lv_at hl 1 rfl) ?_
      refine lv_bipush (v := (20 : Int32)) hx hb dX7_sum_47 (by decide) ?_
      obtain ⟨ho, h⟩ := h
      refine zr_Vv (As := [.int a1, .int (20 : Int32)]) (rest := []) S hK hw (kX7_copy l lo g M4 a0 a1 (20 : Int32) _ h) (cwV 2 hts (zg_V zu_465 zu_466 zu_467 zu_450 zu_468) rfl rfl rfl (by decide +kernel) ⟨Nat.le_of_ble_eq_true rfl, Nat.le_of_ble_eq_true rfl⟩) (ci := 10) rfl ho rfl hl.1 rfl (Nat.le_of_ble_eq_true rfl) dX7_sum_49 ⟨Nat.le_of_ble_eq_true rfl, Nat.le_of_ble_eq_true rfl⟩ (fun M5 H locs hw h => ?_)
      refine lv_iload hx hb dX7_sum_52 (lv_at hl 4 rfl) ?_
      exact zr_ri S hr hlocks hw h dX7_sum_54
    · have h := h.2 hc
      refine lv_aload_n hx hb dX7_sum_23 rfl (lv_at hl 0 rfl) ?_
      refine lv_iload_n hx hb dX7_sum_24 rfl (lv_at hl 1 rfl) ?_
      refine lv_iload_n hx hb dX7_sum_25 rfl (lv_at hl 3 rfl) ?_
      obtain ⟨ho, h⟩ := h
      refine zr_Vv (As := [.int a1, .int a3]) (rest := []) S hK hw (kX7_less l lo g M1 a0 a1 a3 _ h) (cwV 2 hts (zg_V zu_461 zu_462 zu_463 zu_450 zu_464) rfl rfl rfl (by decide +kernel) ⟨Nat.le_of_ble_eq_true rfl, Nat.le_of_ble_eq_true rfl⟩) (ci := 10) rfl ho rfl hl.1 rfl (Nat.le_of_ble_eq_true rfl) dX7_sum_26 ⟨Nat.le_of_ble_eq_true rfl, Nat.le_of_ble_eq_true rfl⟩ (fun M6 H locs hw h => ?_)
      refine lv_iload_n hx hb dX7_sum_29 rfl (lv_at hl 2 rfl) ?_
      exact zr_ri S hr hlocks hw h dX7_sum_30
  · have h := h.2 hc
    refine lv_aload_n hx hb dX7_sum_6 rfl (lv_at hl 0 rfl) ?_
    refine lv_iload_n hx hb dX7_sum_7 rfl (lv_at hl 1 rfl) ?_
    refine lv_iload_n hx hb dX7_sum_8 rfl (lv_at hl 3 rfl) ?_
    obtain ⟨ho, h⟩ := h
    refine zr_Vv (As := [.int a1, .int a3]) (rest := []) S hK hw (kX7_add l lo g M a0 a1 a3 _ h) (cwV 2 hts (zg_V zu_533 zu_534 zu_535 zu_450 zu_536) rfl rfl rfl (by decide +kernel) ⟨Nat.le_of_ble_eq_true rfl, Nat.le_of_ble_eq_true rfl⟩) (ci := 10) rfl ho rfl hl.1 rfl (Nat.le_of_ble_eq_true rfl) dX7_sum_9 ⟨Nat.le_of_ble_eq_true rfl, Nat.le_of_ble_eq_true rfl⟩ (fun M7 H locs hw h => ?_)
    refine lv_iload_n hx hb dX7_sum_12 rfl (lv_at hl 2 rfl) ?_
    exact zr_ri S hr hlocks hw h dX7_sum_13
set_option maxHeartbeats 4000000 in
set_option maxRecDepth 100000 in
theorem sX7_apply_277 {p : Program} {l : Launch} {e : Env} {s : State} {m : MethodId} {args : Array Value} {below : List Frame} {meth : Method} {c : Code} {lo : Nat} {g : zg} {post : Int32 → zm_M → Prop}  (S : CallFix p m c cX7_apply 5 s args zU RX7) (hr : meth.sig.returnType = (some .int)) (hlocks : meth.locks = false) (hK : zk_K zNF zNM g s)  : ∀ (v0 : Nat) (v3 : Int32) (M : zm_M), pX7_apply_277 g.2 post  v0 v3 M → ∀ (H : Heap) (locs : List Loc) (ls : Array Slot), zW lo g s H locs M → lv_has ls 5 [(0, .ref v0), (3, .int v3)] → W p l e ({ frames := 6, cells := 0, slots := 0, locals := 155 } : Room) s m args below meth c H locs 0 0 (MQ below (va_Qi post (zc_B lo g) (zA lo)) args s 0 0 (zA lo)) (F0 m 277 ls []) := by
  obtain ⟨hx, hb, hml, hown, hts⟩ := id S
  intro v0 v3 M h H locs ls hw hl
  unfold pX7_apply_277 at h
  refine lv_aload_n hx hb dX7_apply_277 rfl (lv_at hl 0 rfl) ?_
  refine lv_aload_n hx hb dX7_apply_278 rfl (lv_at hl 0 rfl) ?_
  refine zr_ga (C := RX7) (T := TX7) (N := 14) (ci := 10) (k := 2) S hK hw zi_X7 rfl (by decide) zu_496 dX7_apply_279 h (fun sign_23 h => ?_)
  refine lv_iload_n hx hb dX7_apply_282 rfl (lv_at hl 1 rfl) ?_
  refine zr_iald S hK hw dX7_apply_283 h (fun e24 h => ?_)
  obtain ⟨ho, h⟩ := h
  refine zr_Vi (As := [.int e24]) (rest := []) S hK hw (kX7_keepLeast l lo g M v0 e24 _ h) (cwV 1 hts (zg_V zu_529 zu_530 zu_531 zu_450 zu_532) rfl rfl rfl (by decide +kernel) ⟨Nat.le_of_ble_eq_true rfl, Nat.le_of_ble_eq_true rfl⟩) (ci := 10) rfl ho rfl hl.1 rfl (Nat.le_of_ble_eq_true rfl) dX7_apply_284 ⟨Nat.le_of_ble_eq_true rfl, Nat.le_of_ble_eq_true rfl⟩ (fun r26 M25 H locs hw h => ?_)
  exact zr_ri S hr hlocks hw h dX7_apply_287
set_option maxHeartbeats 4000000 in
set_option maxRecDepth 100000 in
theorem sX7_apply_270 {p : Program} {l : Launch} {e : Env} {s : State} {m : MethodId} {args : Array Value} {below : List Frame} {meth : Method} {c : Code} {lo : Nat} {g : zg} {post : Int32 → zm_M → Prop}  (S : CallFix p m c cX7_apply 5 s args zU RX7) (hr : meth.sig.returnType = (some .int)) (hlocks : meth.locks = false) (hK : zk_K zNF zNM g s)  : ∀ (v0 : Nat) (v3 : Int32) (M : zm_M), pX7_apply_270 g.2 post  v0 v3 M → ∀ (H : Heap) (locs : List Loc) (ls : Array Slot), zW lo g s H locs M → lv_has ls 5 [(0, .ref v0), (3, .int v3)] → W p l e ({ frames := 6, cells := 0, slots := 0, locals := 155 } : Room) s m args below meth c H locs 0 0 (MQ below (va_Qi post (zc_B lo g) (zA lo)) args s 0 0 (zA lo)) (F0 m 270 ls []) := by
  obtain ⟨hx, hb, hml, hown, hts⟩ := id S
  intro v0 v3 M h H locs ls hw hl
  unfold pX7_apply_270 at h
  refine lv_aload_n hx hb dX7_apply_270 rfl (lv_at hl 0 rfl) ?_
  refine lv_iconst (v := (0 : Int32)) hx hb dX7_apply_271 (by decide) ?_
  refine lv_bipush (v := (9 : Int32)) hx hb dX7_apply_272 (by decide) ?_
  obtain ⟨ho, h⟩ := h
  refine zr_Vv (As := [.int (0 : Int32), .int (9 : Int32)]) (rest := []) S hK hw (kX7_copy l lo g M v0 (0 : Int32) (9 : Int32) _ h) (cwV 2 hts (zg_V zu_465 zu_466 zu_467 zu_450 zu_468) rfl rfl rfl (by decide +kernel) ⟨Nat.le_of_ble_eq_true rfl, Nat.le_of_ble_eq_true rfl⟩) (ci := 10) rfl ho rfl hl.1 rfl (Nat.le_of_ble_eq_true rfl) dX7_apply_274 ⟨Nat.le_of_ble_eq_true rfl, Nat.le_of_ble_eq_true rfl⟩ (fun M22 H locs hw h => ?_)
  exact sX7_apply_277 S hr hlocks hK  v0 v3 _ h _ _ _ hw (lv_sub hl [0, 1] rfl)
set_option maxHeartbeats 4000000 in
set_option maxRecDepth 100000 in
theorem sX7_apply_205 {p : Program} {l : Launch} {e : Env} {s : State} {m : MethodId} {args : Array Value} {below : List Frame} {meth : Method} {c : Code} {lo : Nat} {g : zg} {post : Int32 → zm_M → Prop}  (S : CallFix p m c cX7_apply 5 s args zU RX7) (hr : meth.sig.returnType = (some .int)) (hlocks : meth.locks = false) (hK : zk_K zNF zNM g s)  : ∀ (v0 : Nat) (s0 : Nat) (s1 : Int32) (s2 : Int32) (s3 : Int32) (s4 : Int32) (M : zm_M), pX7_apply_205 g.2 post  v0 s0 s1 s2 s3 s4 M → ∀ (H : Heap) (locs : List Loc) (ls : Array Slot), zW lo g s H locs M → lv_has ls 5 [(0, .ref v0)] → W p l e ({ frames := 6, cells := 0, slots := 0, locals := 155 } : Room) s m args below meth c H locs 0 0 (MQ below (va_Qi post (zc_B lo g) (zA lo)) args s 0 0 (zA lo)) (F0 m 205 ls [.int s4, .int s3, .int s2, .int s1, .ref s0]) := by
  obtain ⟨hx, hb, hml, hown, hts⟩ := id S
  intro v0 s0 s1 s2 s3 s4 M h H locs ls hw hl
  unfold pX7_apply_205 at h
  obtain ⟨ho, h⟩ := h
  refine zr_Vi (As := [.int s1, .int s2, .int s3, .int s4]) (rest := []) S hK hw (kX7_sum l lo g M s0 s1 s2 s3 s4 _ h) (cwV 4 hts (zg_V zu_538 zu_539 zu_540 zu_450 zu_541) rfl rfl rfl (by decide +kernel) ⟨Nat.le_of_ble_eq_true rfl, Nat.le_of_ble_eq_true rfl⟩) (ci := 10) rfl ho rfl hl.1 rfl (Nat.le_of_ble_eq_true rfl) dX7_apply_205 ⟨Nat.le_of_ble_eq_true rfl, Nat.le_of_ble_eq_true rfl⟩ (fun r36 M35 H locs hw h => ?_)
  refine lv_istore (lv' := [(4, .int r36), (0, .ref v0)]) hx hb dX7_apply_208 hl (by decide) rfl (fun ls hl => ?_)
  refine lv_aload_n hx hb dX7_apply_210 rfl (lv_at hl 1 rfl) ?_
  refine lv_iload hx hb dX7_apply_211 (lv_at hl 0 rfl) ?_
  obtain ⟨ho, h⟩ := h
  refine zr_Vi (As := [.int r36]) (rest := []) S hK hw (kX7_keepLeast l lo g M35 v0 r36 _ h) (cwV 1 hts (zg_V zu_529 zu_530 zu_531 zu_450 zu_532) rfl rfl rfl (by decide +kernel) ⟨Nat.le_of_ble_eq_true rfl, Nat.le_of_ble_eq_true rfl⟩) (ci := 10) rfl ho rfl hl.1 rfl (Nat.le_of_ble_eq_true rfl) dX7_apply_213 ⟨Nat.le_of_ble_eq_true rfl, Nat.le_of_ble_eq_true rfl⟩ (fun r38 M37 H locs hw h => ?_)
  exact zr_ri S hr hlocks hw h dX7_apply_216
set_option maxHeartbeats 4000000 in
set_option maxRecDepth 100000 in
theorem sX7_apply_56 {p : Program} {l : Launch} {e : Env} {s : State} {m : MethodId} {args : Array Value} {below : List Frame} {meth : Method} {c : Code} {lo : Nat} {g : zg} {post : Int32 → zm_M → Prop}  (S : CallFix p m c cX7_apply 5 s args zU RX7) (hr : meth.sig.returnType = (some .int)) (hlocks : meth.locks = false) (hK : zk_K zNF zNM g s)  : ∀ (v0 : Nat) (v1 : Int32) (v2 : Int32) (v3 : Int32) (M : zm_M), pX7_apply_56 g.2 post  v0 v1 v2 v3 M → ∀ (H : Heap) (locs : List Loc) (ls : Array Slot), zW lo g s H locs M → lv_has ls 5 [(0, .ref v0), (1, .int v1), (2, .int v2), (3, .int v3)] → W p l e ({ frames := 6, cells := 0, slots := 0, locals := 155 } : Room) s m args below meth c H locs 0 0 (MQ below (va_Qi post (zc_B lo g) (zA lo)) args s 0 0 (zA lo)) (F0 m 56 ls []) := by
  obtain ⟨hx, hb, hml, hown, hts⟩ := id S
  intro v0 v1 v2 v3 M h H locs ls hw hl
  unfold pX7_apply_56 at h
  refine lv_aload_n hx hb dX7_apply_56 rfl (lv_at hl 0 rfl) ?_
  obtain ⟨ho, h⟩ := h
  refine zr_Vi (As := []) (rest := []) S hK hw (kX7_free l lo g M v0  _ h) (cwV 0 hts (zg_V zu_492 zu_493 zu_494 zu_450 zu_495) rfl rfl rfl (by decide +kernel) ⟨Nat.le_of_ble_eq_true rfl, Nat.le_of_ble_eq_true rfl⟩) (ci := 10) rfl ho rfl hl.1 rfl (Nat.le_of_ble_eq_true rfl) dX7_apply_57 ⟨Nat.le_of_ble_eq_true rfl, Nat.le_of_ble_eq_true rfl⟩ (fun r9 M8 H locs hw h => ?_)
  refine lv_bipush (v := (-3 : Int32)) hx hb dX7_apply_60 (by decide) ?_
  refine lv_icmp_ne (tgt := 68) hx hb dX7_apply_62 (by decide) (fun hc => ?_) (fun hc => ?_)
  · have h := h.1 hc
    refine lv_aload_n hx hb dX7_apply_68 rfl (lv_at hl 0 rfl) ?_
    refine lv_iconst (v := (4 : Int32)) hx hb dX7_apply_69 (by decide) ?_
    refine lv_iload_n hx hb dX7_apply_70 rfl (lv_at hl 2 rfl) ?_
    refine lv_iconst (v := (1 : Int32)) hx hb dX7_apply_71 (by decide) ?_
    obtain ⟨ho, h⟩ := h
    refine zr_Vv (As := [.int (4 : Int32), .int v2, .int (1 : Int32)]) (rest := []) S hK hw (kX7_take l lo g M8 v0 (4 : Int32) v2 (1 : Int32) _ h) (cwV 3 hts (zg_V zu_521 zu_522 zu_523 zu_450 zu_524) rfl rfl rfl (by decide +kernel) ⟨Nat.le_of_ble_eq_true rfl, Nat.le_of_ble_eq_true rfl⟩) (ci := 10) rfl ho rfl hl.1 rfl (Nat.le_of_ble_eq_true rfl) dX7_apply_72 ⟨Nat.le_of_ble_eq_true rfl, Nat.le_of_ble_eq_true rfl⟩ (fun M10 H locs hw h => ?_)
    refine lv_aload_n hx hb dX7_apply_75 rfl (lv_at hl 0 rfl) ?_
    refine lv_iconst (v := (5 : Int32)) hx hb dX7_apply_76 (by decide) ?_
    refine lv_iload_n hx hb dX7_apply_77 rfl (lv_at hl 3 rfl) ?_
    refine lv_iconst (v := (1 : Int32)) hx hb dX7_apply_78 (by decide) ?_
    obtain ⟨ho, h⟩ := h
    refine zr_Vv (As := [.int (5 : Int32), .int v3, .int (1 : Int32)]) (rest := []) S hK hw (kX7_take l lo g M10 v0 (5 : Int32) v3 (1 : Int32) _ h) (cwV 3 hts (zg_V zu_521 zu_522 zu_523 zu_450 zu_524) rfl rfl rfl (by decide +kernel) ⟨Nat.le_of_ble_eq_true rfl, Nat.le_of_ble_eq_true rfl⟩) (ci := 10) rfl ho rfl hl.1 rfl (Nat.le_of_ble_eq_true rfl) dX7_apply_79 ⟨Nat.le_of_ble_eq_true rfl, Nat.le_of_ble_eq_true rfl⟩ (fun M11 H locs hw h => ?_)
    refine lv_aload_n hx hb dX7_apply_82 rfl (lv_at hl 0 rfl) ?_
    refine lv_iconst (v := (1 : Int32)) hx hb dX7_apply_83 (by decide) ?_
    refine lv_iconst (v := (4 : Int32)) hx hb dX7_apply_84 (by decide) ?_
    refine lv_iconst (v := (5 : Int32)) hx hb dX7_apply_85 (by decide) ?_
    obtain ⟨ho, h⟩ := h
    refine zr_Vv (As := [.int (1 : Int32), .int (4 : Int32), .int (5 : Int32)]) (rest := []) S hK hw (kX7_times l lo g M11 v0 (1 : Int32) (4 : Int32) (5 : Int32) _ h) (cwV 3 hts (zg_V zu_525 zu_526 zu_527 zu_450 zu_528) rfl rfl rfl (by decide +kernel) ⟨Nat.le_of_ble_eq_true rfl, Nat.le_of_ble_eq_true rfl⟩) (ci := 10) rfl ho rfl hl.1 rfl (Nat.le_of_ble_eq_true rfl) dX7_apply_86 ⟨Nat.le_of_ble_eq_true rfl, Nat.le_of_ble_eq_true rfl⟩ (fun M12 H locs hw h => ?_)
    refine lv_iload_n hx hb dX7_apply_89 rfl (lv_at hl 1 rfl) ?_
    refine lv_iconst (v := (2 : Int32)) hx hb dX7_apply_90 (by decide) ?_
    refine lv_icmp_ne (tgt := 133) hx hb dX7_apply_91 (by decide) (fun hc => ?_) (fun hc => ?_)
    · have h := h.1 hc
      refine lv_aload_n hx hb dX7_apply_133 rfl (lv_at hl 0 rfl) ?_
      refine lv_bipush (v := (6 : Int32)) hx hb dX7_apply_134 (by decide) ?_
      refine lv_iload_n hx hb dX7_apply_136 rfl (lv_at hl 2 rfl) ?_
      refine lv_iconst (v := (0 : Int32)) hx hb dX7_apply_137 (by decide) ?_
      obtain ⟨ho, h⟩ := h
      refine zr_Vv (As := [.int (6 : Int32), .int v2, .int (0 : Int32)]) (rest := []) S hK hw (kX7_take l lo g M12 v0 (6 : Int32) v2 (0 : Int32) _ h) (cwV 3 hts (zg_V zu_521 zu_522 zu_523 zu_450 zu_524) rfl rfl rfl (by decide +kernel) ⟨Nat.le_of_ble_eq_true rfl, Nat.le_of_ble_eq_true rfl⟩) (ci := 10) rfl ho rfl hl.1 rfl (Nat.le_of_ble_eq_true rfl) dX7_apply_138 ⟨Nat.le_of_ble_eq_true rfl, Nat.le_of_ble_eq_true rfl⟩ (fun M13 H locs hw h => ?_)
      refine lv_aload_n hx hb dX7_apply_141 rfl (lv_at hl 0 rfl) ?_
      refine lv_iconst (v := (0 : Int32)) hx hb dX7_apply_142 (by decide) ?_
      refine lv_bipush (v := (6 : Int32)) hx hb dX7_apply_143 (by decide) ?_
      refine lv_iconst (v := (5 : Int32)) hx hb dX7_apply_145 (by decide) ?_
      obtain ⟨ho, h⟩ := h
      refine zr_Vv (As := [.int (0 : Int32), .int (6 : Int32), .int (5 : Int32)]) (rest := []) S hK hw (kX7_times l lo g M13 v0 (0 : Int32) (6 : Int32) (5 : Int32) _ h) (cwV 3 hts (zg_V zu_525 zu_526 zu_527 zu_450 zu_528) rfl rfl rfl (by decide +kernel) ⟨Nat.le_of_ble_eq_true rfl, Nat.le_of_ble_eq_true rfl⟩) (ci := 10) rfl ho rfl hl.1 rfl (Nat.le_of_ble_eq_true rfl) dX7_apply_146 ⟨Nat.le_of_ble_eq_true rfl, Nat.le_of_ble_eq_true rfl⟩ (fun M14 H locs hw h => ?_)
      refine lv_aload_n hx hb dX7_apply_149 rfl (lv_at hl 0 rfl) ?_
      refine lv_bipush (v := (6 : Int32)) hx hb dX7_apply_150 (by decide) ?_
      refine lv_iload_n hx hb dX7_apply_152 rfl (lv_at hl 3 rfl) ?_
      refine lv_iconst (v := (0 : Int32)) hx hb dX7_apply_153 (by decide) ?_
      obtain ⟨ho, h⟩ := h
      refine zr_Vv (As := [.int (6 : Int32), .int v3, .int (0 : Int32)]) (rest := []) S hK hw (kX7_take l lo g M14 v0 (6 : Int32) v3 (0 : Int32) _ h) (cwV 3 hts (zg_V zu_521 zu_522 zu_523 zu_450 zu_524) rfl rfl rfl (by decide +kernel) ⟨Nat.le_of_ble_eq_true rfl, Nat.le_of_ble_eq_true rfl⟩) (ci := 10) rfl ho rfl hl.1 rfl (Nat.le_of_ble_eq_true rfl) dX7_apply_154 ⟨Nat.le_of_ble_eq_true rfl, Nat.le_of_ble_eq_true rfl⟩ (fun M15 H locs hw h => ?_)
      refine lv_aload_n hx hb dX7_apply_157 rfl (lv_at hl 0 rfl) ?_
      refine lv_bipush (v := (7 : Int32)) hx hb dX7_apply_158 (by decide) ?_
      refine lv_bipush (v := (6 : Int32)) hx hb dX7_apply_160 (by decide) ?_
      refine lv_iconst (v := (4 : Int32)) hx hb dX7_apply_162 (by decide) ?_
      obtain ⟨ho, h⟩ := h
      refine zr_Vv (As := [.int (7 : Int32), .int (6 : Int32), .int (4 : Int32)]) (rest := []) S hK hw (kX7_times l lo g M15 v0 (7 : Int32) (6 : Int32) (4 : Int32) _ h) (cwV 3 hts (zg_V zu_525 zu_526 zu_527 zu_450 zu_528) rfl rfl rfl (by decide +kernel) ⟨Nat.le_of_ble_eq_true rfl, Nat.le_of_ble_eq_true rfl⟩) (ci := 10) rfl ho rfl hl.1 rfl (Nat.le_of_ble_eq_true rfl) dX7_apply_163 ⟨Nat.le_of_ble_eq_true rfl, Nat.le_of_ble_eq_true rfl⟩ (fun M16 H locs hw h => ?_)
      refine lv_aload_n hx hb dX7_apply_166 rfl (lv_at hl 0 rfl) ?_
      refine zr_ga (C := RX7) (T := TX7) (N := 14) (ci := 10) (k := 2) S hK hw zi_X7 rfl (by decide) zu_496 dX7_apply_167 h (fun sign_17 h => ?_)
      refine lv_iload_n hx hb dX7_apply_170 rfl (lv_at hl 2 rfl) ?_
      refine zr_iald S hK hw dX7_apply_171 h (fun e18 h => ?_)
      refine lv_istore (lv' := [(4, .int e18), (0, .ref v0), (1, .int v1), (2, .int v2), (3, .int v3)]) hx hb dX7_apply_172 hl (by decide) rfl (fun ls hl => ?_)
      refine lv_iload_n hx hb dX7_apply_174 rfl (lv_at hl 2 rfl) ?_
      refine lv_iconst (v := (2 : Int32)) hx hb dX7_apply_175 (by decide) ?_
      refine lv_icmp_ge (tgt := 217) hx hb dX7_apply_176 (by decide) (fun hc => ?_) (fun hc => ?_)
      · have h := h.1 hc
        refine lv_aload_n hx hb dX7_apply_217 rfl (lv_at hl 1 rfl) ?_
        refine lv_bipush (v := (8 : Int32)) hx hb dX7_apply_218 (by decide) ?_
        refine lv_bipush (v := (9 : Int32)) hx hb dX7_apply_220 (by decide) ?_
        refine lv_iconst (v := (0 : Int32)) hx hb dX7_apply_222 (by decide) ?_
        refine lv_bipush (v := (7 : Int32)) hx hb dX7_apply_223 (by decide) ?_
        obtain ⟨ho, h⟩ := h
        refine zr_Vv (As := [.int (8 : Int32), .int (9 : Int32), .int (0 : Int32), .int (7 : Int32)]) (rest := []) S hK hw (kX7_divide l lo g M16 v0 (8 : Int32) (9 : Int32) (0 : Int32) (7 : Int32) _ h) (cwV 4 hts (zg_V zu_501 zu_502 zu_503 zu_450 zu_504) rfl rfl rfl (by decide +kernel) ⟨Nat.le_of_ble_eq_true rfl, Nat.le_of_ble_eq_true rfl⟩) (ci := 10) rfl ho rfl hl.1 rfl (Nat.le_of_ble_eq_true rfl) dX7_apply_225 ⟨Nat.le_of_ble_eq_true rfl, Nat.le_of_ble_eq_true rfl⟩ (fun M19 H locs hw h => ?_)
        refine lv_aload_n hx hb dX7_apply_228 rfl (lv_at hl 1 rfl) ?_
        refine zr_ga (C := RX7) (T := TX7) (N := 14) (ci := 10) (k := 10) S hK hw zi_X7 rfl (by decide) zu_444 dX7_apply_229 h (fun n_20 h => ?_)
        refine lv_bipush (v := (9 : Int32)) hx hb dX7_apply_232 (by decide) ?_
        refine zr_iald S hK hw dX7_apply_234 h (fun e21 h => ?_)
        refine lv_if_le (tgt := 270) hx hb dX7_apply_235 (by decide) (fun hc => ?_) (fun hc => ?_)
        · have h := h.1 hc
          exact sX7_apply_270 S hr hlocks hK  v0 v3 _ h _ _ _ hw (lv_sub hl [1, 4] rfl)
        · have h := h.2 hc
          refine lv_aload_n hx hb dX7_apply_238 rfl (lv_at hl 1 rfl) ?_
          refine zr_ga (C := RX7) (T := TX7) (N := 14) (ci := 10) (k := 2) S hK hw zi_X7 rfl (by decide) zu_496 dX7_apply_239 h (fun sign_27 h => ?_)
          refine lv_iload_n hx hb dX7_apply_242 rfl (lv_at hl 3 rfl) ?_
          refine zr_iald S hK hw dX7_apply_243 h (fun e28 h => ?_)
          refine lv_aload_n hx hb dX7_apply_244 rfl (lv_at hl 1 rfl) ?_
          refine zr_ga (C := RX7) (T := TX7) (N := 14) (ci := 10) (k := 2) S hK hw zi_X7 rfl (by decide) zu_496 dX7_apply_245 h (fun sign_29 h => ?_)
          refine lv_iload_n hx hb dX7_apply_248 rfl (lv_at hl 4 rfl) ?_
          refine zr_iald S hK hw dX7_apply_249 h (fun e30 h => ?_)
          refine lv_icmp_eq (tgt := 270) hx hb dX7_apply_250 (by decide) (fun hc => ?_) (fun hc => ?_)
          · have h := h.1 hc
            exact sX7_apply_270 S hr hlocks hK  v0 v3 _ h _ _ _ hw (lv_sub hl [1, 4] rfl)
          · have h := h.2 hc
            refine lv_aload_n hx hb dX7_apply_253 rfl (lv_at hl 1 rfl) ?_
            refine lv_iconst (v := (0 : Int32)) hx hb dX7_apply_254 (by decide) ?_
            refine lv_bipush (v := (7 : Int32)) hx hb dX7_apply_255 (by decide) ?_
            obtain ⟨ho, h⟩ := h
            refine zr_Vv (As := [.int (0 : Int32), .int (7 : Int32)]) (rest := []) S hK hw (kX7_copy l lo g M19 v0 (0 : Int32) (7 : Int32) _ h) (cwV 2 hts (zg_V zu_465 zu_466 zu_467 zu_450 zu_468) rfl rfl rfl (by decide +kernel) ⟨Nat.le_of_ble_eq_true rfl, Nat.le_of_ble_eq_true rfl⟩) (ci := 10) rfl ho rfl hl.1 rfl (Nat.le_of_ble_eq_true rfl) dX7_apply_257 ⟨Nat.le_of_ble_eq_true rfl, Nat.le_of_ble_eq_true rfl⟩ (fun M31 H locs hw h => ?_)
            refine lv_aload_n hx hb dX7_apply_260 rfl (lv_at hl 1 rfl) ?_
            refine lv_iconst (v := (0 : Int32)) hx hb dX7_apply_261 (by decide) ?_
            refine lv_bipush (v := (9 : Int32)) hx hb dX7_apply_262 (by decide) ?_
            obtain ⟨ho, h⟩ := h
            refine zr_Vv (As := [.int (0 : Int32), .int (9 : Int32)]) (rest := []) S hK hw (kX7_less l lo g M31 v0 (0 : Int32) (9 : Int32) _ h) (cwV 2 hts (zg_V zu_461 zu_462 zu_463 zu_450 zu_464) rfl rfl rfl (by decide +kernel) ⟨Nat.le_of_ble_eq_true rfl, Nat.le_of_ble_eq_true rfl⟩) (ci := 10) rfl ho rfl hl.1 rfl (Nat.le_of_ble_eq_true rfl) dX7_apply_264 ⟨Nat.le_of_ble_eq_true rfl, Nat.le_of_ble_eq_true rfl⟩ (fun M32 H locs hw h => ?_)
            refine lv_goto (tgt := 277) hx hb dX7_apply_267 (by decide) ?_
            exact sX7_apply_277 S hr hlocks hK  v0 v3 _ h _ _ _ hw (lv_sub hl [1, 4] rfl)
      · have h := h.2 hc
        refine lv_aload_n hx hb dX7_apply_179 rfl (lv_at hl 1 rfl) ?_
        refine lv_iconst (v := (0 : Int32)) hx hb dX7_apply_180 (by decide) ?_
        refine lv_iload hx hb dX7_apply_181 (lv_at hl 0 rfl) ?_
        refine lv_bipush (v := (7 : Int32)) hx hb dX7_apply_183 (by decide) ?_
        refine lv_iload_n hx hb dX7_apply_185 rfl (lv_at hl 2 rfl) ?_
        refine lv_if_ne (tgt := 198) hx hb dX7_apply_186 (by decide) (fun hc => ?_) (fun hc => ?_)
        · have h := h.1 hc
          refine lv_aload_n hx hb dX7_apply_198 rfl (lv_at hl 1 rfl) ?_
          refine zr_ga (C := RX7) (T := TX7) (N := 14) (ci := 10) (k := 2) S hK hw zi_X7 rfl (by decide) zu_496 dX7_apply_199 h (fun sign_33 h => ?_)
          refine lv_iload_n hx hb dX7_apply_202 rfl (lv_at hl 4 rfl) ?_
          refine zr_iald S hK hw dX7_apply_203 h (fun e34 h => ?_)
          refine lv_ineg hx hb dX7_apply_204 ?_
          exact sX7_apply_205 S hr hlocks hK  v0 v0 (0 : Int32) e18 (7 : Int32) (-e34) _ h _ _ _ hw (lv_sub hl [1] rfl)
        · have h := h.2 hc
          refine lv_aload_n hx hb dX7_apply_189 rfl (lv_at hl 1 rfl) ?_
          refine zr_ga (C := RX7) (T := TX7) (N := 14) (ci := 10) (k := 2) S hK hw zi_X7 rfl (by decide) zu_496 dX7_apply_190 h (fun sign_39 h => ?_)
          refine lv_iload_n hx hb dX7_apply_193 rfl (lv_at hl 4 rfl) ?_
          refine zr_iald S hK hw dX7_apply_194 h (fun e40 h => ?_)
          refine lv_goto (tgt := 205) hx hb dX7_apply_195 (by decide) ?_
          exact sX7_apply_205 S hr hlocks hK  v0 v0 (0 : Int32) e18 (7 : Int32) e40 _ h _ _ _ hw (lv_sub hl [1] rfl)
    · have h := h.2 hc
      refine lv_aload_n hx hb dX7_apply_94 rfl (lv_at hl 0 rfl) ?_
      refine lv_iconst (v := (4 : Int32)) hx hb dX7_apply_95 (by decide) ?_
      refine lv_iload_n hx hb dX7_apply_96 rfl (lv_at hl 2 rfl) ?_
      refine lv_iconst (v := (0 : Int32)) hx hb dX7_apply_97 (by decide) ?_
      obtain ⟨ho, h⟩ := h
      refine zr_Vv (As := [.int (4 : Int32), .int v2, .int (0 : Int32)]) (rest := []) S hK hw (kX7_take l lo g M12 v0 (4 : Int32) v2 (0 : Int32) _ h) (cwV 3 hts (zg_V zu_521 zu_522 zu_523 zu_450 zu_524) rfl rfl rfl (by decide +kernel) ⟨Nat.le_of_ble_eq_true rfl, Nat.le_of_ble_eq_true rfl⟩) (ci := 10) rfl ho rfl hl.1 rfl (Nat.le_of_ble_eq_true rfl) dX7_apply_98 ⟨Nat.le_of_ble_eq_true rfl, Nat.le_of_ble_eq_true rfl⟩ (fun M41 H locs hw h => ?_)
      refine lv_aload_n hx hb dX7_apply_101 rfl (lv_at hl 0 rfl) ?_
      refine lv_iconst (v := (5 : Int32)) hx hb dX7_apply_102 (by decide) ?_
      refine lv_iload_n hx hb dX7_apply_103 rfl (lv_at hl 3 rfl) ?_
      refine lv_iconst (v := (0 : Int32)) hx hb dX7_apply_104 (by decide) ?_
      obtain ⟨ho, h⟩ := h
      refine zr_Vv (As := [.int (5 : Int32), .int v3, .int (0 : Int32)]) (rest := []) S hK hw (kX7_take l lo g M41 v0 (5 : Int32) v3 (0 : Int32) _ h) (cwV 3 hts (zg_V zu_521 zu_522 zu_523 zu_450 zu_524) rfl rfl rfl (by decide +kernel) ⟨Nat.le_of_ble_eq_true rfl, Nat.le_of_ble_eq_true rfl⟩) (ci := 10) rfl ho rfl hl.1 rfl (Nat.le_of_ble_eq_true rfl) dX7_apply_105 ⟨Nat.le_of_ble_eq_true rfl, Nat.le_of_ble_eq_true rfl⟩ (fun M42 H locs hw h => ?_)
      refine lv_aload_n hx hb dX7_apply_108 rfl (lv_at hl 0 rfl) ?_
      refine lv_iconst (v := (0 : Int32)) hx hb dX7_apply_109 (by decide) ?_
      refine lv_iconst (v := (4 : Int32)) hx hb dX7_apply_110 (by decide) ?_
      refine lv_iconst (v := (5 : Int32)) hx hb dX7_apply_111 (by decide) ?_
      obtain ⟨ho, h⟩ := h
      refine zr_Vv (As := [.int (0 : Int32), .int (4 : Int32), .int (5 : Int32)]) (rest := []) S hK hw (kX7_times l lo g M42 v0 (0 : Int32) (4 : Int32) (5 : Int32) _ h) (cwV 3 hts (zg_V zu_525 zu_526 zu_527 zu_450 zu_528) rfl rfl rfl (by decide +kernel) ⟨Nat.le_of_ble_eq_true rfl, Nat.le_of_ble_eq_true rfl⟩) (ci := 10) rfl ho rfl hl.1 rfl (Nat.le_of_ble_eq_true rfl) dX7_apply_112 ⟨Nat.le_of_ble_eq_true rfl, Nat.le_of_ble_eq_true rfl⟩ (fun M43 H locs hw h => ?_)
      refine lv_aload_n hx hb dX7_apply_115 rfl (lv_at hl 0 rfl) ?_
      refine lv_aload_n hx hb dX7_apply_116 rfl (lv_at hl 0 rfl) ?_
      refine zr_ga (C := RX7) (T := TX7) (N := 14) (ci := 10) (k := 2) S hK hw zi_X7 rfl (by decide) zu_496 dX7_apply_117 h (fun sign_44 h => ?_)
      refine lv_iload_n hx hb dX7_apply_120 rfl (lv_at hl 2 rfl) ?_
      refine zr_iald S hK hw dX7_apply_121 h (fun e45 h => ?_)
      refine lv_aload_n hx hb dX7_apply_122 rfl (lv_at hl 0 rfl) ?_
      refine zr_ga (C := RX7) (T := TX7) (N := 14) (ci := 10) (k := 2) S hK hw zi_X7 rfl (by decide) zu_496 dX7_apply_123 h (fun sign_46 h => ?_)
      refine lv_iload_n hx hb dX7_apply_126 rfl (lv_at hl 3 rfl) ?_
      refine zr_iald S hK hw dX7_apply_127 h (fun e47 h => ?_)
      refine lv_imul hx hb dX7_apply_128 ?_
      obtain ⟨ho, h⟩ := h
      refine zr_Vi (As := [.int (e45 * e47)]) (rest := []) S hK hw (kX7_keepLeast l lo g M43 v0 (e45 * e47) _ h) (cwV 1 hts (zg_V zu_529 zu_530 zu_531 zu_450 zu_532) rfl rfl rfl (by decide +kernel) ⟨Nat.le_of_ble_eq_true rfl, Nat.le_of_ble_eq_true rfl⟩) (ci := 10) rfl ho rfl hl.1 rfl (Nat.le_of_ble_eq_true rfl) dX7_apply_129 ⟨Nat.le_of_ble_eq_true rfl, Nat.le_of_ble_eq_true rfl⟩ (fun r49 M48 H locs hw h => ?_)
      exact zr_ri S hr hlocks hw h dX7_apply_132
  · have h := h.2 hc
    refine lv_bipush (v := (-3 : Int32)) hx hb dX7_apply_65 (by decide) ?_
    exact zr_ri S hr hlocks hw h dX7_apply_67
set_option maxHeartbeats 4000000 in
set_option maxRecDepth 100000 in
theorem kX7_apply (l : Launch) (lo : Nat) (g : zg) (M : zm_M) (a0 : Nat) (a1 : Int32) (a2 : Int32) (a3 : Int32) (post : Int32 → zm_M → Prop) (h : pX7_apply g.2 a0 a1 a2 a3 post M) : Met l yX7_apply (Cond.code yX7_apply cX7_apply 5 (some .int) :: zU) (({ frames := 6, cells := 0, slots := 0, locals := 155 } : Room)) (zc_P zNF zNM lo g M [.ref a0, .int a1, .int a2, .int a3]) (va_Qi post (zc_B lo g) (zA lo)) 0 0 (zA lo) := by
  refine Met.ofW (cc := cX7_apply) (maxL := 5) (ret := (some .int)) (by decide) rfl ?_
  intro p e s m args below meth c s₁ B hml hv
  obtain ⟨rfl, hR, hK⟩ := hv
  have hts := atoms_spec (ws := Cond.code yX7_apply cX7_apply 5 (some .int) :: zU) B.pre
  have hts : ∀ w ∈ zU, w.before _ s = true := fun w hw => hts w (List.mem_cons_of_mem _ hw)
  have hown : s.vm.findClass RX7 = some m.cls := findClass_of_methodNamed B.named
  have hx := B.exec
  have hb := B.bytes
  have hr := B.returns
  have hlocks := B.notSynchronized
  have S : CallFix p m c cX7_apply 5 s ([.ref a0, .int a1, .int a2, .int a3] : List Value).toArray zU RX7 := ⟨hx, hb, hml, hown, hts⟩
  have hw : zW lo g s s.heap [] M := ⟨hR, va_S.rf⟩
  have hl := lv_entry ([.ref a0, .int a1, .int a2, .int a3]) (n := 5) (Nat.le_of_ble_eq_true rfl)
  rw [lg_entry_eq]
  generalize (lg_sl ([.ref a0, .int a1, .int a2, .int a3]) ++ List.replicate (5 - (lg_sl ([.ref a0, .int a1, .int a2, .int a3])).length) Slot.unset).toArray = ls at hl ⊢
  have hl : lv_has ls 5 [(0, .ref a0), (1, .int a1), (2, .int a2), (3, .int a3)] := hl
  unfold pX7_apply at h
  refine lv_aload_n hx hb dX7_apply_0 rfl (lv_at hl 0 rfl) ?_
  refine lv_iconst (v := (0 : Int32)) hx hb dX7_apply_1 (by decide) ?_
  refine zr_p (C := RX7) (T := TX7) (N := 14) (ci := 10) (k := 0) S hK hw zi_X7 tyX7 tyX7_ok nmX7 rfl (by decide) zu_443 rfl rfl rfl dX7_apply_2 h (fun M1 H locs hw h => ?_)
  refine lv_iload_n hx hb dX7_apply_5 rfl (lv_at hl 1 rfl) ?_
  refine lv_i2l hx hb dX7_apply_6 rfl ?_
  refine lv_lconst (v := (0 : Int64)) hx hb dX7_apply_7 (by decide) ?_
  refine lv_ldc2 (v := (3 : Int64)) hx hb hown (hts _ zu_537) dX7_apply_8 ?_
  refine zr_Si (As := [.long (a1.toInt64), .long (0 : Int64), .long (3 : Int64)]) (rest := []) S hK hw (kX7_in l lo g M1 (a1.toInt64) (0 : Int64) (3 : Int64) _ h) (va_cwS 3 hts (zg_S zu_482 zu_483 zu_450 zu_484) rfl rfl rfl (by decide +kernel) ⟨Nat.le_of_ble_eq_true rfl, Nat.le_of_ble_eq_true rfl⟩) rfl hl.1 rfl (Nat.le_of_ble_eq_true rfl) dX7_apply_11 ⟨Nat.le_of_ble_eq_true rfl, Nat.le_of_ble_eq_true rfl⟩ (fun r3 M2 H locs hw h => ?_)
  refine lv_if_eq (tgt := 33) hx hb dX7_apply_14 (by decide) (fun hc => ?_) (fun hc => ?_)
  · have h := h.1 hc
    refine lv_iconst (v := (-1 : Int32)) hx hb dX7_apply_33 (by decide) ?_
    exact zr_ri S hr hlocks hw h dX7_apply_34
  · have h := h.2 hc
    refine lv_aload_n hx hb dX7_apply_17 rfl (lv_at hl 0 rfl) ?_
    refine lv_iload_n hx hb dX7_apply_18 rfl (lv_at hl 2 rfl) ?_
    obtain ⟨ho, h⟩ := h
    refine zr_Vi (As := [.int a2]) (rest := []) S hK hw (kX7_isNumber l lo g M2 a0 a2 _ h) (cwV 1 hts (zg_V zu_517 zu_518 zu_519 zu_450 zu_520) rfl rfl rfl (by decide +kernel) ⟨Nat.le_of_ble_eq_true rfl, Nat.le_of_ble_eq_true rfl⟩) (ci := 10) rfl ho rfl hl.1 rfl (Nat.le_of_ble_eq_true rfl) dX7_apply_19 ⟨Nat.le_of_ble_eq_true rfl, Nat.le_of_ble_eq_true rfl⟩ (fun r5 M4 H locs hw h => ?_)
    refine lv_if_eq (tgt := 33) hx hb dX7_apply_22 (by decide) (fun hc => ?_) (fun hc => ?_)
    · have h := h.1 hc
      refine lv_iconst (v := (-1 : Int32)) hx hb dX7_apply_33 (by decide) ?_
      exact zr_ri S hr hlocks hw h dX7_apply_34
    · have h := h.2 hc
      refine lv_aload_n hx hb dX7_apply_25 rfl (lv_at hl 0 rfl) ?_
      refine lv_iload_n hx hb dX7_apply_26 rfl (lv_at hl 3 rfl) ?_
      obtain ⟨ho, h⟩ := h
      refine zr_Vi (As := [.int a3]) (rest := []) S hK hw (kX7_isNumber l lo g M4 a0 a3 _ h) (cwV 1 hts (zg_V zu_517 zu_518 zu_519 zu_450 zu_520) rfl rfl rfl (by decide +kernel) ⟨Nat.le_of_ble_eq_true rfl, Nat.le_of_ble_eq_true rfl⟩) (ci := 10) rfl ho rfl hl.1 rfl (Nat.le_of_ble_eq_true rfl) dX7_apply_27 ⟨Nat.le_of_ble_eq_true rfl, Nat.le_of_ble_eq_true rfl⟩ (fun r7 M6 H locs hw h => ?_)
      refine lv_if_ne (tgt := 35) hx hb dX7_apply_30 (by decide) (fun hc => ?_) (fun hc => ?_)
      · have h := h.1 hc
        refine lv_iload_n hx hb dX7_apply_35 rfl (lv_at hl 1 rfl) ?_
        refine lv_iconst (v := (3 : Int32)) hx hb dX7_apply_36 (by decide) ?_
        refine lv_icmp_ne (tgt := 56) hx hb dX7_apply_37 (by decide) (fun hc => ?_) (fun hc => ?_)
        · have h := h.1 hc
          exact sX7_apply_56 S hr hlocks hK  a0 a1 a2 a3 _ h _ _ _ hw (lv_sub hl [0, 1, 2, 3] rfl)
        · have h := h.2 hc
          refine lv_aload_n hx hb dX7_apply_40 rfl (lv_at hl 0 rfl) ?_
          refine zr_ga (C := RX7) (T := TX7) (N := 14) (ci := 10) (k := 2) S hK hw zi_X7 rfl (by decide) zu_496 dX7_apply_41 h (fun sign_50 h => ?_)
          refine lv_iload_n hx hb dX7_apply_44 rfl (lv_at hl 3 rfl) ?_
          refine zr_iald S hK hw dX7_apply_45 h (fun e51 h => ?_)
          refine lv_if_ne (tgt := 56) hx hb dX7_apply_46 (by decide) (fun hc => ?_) (fun hc => ?_)
          · have h := h.1 hc
            exact sX7_apply_56 S hr hlocks hK  a0 a1 a2 a3 _ h _ _ _ hw (lv_sub hl [0, 1, 2, 3] rfl)
          · have h := h.2 hc
            refine lv_aload_n hx hb dX7_apply_49 rfl (lv_at hl 0 rfl) ?_
            refine lv_iconst (v := (1 : Int32)) hx hb dX7_apply_50 (by decide) ?_
            refine zr_p (C := RX7) (T := TX7) (N := 14) (ci := 10) (k := 0) S hK hw zi_X7 tyX7 tyX7_ok nmX7 rfl (by decide) zu_443 rfl rfl rfl dX7_apply_51 h (fun M52 H locs hw h => ?_)
            refine lv_iconst (v := (0 : Int32)) hx hb dX7_apply_54 (by decide) ?_
            exact zr_ri S hr hlocks hw h dX7_apply_55
      · have h := h.2 hc
        refine lv_iconst (v := (-1 : Int32)) hx hb dX7_apply_33 (by decide) ?_
        exact zr_ri S hr hlocks hw h dX7_apply_34
set_option maxHeartbeats 4000000 in
set_option maxRecDepth 100000 in
theorem sX7_power_117 {p : Program} {l : Launch} {e : Env} {s : State} {m : MethodId} {args : Array Value} {below : List Frame} {meth : Method} {c : Code} {lo : Nat} {g : zg} {post : Int32 → zm_M → Prop} {k180 : Nat → Int32 → Int32 → zm_M → Prop} (S : CallFix p m c cX7_power 5 s args zU RX7) (hr : meth.sig.returnType = (some .int)) (hlocks : meth.locks = false) (hK : zk_K zNF zNM g s) (hk180 : ∀ (v0 : Nat) (v1 : Int32) (v3 : Int32) (M : zm_M), k180 v0 v1 v3 M → ∀ (H : Heap) (locs : List Loc) (ls : Array Slot), zW lo g s H locs M → lv_has ls 5 [(0, .ref v0), (1, .int v1), (3, .int v3)] → W p l e ({ frames := 3, cells := 0, slots := 0, locals := 89 } : Room) s m args below meth c H locs 0 0 (MQ below (va_Qi post (zc_B lo g) (zA lo)) args s 0 0 (zA lo)) (F0 m 180 ls [])) : ∀ (n : Nat) (v0 : Nat) (v1 : Int32) (v3 : Int32) (v4 : Int32) (M : zm_M), pX7_power_117 g.2 post k180 n v0 v1 v3 v4 M → ∀ (H : Heap) (locs : List Loc) (ls : Array Slot), zW lo g s H locs M → lv_has ls 5 [(0, .ref v0), (1, .int v1), (3, .int v3), (4, .int v4)] → W p l e ({ frames := 3, cells := 0, slots := 0, locals := 89 } : Room) s m args below meth c H locs 0 0 (MQ below (va_Qi post (zc_B lo g) (zA lo)) args s 0 0 (zA lo)) (F0 m 117 ls []) := by
  obtain ⟨hx, hb, hml, hown, hts⟩ := id S
  intro n
  induction n with
  | zero =>
    intro v0 v1 v3 v4 M h
    exact False.elim h
  | succ n117 ih =>
    intro v0 v1 v3 v4 M h H locs ls hw hl
    rw [pX7_power_117] at h
    refine lv_iload hx hb dX7_power_117 (lv_at hl 3 rfl) ?_
    refine lv_iload_n hx hb dX7_power_119 rfl (lv_at hl 2 rfl) ?_
    refine lv_icmp_ge (tgt := 180) hx hb dX7_power_120 (by decide) (fun hc => ?_) (fun hc => ?_)
    · have h := h.1 hc
      exact hk180 v0 v1 v3 _ h _ _ _ hw (lv_sub hl [0, 1, 2] rfl)
    · have h := h.2 hc
      refine lv_aload_n hx hb dX7_power_123 rfl (lv_at hl 0 rfl) ?_
      refine lv_iconst (v := (4 : Int32)) hx hb dX7_power_124 (by decide) ?_
      refine lv_iconst (v := (0 : Int32)) hx hb dX7_power_125 (by decide) ?_
      refine lv_iconst (v := (2 : Int32)) hx hb dX7_power_126 (by decide) ?_
      obtain ⟨ho, h⟩ := h
      refine zr_Vv (As := [.int (4 : Int32), .int (0 : Int32), .int (2 : Int32)]) (rest := []) S hK hw (kX7_times l lo g M v0 (4 : Int32) (0 : Int32) (2 : Int32) _ h) (cwV 3 hts (zg_V zu_525 zu_526 zu_527 zu_450 zu_528) rfl rfl rfl (by decide +kernel) ⟨Nat.le_of_ble_eq_true rfl, Nat.le_of_ble_eq_true rfl⟩) (ci := 10) rfl ho rfl hl.1 rfl (Nat.le_of_ble_eq_true rfl) dX7_power_127 ⟨Nat.le_of_ble_eq_true rfl, Nat.le_of_ble_eq_true rfl⟩ (fun M15 H locs hw h => ?_)
      refine lv_aload_n hx hb dX7_power_130 rfl (lv_at hl 0 rfl) ?_
      refine lv_iconst (v := (0 : Int32)) hx hb dX7_power_131 (by decide) ?_
      refine lv_iconst (v := (4 : Int32)) hx hb dX7_power_132 (by decide) ?_
      obtain ⟨ho, h⟩ := h
      refine zr_Vv (As := [.int (0 : Int32), .int (4 : Int32)]) (rest := []) S hK hw (kX7_copy l lo g M15 v0 (0 : Int32) (4 : Int32) _ h) (cwV 2 hts (zg_V zu_465 zu_466 zu_467 zu_450 zu_468) rfl rfl rfl (by decide +kernel) ⟨Nat.le_of_ble_eq_true rfl, Nat.le_of_ble_eq_true rfl⟩) (ci := 10) rfl ho rfl hl.1 rfl (Nat.le_of_ble_eq_true rfl) dX7_power_133 ⟨Nat.le_of_ble_eq_true rfl, Nat.le_of_ble_eq_true rfl⟩ (fun M16 H locs hw h => ?_)
      refine lv_aload_n hx hb dX7_power_136 rfl (lv_at hl 0 rfl) ?_
      refine lv_iconst (v := (4 : Int32)) hx hb dX7_power_137 (by decide) ?_
      refine lv_iconst (v := (1 : Int32)) hx hb dX7_power_138 (by decide) ?_
      refine lv_iconst (v := (3 : Int32)) hx hb dX7_power_139 (by decide) ?_
      obtain ⟨ho, h⟩ := h
      refine zr_Vv (As := [.int (4 : Int32), .int (1 : Int32), .int (3 : Int32)]) (rest := []) S hK hw (kX7_times l lo g M16 v0 (4 : Int32) (1 : Int32) (3 : Int32) _ h) (cwV 3 hts (zg_V zu_525 zu_526 zu_527 zu_450 zu_528) rfl rfl rfl (by decide +kernel) ⟨Nat.le_of_ble_eq_true rfl, Nat.le_of_ble_eq_true rfl⟩) (ci := 10) rfl ho rfl hl.1 rfl (Nat.le_of_ble_eq_true rfl) dX7_power_140 ⟨Nat.le_of_ble_eq_true rfl, Nat.le_of_ble_eq_true rfl⟩ (fun M17 H locs hw h => ?_)
      refine lv_aload_n hx hb dX7_power_143 rfl (lv_at hl 0 rfl) ?_
      refine lv_iconst (v := (1 : Int32)) hx hb dX7_power_144 (by decide) ?_
      refine lv_iconst (v := (4 : Int32)) hx hb dX7_power_145 (by decide) ?_
      obtain ⟨ho, h⟩ := h
      refine zr_Vv (As := [.int (1 : Int32), .int (4 : Int32)]) (rest := []) S hK hw (kX7_copy l lo g M17 v0 (1 : Int32) (4 : Int32) _ h) (cwV 2 hts (zg_V zu_465 zu_466 zu_467 zu_450 zu_468) rfl rfl rfl (by decide +kernel) ⟨Nat.le_of_ble_eq_true rfl, Nat.le_of_ble_eq_true rfl⟩) (ci := 10) rfl ho rfl hl.1 rfl (Nat.le_of_ble_eq_true rfl) dX7_power_146 ⟨Nat.le_of_ble_eq_true rfl, Nat.le_of_ble_eq_true rfl⟩ (fun M18 H locs hw h => ?_)
      refine lv_aload_n hx hb dX7_power_149 rfl (lv_at hl 0 rfl) ?_
      refine lv_iconst (v := (0 : Int32)) hx hb dX7_power_150 (by decide) ?_
      obtain ⟨ho, h⟩ := h
      refine zr_Vi (As := [.int (0 : Int32)]) (rest := []) S hK hw (kX7_bits l lo g M18 v0 (0 : Int32) _ h) (cwV 1 hts (zg_V zu_488 zu_489 zu_490 zu_450 zu_491) rfl rfl rfl (by decide +kernel) ⟨Nat.le_of_ble_eq_true rfl, Nat.le_of_ble_eq_true rfl⟩) (ci := 10) rfl ho rfl hl.1 rfl (Nat.le_of_ble_eq_true rfl) dX7_power_151 ⟨Nat.le_of_ble_eq_true rfl, Nat.le_of_ble_eq_true rfl⟩ (fun r20 M19 H locs hw h => ?_)
      refine lv_sipush (v := (512 : Int32)) hx hb dX7_power_154 (by decide) ?_
      refine lv_icmp_gt (tgt := 171) hx hb dX7_power_157 (by decide) (fun hc => ?_) (fun hc => ?_)
      · have h := h.1 hc
        refine lv_bipush (v := (-4 : Int32)) hx hb dX7_power_171 (by decide) ?_
        exact zr_ri S hr hlocks hw h dX7_power_173
      · have h := h.2 hc
        refine lv_aload_n hx hb dX7_power_160 rfl (lv_at hl 0 rfl) ?_
        refine lv_iconst (v := (1 : Int32)) hx hb dX7_power_161 (by decide) ?_
        obtain ⟨ho, h⟩ := h
        refine zr_Vi (As := [.int (1 : Int32)]) (rest := []) S hK hw (kX7_bits l lo g M19 v0 (1 : Int32) _ h) (cwV 1 hts (zg_V zu_488 zu_489 zu_490 zu_450 zu_491) rfl rfl rfl (by decide +kernel) ⟨Nat.le_of_ble_eq_true rfl, Nat.le_of_ble_eq_true rfl⟩) (ci := 10) rfl ho rfl hl.1 rfl (Nat.le_of_ble_eq_true rfl) dX7_power_162 ⟨Nat.le_of_ble_eq_true rfl, Nat.le_of_ble_eq_true rfl⟩ (fun r22 M21 H locs hw h => ?_)
        refine lv_sipush (v := (512 : Int32)) hx hb dX7_power_165 (by decide) ?_
        refine lv_icmp_le (tgt := 174) hx hb dX7_power_168 (by decide) (fun hc => ?_) (fun hc => ?_)
        · have h := h.1 hc
          obtain ⟨x23, ex23⟩ : ∃ z : Int32, z = v4 + (1 : Int32) := ⟨_, rfl⟩
          have h := h x23 ex23
          refine lv_iinc (v := x23) (lv' := [(4, .int x23), (0, .ref v0), (1, .int v1), (3, .int v3)]) hx hb dX7_power_174 hl (k := 3) rfl (by rw [ex23]; rfl) (by decide) rfl (fun ls hl => ?_)
          refine lv_goto (tgt := 117) hx hb dX7_power_177 (by decide) ?_
          exact ih v0 v1 v3 x23 _ h _ _ _ hw (lv_sub hl [1, 2, 3, 0] rfl)
        · have h := h.2 hc
          refine lv_bipush (v := (-4 : Int32)) hx hb dX7_power_171 (by decide) ?_
          exact zr_ri S hr hlocks hw h dX7_power_173
set_option maxHeartbeats 4000000 in
set_option maxRecDepth 100000 in
theorem sX7_power_202 {p : Program} {l : Launch} {e : Env} {s : State} {m : MethodId} {args : Array Value} {below : List Frame} {meth : Method} {c : Code} {lo : Nat} {g : zg} {post : Int32 → zm_M → Prop}  (S : CallFix p m c cX7_power 5 s args zU RX7) (hr : meth.sig.returnType = (some .int)) (hlocks : meth.locks = false) (hK : zk_K zNF zNM g s)  : ∀ (s0 : Nat) (s1 : Int32) (M : zm_M), pX7_power_202 g.2 post  s0 s1 M → ∀ (H : Heap) (locs : List Loc) (ls : Array Slot), zW lo g s H locs M → lv_has ls 5 [] → W p l e ({ frames := 3, cells := 0, slots := 0, locals := 89 } : Room) s m args below meth c H locs 0 0 (MQ below (va_Qi post (zc_B lo g) (zA lo)) args s 0 0 (zA lo)) (F0 m 202 ls [.int s1, .ref s0]) := by
  obtain ⟨hx, hb, hml, hown, hts⟩ := id S
  intro s0 s1 M h H locs ls hw hl
  unfold pX7_power_202 at h
  obtain ⟨ho, h⟩ := h
  refine zr_Vi (As := [.int s1]) (rest := []) S hK hw (kX7_keep l lo g M s0 s1 _ h) (cwV 1 hts (zg_V zu_505 zu_506 zu_507 zu_450 zu_508) rfl rfl rfl (by decide +kernel) ⟨Nat.le_of_ble_eq_true rfl, Nat.le_of_ble_eq_true rfl⟩) (ci := 10) rfl ho rfl hl.1 rfl (Nat.le_of_ble_eq_true rfl) dX7_power_202 ⟨Nat.le_of_ble_eq_true rfl, Nat.le_of_ble_eq_true rfl⟩ (fun r31 M30 H locs hw h => ?_)
  exact zr_ri S hr hlocks hw h dX7_power_205
set_option maxHeartbeats 4000000 in
set_option maxRecDepth 100000 in
theorem sX7_power_201 {p : Program} {l : Launch} {e : Env} {s : State} {m : MethodId} {args : Array Value} {below : List Frame} {meth : Method} {c : Code} {lo : Nat} {g : zg} {post : Int32 → zm_M → Prop}  (S : CallFix p m c cX7_power 5 s args zU RX7) (hr : meth.sig.returnType = (some .int)) (hlocks : meth.locks = false) (hK : zk_K zNF zNM g s)  : ∀ (s0 : Nat) (M : zm_M), pX7_power_201 g.2 post  s0 M → ∀ (H : Heap) (locs : List Loc) (ls : Array Slot), zW lo g s H locs M → lv_has ls 5 [] → W p l e ({ frames := 3, cells := 0, slots := 0, locals := 89 } : Room) s m args below meth c H locs 0 0 (MQ below (va_Qi post (zc_B lo g) (zA lo)) args s 0 0 (zA lo)) (F0 m 201 ls [.ref s0]) := by
  obtain ⟨hx, hb, hml, hown, hts⟩ := id S
  intro s0 M h H locs ls hw hl
  unfold pX7_power_201 at h
  refine lv_iconst (v := (1 : Int32)) hx hb dX7_power_201 (by decide) ?_
  exact sX7_power_202 S hr hlocks hK  s0 (1 : Int32) _ h _ _ _ hw (lv_sub hl [] rfl)
set_option maxHeartbeats 4000000 in
set_option maxRecDepth 100000 in
theorem sX7_power_88 {p : Program} {l : Launch} {e : Env} {s : State} {m : MethodId} {args : Array Value} {below : List Frame} {meth : Method} {c : Code} {lo : Nat} {g : zg} {post : Int32 → zm_M → Prop}  (S : CallFix p m c cX7_power 5 s args zU RX7) (hr : meth.sig.returnType = (some .int)) (hlocks : meth.locks = false) (hK : zk_K zNF zNM g s)  : ∀ (v0 : Nat) (v1 : Int32) (v2 : Int32) (s0 : Nat) (s1 : Int32) (s2 : Int32) (s3 : Int32) (M : zm_M), pX7_power_88 g.2 post  v0 v1 v2 s0 s1 s2 s3 M → ∀ (H : Heap) (locs : List Loc) (ls : Array Slot), zW lo g s H locs M → lv_has ls 5 [(0, .ref v0), (1, .int v1), (2, .int v2)] → W p l e ({ frames := 3, cells := 0, slots := 0, locals := 89 } : Room) s m args below meth c H locs 0 0 (MQ below (va_Qi post (zc_B lo g) (zA lo)) args s 0 0 (zA lo)) (F0 m 88 ls [.int s3, .int s2, .int s1, .ref s0]) := by
  obtain ⟨hx, hb, hml, hown, hts⟩ := id S
  intro v0 v1 v2 s0 s1 s2 s3 M h H locs ls hw hl
  unfold pX7_power_88 at h
  obtain ⟨ho, h⟩ := h
  refine zr_Vv (As := [.int s1, .int s2, .int s3]) (rest := []) S hK hw (kX7_take l lo g M s0 s1 s2 s3 _ h) (cwV 3 hts (zg_V zu_521 zu_522 zu_523 zu_450 zu_524) rfl rfl rfl (by decide +kernel) ⟨Nat.le_of_ble_eq_true rfl, Nat.le_of_ble_eq_true rfl⟩) (ci := 10) rfl ho rfl hl.1 rfl (Nat.le_of_ble_eq_true rfl) dX7_power_88 ⟨Nat.le_of_ble_eq_true rfl, Nat.le_of_ble_eq_true rfl⟩ (fun M11 H locs hw h => ?_)
  refine lv_aload_n hx hb dX7_power_91 rfl (lv_at hl 0 rfl) ?_
  refine lv_iconst (v := (0 : Int32)) hx hb dX7_power_92 (by decide) ?_
  refine lv_lconst (v := (1 : Int64)) hx hb dX7_power_93 (by decide) ?_
  obtain ⟨ho, h⟩ := h
  refine zr_Vv (As := [.int (0 : Int32), .long (1 : Int64)]) (rest := []) S hK hw (kX7_small l lo g M11 v0 (0 : Int32) (1 : Int64) _ h) (cwV 2 hts (zg_V zu_509 zu_510 zu_511 zu_450 zu_512) rfl rfl rfl (by decide +kernel) ⟨Nat.le_of_ble_eq_true rfl, Nat.le_of_ble_eq_true rfl⟩) (ci := 10) rfl ho rfl hl.1 rfl (Nat.le_of_ble_eq_true rfl) dX7_power_94 ⟨Nat.le_of_ble_eq_true rfl, Nat.le_of_ble_eq_true rfl⟩ (fun M12 H locs hw h => ?_)
  refine lv_aload_n hx hb dX7_power_97 rfl (lv_at hl 0 rfl) ?_
  refine lv_iconst (v := (1 : Int32)) hx hb dX7_power_98 (by decide) ?_
  refine lv_lconst (v := (1 : Int64)) hx hb dX7_power_99 (by decide) ?_
  obtain ⟨ho, h⟩ := h
  refine zr_Vv (As := [.int (1 : Int32), .long (1 : Int64)]) (rest := []) S hK hw (kX7_small l lo g M12 v0 (1 : Int32) (1 : Int64) _ h) (cwV 2 hts (zg_V zu_509 zu_510 zu_511 zu_450 zu_512) rfl rfl rfl (by decide +kernel) ⟨Nat.le_of_ble_eq_true rfl, Nat.le_of_ble_eq_true rfl⟩) (ci := 10) rfl ho rfl hl.1 rfl (Nat.le_of_ble_eq_true rfl) dX7_power_100 ⟨Nat.le_of_ble_eq_true rfl, Nat.le_of_ble_eq_true rfl⟩ (fun M13 H locs hw h => ?_)
  refine lv_iload_n hx hb dX7_power_103 rfl (lv_at hl 2 rfl) ?_
  refine lv_if_ge (tgt := 112) hx hb dX7_power_104 (by decide) (fun hc => ?_) (fun hc => ?_)
  · have h := h.1 hc
    refine lv_iload_n hx hb dX7_power_112 rfl (lv_at hl 2 rfl) ?_
    refine lv_istore_n (lv' := [(3, .int v2), (0, .ref v0), (1, .int v1), (2, .int v2)]) hx hb dX7_power_113 rfl hl (by decide) rfl (fun ls hl => ?_)
    refine lv_iconst (v := (0 : Int32)) hx hb dX7_power_114 (by decide) ?_
    refine lv_topi (fun x14 ex14 => ?_)
    have h := h x14 ex14
    refine lv_istore (lv' := [(4, .int x14), (3, .int v2), (0, .ref v0), (1, .int v1), (2, .int v2)]) hx hb dX7_power_115 hl (by decide) rfl (fun ls hl => ?_)
    obtain ⟨n117, h⟩ := h
    refine sX7_power_117 S hr hlocks hK (fun w24 w25 w26 M27 h H locs ls hw hl => ?_) n117 v0 v1 v2 x14 _ h _ _ _ hw (lv_sub hl [2, 3, 1, 0] rfl)
    refine lv_aload_n hx hb dX7_power_180 rfl (lv_at hl 0 rfl) ?_
    refine lv_aload_n hx hb dX7_power_181 rfl (lv_at hl 0 rfl) ?_
    refine zr_ga (C := RX7) (T := TX7) (N := 14) (ci := 10) (k := 2) S hK hw zi_X7 rfl (by decide) zu_496 dX7_power_182 h (fun sign_28 h => ?_)
    refine lv_iload_n hx hb dX7_power_185 rfl (lv_at hl 1 rfl) ?_
    refine zr_iald S hK hw dX7_power_186 h (fun e29 h => ?_)
    refine lv_if_ge (tgt := 201) hx hb dX7_power_187 (by decide) (fun hc => ?_) (fun hc => ?_)
    · have h := h.1 hc
      exact sX7_power_201 S hr hlocks hK  w24 _ h _ _ _ hw (lv_sub hl [] rfl)
    · have h := h.2 hc
      refine lv_iload_n hx hb dX7_power_190 rfl (lv_at hl 2 rfl) ?_
      refine lv_iconst (v := (2 : Int32)) hx hb dX7_power_191 (by decide) ?_
      refine lv_irem hx hb dX7_power_192 (by decide) ?_
      refine lv_iconst (v := (1 : Int32)) hx hb dX7_power_193 (by decide) ?_
      refine lv_icmp_ne (tgt := 201) hx hb dX7_power_194 (by decide) (fun hc => ?_) (fun hc => ?_)
      · have h := h.1 hc
        exact sX7_power_201 S hr hlocks hK  w24 _ h _ _ _ hw (lv_sub hl [] rfl)
      · have h := h.2 hc
        refine lv_iconst (v := (-1 : Int32)) hx hb dX7_power_197 (by decide) ?_
        refine lv_goto (tgt := 202) hx hb dX7_power_198 (by decide) ?_
        exact sX7_power_202 S hr hlocks hK  w24 (-1 : Int32) _ h _ _ _ hw (lv_sub hl [] rfl)
  · have h := h.2 hc
    refine lv_iload_n hx hb dX7_power_107 rfl (lv_at hl 2 rfl) ?_
    refine lv_ineg hx hb dX7_power_108 ?_
    refine lv_goto (tgt := 113) hx hb dX7_power_109 (by decide) ?_
    refine lv_topi (fun x32 ex32 => ?_)
    have h := h x32 ex32
    refine lv_istore_n (lv' := [(3, .int x32), (0, .ref v0), (1, .int v1), (2, .int v2)]) hx hb dX7_power_113 rfl hl (by decide) rfl (fun ls hl => ?_)
    refine lv_iconst (v := (0 : Int32)) hx hb dX7_power_114 (by decide) ?_
    refine lv_topi (fun x33 ex33 => ?_)
    have h := h x33 ex33
    refine lv_istore (lv' := [(4, .int x33), (3, .int x32), (0, .ref v0), (1, .int v1), (2, .int v2)]) hx hb dX7_power_115 hl (by decide) rfl (fun ls hl => ?_)
    obtain ⟨n117, h⟩ := h
    refine sX7_power_117 S hr hlocks hK (fun w34 w35 w36 M37 h H locs ls hw hl => ?_) n117 v0 v1 x32 x33 _ h _ _ _ hw (lv_sub hl [2, 3, 1, 0] rfl)
    refine lv_aload_n hx hb dX7_power_180 rfl (lv_at hl 0 rfl) ?_
    refine lv_aload_n hx hb dX7_power_181 rfl (lv_at hl 0 rfl) ?_
    refine zr_ga (C := RX7) (T := TX7) (N := 14) (ci := 10) (k := 2) S hK hw zi_X7 rfl (by decide) zu_496 dX7_power_182 h (fun sign_38 h => ?_)
    refine lv_iload_n hx hb dX7_power_185 rfl (lv_at hl 1 rfl) ?_
    refine zr_iald S hK hw dX7_power_186 h (fun e39 h => ?_)
    refine lv_if_ge (tgt := 201) hx hb dX7_power_187 (by decide) (fun hc => ?_) (fun hc => ?_)
    · have h := h.1 hc
      exact sX7_power_201 S hr hlocks hK  w34 _ h _ _ _ hw (lv_sub hl [] rfl)
    · have h := h.2 hc
      refine lv_iload_n hx hb dX7_power_190 rfl (lv_at hl 2 rfl) ?_
      refine lv_iconst (v := (2 : Int32)) hx hb dX7_power_191 (by decide) ?_
      refine lv_irem hx hb dX7_power_192 (by decide) ?_
      refine lv_iconst (v := (1 : Int32)) hx hb dX7_power_193 (by decide) ?_
      refine lv_icmp_ne (tgt := 201) hx hb dX7_power_194 (by decide) (fun hc => ?_) (fun hc => ?_)
      · have h := h.1 hc
        exact sX7_power_201 S hr hlocks hK  w34 _ h _ _ _ hw (lv_sub hl [] rfl)
      · have h := h.2 hc
        refine lv_iconst (v := (-1 : Int32)) hx hb dX7_power_197 (by decide) ?_
        refine lv_goto (tgt := 202) hx hb dX7_power_198 (by decide) ?_
        exact sX7_power_202 S hr hlocks hK  w34 (-1 : Int32) _ h _ _ _ hw (lv_sub hl [] rfl)
set_option maxHeartbeats 4000000 in
set_option maxRecDepth 100000 in
theorem sX7_power_73 {p : Program} {l : Launch} {e : Env} {s : State} {m : MethodId} {args : Array Value} {below : List Frame} {meth : Method} {c : Code} {lo : Nat} {g : zg} {post : Int32 → zm_M → Prop}  (S : CallFix p m c cX7_power 5 s args zU RX7) (hr : meth.sig.returnType = (some .int)) (hlocks : meth.locks = false) (hK : zk_K zNF zNM g s)  : ∀ (v0 : Nat) (v1 : Int32) (v2 : Int32) (s0 : Nat) (s1 : Int32) (s2 : Int32) (s3 : Int32) (M : zm_M), pX7_power_73 g.2 post  v0 v1 v2 s0 s1 s2 s3 M → ∀ (H : Heap) (locs : List Loc) (ls : Array Slot), zW lo g s H locs M → lv_has ls 5 [(0, .ref v0), (1, .int v1), (2, .int v2)] → W p l e ({ frames := 3, cells := 0, slots := 0, locals := 89 } : Room) s m args below meth c H locs 0 0 (MQ below (va_Qi post (zc_B lo g) (zA lo)) args s 0 0 (zA lo)) (F0 m 73 ls [.int s3, .int s2, .int s1, .ref s0]) := by
  obtain ⟨hx, hb, hml, hown, hts⟩ := id S
  intro v0 v1 v2 s0 s1 s2 s3 M h H locs ls hw hl
  unfold pX7_power_73 at h
  obtain ⟨ho, h⟩ := h
  refine zr_Vv (As := [.int s1, .int s2, .int s3]) (rest := []) S hK hw (kX7_take l lo g M s0 s1 s2 s3 _ h) (cwV 3 hts (zg_V zu_521 zu_522 zu_523 zu_450 zu_524) rfl rfl rfl (by decide +kernel) ⟨Nat.le_of_ble_eq_true rfl, Nat.le_of_ble_eq_true rfl⟩) (ci := 10) rfl ho rfl hl.1 rfl (Nat.le_of_ble_eq_true rfl) dX7_power_73 ⟨Nat.le_of_ble_eq_true rfl, Nat.le_of_ble_eq_true rfl⟩ (fun M10 H locs hw h => ?_)
  refine lv_aload_n hx hb dX7_power_76 rfl (lv_at hl 0 rfl) ?_
  refine lv_iconst (v := (3 : Int32)) hx hb dX7_power_77 (by decide) ?_
  refine lv_iload_n hx hb dX7_power_78 rfl (lv_at hl 1 rfl) ?_
  refine lv_iload_n hx hb dX7_power_79 rfl (lv_at hl 2 rfl) ?_
  refine lv_if_ge (tgt := 87) hx hb dX7_power_80 (by decide) (fun hc => ?_) (fun hc => ?_)
  · have h := h.1 hc
    refine lv_iconst (v := (1 : Int32)) hx hb dX7_power_87 (by decide) ?_
    exact sX7_power_88 S hr hlocks hK  v0 v1 v2 v0 (3 : Int32) v1 (1 : Int32) _ h _ _ _ hw (lv_sub hl [0, 1, 2] rfl)
  · have h := h.2 hc
    refine lv_iconst (v := (0 : Int32)) hx hb dX7_power_83 (by decide) ?_
    refine lv_goto (tgt := 88) hx hb dX7_power_84 (by decide) ?_
    exact sX7_power_88 S hr hlocks hK  v0 v1 v2 v0 (3 : Int32) v1 (0 : Int32) _ h _ _ _ hw (lv_sub hl [0, 1, 2] rfl)
set_option maxHeartbeats 4000000 in
set_option maxRecDepth 100000 in
theorem sX7_power_49 {p : Program} {l : Launch} {e : Env} {s : State} {m : MethodId} {args : Array Value} {below : List Frame} {meth : Method} {c : Code} {lo : Nat} {g : zg} {post : Int32 → zm_M → Prop}  (S : CallFix p m c cX7_power 5 s args zU RX7) (hr : meth.sig.returnType = (some .int)) (hlocks : meth.locks = false) (hK : zk_K zNF zNM g s)  : ∀ (v0 : Nat) (v1 : Int32) (v2 : Int32) (M : zm_M), pX7_power_49 g.2 post  v0 v1 v2 M → ∀ (H : Heap) (locs : List Loc) (ls : Array Slot), zW lo g s H locs M → lv_has ls 5 [(0, .ref v0), (1, .int v1), (2, .int v2)] → W p l e ({ frames := 3, cells := 0, slots := 0, locals := 89 } : Room) s m args below meth c H locs 0 0 (MQ below (va_Qi post (zc_B lo g) (zA lo)) args s 0 0 (zA lo)) (F0 m 49 ls []) := by
  obtain ⟨hx, hb, hml, hown, hts⟩ := id S
  intro v0 v1 v2 M h H locs ls hw hl
  unfold pX7_power_49 at h
  refine lv_aload_n hx hb dX7_power_49 rfl (lv_at hl 0 rfl) ?_
  obtain ⟨ho, h⟩ := h
  refine zr_Vi (As := []) (rest := []) S hK hw (kX7_free l lo g M v0  _ h) (cwV 0 hts (zg_V zu_492 zu_493 zu_494 zu_450 zu_495) rfl rfl rfl (by decide +kernel) ⟨Nat.le_of_ble_eq_true rfl, Nat.le_of_ble_eq_true rfl⟩) (ci := 10) rfl ho rfl hl.1 rfl (Nat.le_of_ble_eq_true rfl) dX7_power_50 ⟨Nat.le_of_ble_eq_true rfl, Nat.le_of_ble_eq_true rfl⟩ (fun r9 M8 H locs hw h => ?_)
  refine lv_bipush (v := (-3 : Int32)) hx hb dX7_power_53 (by decide) ?_
  refine lv_icmp_ne (tgt := 61) hx hb dX7_power_55 (by decide) (fun hc => ?_) (fun hc => ?_)
  · have h := h.1 hc
    refine lv_aload_n hx hb dX7_power_61 rfl (lv_at hl 0 rfl) ?_
    refine lv_iconst (v := (2 : Int32)) hx hb dX7_power_62 (by decide) ?_
    refine lv_iload_n hx hb dX7_power_63 rfl (lv_at hl 1 rfl) ?_
    refine lv_iload_n hx hb dX7_power_64 rfl (lv_at hl 2 rfl) ?_
    refine lv_if_ge (tgt := 72) hx hb dX7_power_65 (by decide) (fun hc => ?_) (fun hc => ?_)
    · have h := h.1 hc
      refine lv_iconst (v := (0 : Int32)) hx hb dX7_power_72 (by decide) ?_
      exact sX7_power_73 S hr hlocks hK  v0 v1 v2 v0 (2 : Int32) v1 (0 : Int32) _ h _ _ _ hw (lv_sub hl [0, 1, 2] rfl)
    · have h := h.2 hc
      refine lv_iconst (v := (1 : Int32)) hx hb dX7_power_68 (by decide) ?_
      refine lv_goto (tgt := 73) hx hb dX7_power_69 (by decide) ?_
      exact sX7_power_73 S hr hlocks hK  v0 v1 v2 v0 (2 : Int32) v1 (1 : Int32) _ h _ _ _ hw (lv_sub hl [0, 1, 2] rfl)
  · have h := h.2 hc
    refine lv_bipush (v := (-3 : Int32)) hx hb dX7_power_58 (by decide) ?_
    exact zr_ri S hr hlocks hw h dX7_power_60
set_option maxHeartbeats 4000000 in
set_option maxRecDepth 100000 in
theorem kX7_power (l : Launch) (lo : Nat) (g : zg) (M : zm_M) (a0 : Nat) (a1 : Int32) (a2 : Int32) (post : Int32 → zm_M → Prop) (h : pX7_power g.2 a0 a1 a2 post M) : Met l yX7_power (Cond.code yX7_power cX7_power 5 (some .int) :: zU) (({ frames := 3, cells := 0, slots := 0, locals := 89 } : Room)) (zc_P zNF zNM lo g M [.ref a0, .int a1, .int a2]) (va_Qi post (zc_B lo g) (zA lo)) 0 0 (zA lo) := by
  refine Met.ofW (cc := cX7_power) (maxL := 5) (ret := (some .int)) (by decide) rfl ?_
  intro p e s m args below meth c s₁ B hml hv
  obtain ⟨rfl, hR, hK⟩ := hv
  have hts := atoms_spec (ws := Cond.code yX7_power cX7_power 5 (some .int) :: zU) B.pre
  have hts : ∀ w ∈ zU, w.before _ s = true := fun w hw => hts w (List.mem_cons_of_mem _ hw)
  have hown : s.vm.findClass RX7 = some m.cls := findClass_of_methodNamed B.named
  have hx := B.exec
  have hb := B.bytes
  have hr := B.returns
  have hlocks := B.notSynchronized
  have S : CallFix p m c cX7_power 5 s ([.ref a0, .int a1, .int a2] : List Value).toArray zU RX7 := ⟨hx, hb, hml, hown, hts⟩
  have hw : zW lo g s s.heap [] M := ⟨hR, va_S.rf⟩
  have hl := lv_entry ([.ref a0, .int a1, .int a2]) (n := 5) (Nat.le_of_ble_eq_true rfl)
  rw [lg_entry_eq]
  generalize (lg_sl ([.ref a0, .int a1, .int a2]) ++ List.replicate (5 - (lg_sl ([.ref a0, .int a1, .int a2])).length) Slot.unset).toArray = ls at hl ⊢
  have hl : lv_has ls 5 [(0, .ref a0), (1, .int a1), (2, .int a2)] := hl
  unfold pX7_power at h
  refine lv_aload_n hx hb dX7_power_0 rfl (lv_at hl 0 rfl) ?_
  refine lv_iconst (v := (0 : Int32)) hx hb dX7_power_1 (by decide) ?_
  refine zr_p (C := RX7) (T := TX7) (N := 14) (ci := 10) (k := 0) S hK hw zi_X7 tyX7 tyX7_ok nmX7 rfl (by decide) zu_443 rfl rfl rfl dX7_power_2 h (fun M1 H locs hw h => ?_)
  refine lv_aload_n hx hb dX7_power_5 rfl (lv_at hl 0 rfl) ?_
  refine lv_iload_n hx hb dX7_power_6 rfl (lv_at hl 1 rfl) ?_
  obtain ⟨ho, h⟩ := h
  refine zr_Vi (As := [.int a1]) (rest := []) S hK hw (kX7_isNumber l lo g M1 a0 a1 _ h) (cwV 1 hts (zg_V zu_517 zu_518 zu_519 zu_450 zu_520) rfl rfl rfl (by decide +kernel) ⟨Nat.le_of_ble_eq_true rfl, Nat.le_of_ble_eq_true rfl⟩) (ci := 10) rfl ho rfl hl.1 rfl (Nat.le_of_ble_eq_true rfl) dX7_power_7 ⟨Nat.le_of_ble_eq_true rfl, Nat.le_of_ble_eq_true rfl⟩ (fun r3 M2 H locs hw h => ?_)
  refine lv_if_eq (tgt := 27) hx hb dX7_power_10 (by decide) (fun hc => ?_) (fun hc => ?_)
  · have h := h.1 hc
    refine lv_iconst (v := (-1 : Int32)) hx hb dX7_power_27 (by decide) ?_
    exact zr_ri S hr hlocks hw h dX7_power_28
  · have h := h.2 hc
    refine lv_iload_n hx hb dX7_power_13 rfl (lv_at hl 2 rfl) ?_
    refine lv_i2l hx hb dX7_power_14 rfl ?_
    refine lv_ldc2 (v := (-512 : Int64)) hx hb hown (hts _ zu_542) dX7_power_15 ?_
    refine lv_ldc2 (v := (512 : Int64)) hx hb hown (hts _ zu_543) dX7_power_18 ?_
    refine zr_Si (As := [.long (a2.toInt64), .long (-512 : Int64), .long (512 : Int64)]) (rest := []) S hK hw (kX7_in l lo g M2 (a2.toInt64) (-512 : Int64) (512 : Int64) _ h) (va_cwS 3 hts (zg_S zu_482 zu_483 zu_450 zu_484) rfl rfl rfl (by decide +kernel) ⟨Nat.le_of_ble_eq_true rfl, Nat.le_of_ble_eq_true rfl⟩) rfl hl.1 rfl (Nat.le_of_ble_eq_true rfl) dX7_power_21 ⟨Nat.le_of_ble_eq_true rfl, Nat.le_of_ble_eq_true rfl⟩ (fun r5 M4 H locs hw h => ?_)
    refine lv_if_ne (tgt := 29) hx hb dX7_power_24 (by decide) (fun hc => ?_) (fun hc => ?_)
    · have h := h.1 hc
      refine lv_aload_n hx hb dX7_power_29 rfl (lv_at hl 0 rfl) ?_
      refine zr_ga (C := RX7) (T := TX7) (N := 14) (ci := 10) (k := 2) S hK hw zi_X7 rfl (by decide) zu_496 dX7_power_30 h (fun sign_6 h => ?_)
      refine lv_iload_n hx hb dX7_power_33 rfl (lv_at hl 1 rfl) ?_
      refine zr_iald S hK hw dX7_power_34 h (fun e7 h => ?_)
      refine lv_if_ne (tgt := 49) hx hb dX7_power_35 (by decide) (fun hc => ?_) (fun hc => ?_)
      · have h := h.1 hc
        exact sX7_power_49 S hr hlocks hK  a0 a1 a2 _ h _ _ _ hw (lv_sub hl [0, 1, 2] rfl)
      · have h := h.2 hc
        refine lv_iload_n hx hb dX7_power_38 rfl (lv_at hl 2 rfl) ?_
        refine lv_if_ge (tgt := 49) hx hb dX7_power_39 (by decide) (fun hc => ?_) (fun hc => ?_)
        · have h := h.1 hc
          exact sX7_power_49 S hr hlocks hK  a0 a1 a2 _ h _ _ _ hw (lv_sub hl [0, 1, 2] rfl)
        · have h := h.2 hc
          refine lv_aload_n hx hb dX7_power_42 rfl (lv_at hl 0 rfl) ?_
          refine lv_iconst (v := (1 : Int32)) hx hb dX7_power_43 (by decide) ?_
          refine zr_p (C := RX7) (T := TX7) (N := 14) (ci := 10) (k := 0) S hK hw zi_X7 tyX7 tyX7_ok nmX7 rfl (by decide) zu_443 rfl rfl rfl dX7_power_44 h (fun M40 H locs hw h => ?_)
          refine lv_iconst (v := (0 : Int32)) hx hb dX7_power_47 (by decide) ?_
          exact zr_ri S hr hlocks hw h dX7_power_48
    · have h := h.2 hc
      refine lv_iconst (v := (-1 : Int32)) hx hb dX7_power_27 (by decide) ?_
      exact zr_ri S hr hlocks hw h dX7_power_28
set_option maxHeartbeats 4000000 in
set_option maxRecDepth 100000 in
theorem sX7_floor_86 {p : Program} {l : Launch} {e : Env} {s : State} {m : MethodId} {args : Array Value} {below : List Frame} {meth : Method} {c : Code} {lo : Nat} {g : zg} {post : Int32 → zm_M → Prop}  (S : CallFix p m c cX7_floor 2 s args zU RX7) (hr : meth.sig.returnType = (some .int)) (hlocks : meth.locks = false) (hK : zk_K zNF zNM g s)  : ∀ (v0 : Nat) (v1 : Int32) (M : zm_M), pX7_floor_86 g.2 post  v0 v1 M → ∀ (H : Heap) (locs : List Loc) (ls : Array Slot), zW lo g s H locs M → lv_has ls 2 [(0, .ref v0), (1, .int v1)] → W p l e ({ frames := 4, cells := 0, slots := 0, locals := 112 } : Room) s m args below meth c H locs 0 0 (MQ below (va_Qi post (zc_B lo g) (zA lo)) args s 0 0 (zA lo)) (F0 m 86 ls []) := by
  obtain ⟨hx, hb, hml, hown, hts⟩ := id S
  intro v0 v1 M h H locs ls hw hl
  unfold pX7_floor_86 at h
  refine lv_aload_n hx hb dX7_floor_86 rfl (lv_at hl 0 rfl) ?_
  refine zr_ga (C := RX7) (T := TX7) (N := 14) (ci := 10) (k := 2) S hK hw zi_X7 rfl (by decide) zu_496 dX7_floor_87 h (fun sign_6 h => ?_)
  refine lv_iload_n hx hb dX7_floor_90 rfl (lv_at hl 1 rfl) ?_
  refine zr_iald S hK hw dX7_floor_91 h (fun e7 h => ?_)
  refine lv_if_ge (tgt := 99) hx hb dX7_floor_92 (by decide) (fun hc => ?_) (fun hc => ?_)
  · have h := h.1 hc
    refine lv_iconst (v := (1 : Int32)) hx hb dX7_floor_99 (by decide) ?_
    exact zr_ri S hr hlocks hw h dX7_floor_100
  · have h := h.2 hc
    refine lv_iconst (v := (-1 : Int32)) hx hb dX7_floor_95 (by decide) ?_
    refine lv_goto (tgt := 100) hx hb dX7_floor_96 (by decide) ?_
    exact zr_ri S hr hlocks hw h dX7_floor_100
set_option maxHeartbeats 4000000 in
set_option maxRecDepth 100000 in
theorem kX7_floor (l : Launch) (lo : Nat) (g : zg) (M : zm_M) (a0 : Nat) (a1 : Int32) (post : Int32 → zm_M → Prop) (h : pX7_floor g.2 a0 a1 post M) : Met l yX7_floor (Cond.code yX7_floor cX7_floor 2 (some .int) :: zU) (({ frames := 4, cells := 0, slots := 0, locals := 112 } : Room)) (zc_P zNF zNM lo g M [.ref a0, .int a1]) (va_Qi post (zc_B lo g) (zA lo)) 0 0 (zA lo) := by
  refine Met.ofW (cc := cX7_floor) (maxL := 2) (ret := (some .int)) (by decide) rfl ?_
  intro p e s m args below meth c s₁ B hml hv
  obtain ⟨rfl, hR, hK⟩ := hv
  have hts := atoms_spec (ws := Cond.code yX7_floor cX7_floor 2 (some .int) :: zU) B.pre
  have hts : ∀ w ∈ zU, w.before _ s = true := fun w hw => hts w (List.mem_cons_of_mem _ hw)
  have hown : s.vm.findClass RX7 = some m.cls := findClass_of_methodNamed B.named
  have hx := B.exec
  have hb := B.bytes
  have hr := B.returns
  have hlocks := B.notSynchronized
  have S : CallFix p m c cX7_floor 2 s ([.ref a0, .int a1] : List Value).toArray zU RX7 := ⟨hx, hb, hml, hown, hts⟩
  have hw : zW lo g s s.heap [] M := ⟨hR, va_S.rf⟩
  have hl := lv_entry ([.ref a0, .int a1]) (n := 2) (Nat.le_of_ble_eq_true rfl)
  rw [lg_entry_eq]
  generalize (lg_sl ([.ref a0, .int a1]) ++ List.replicate (2 - (lg_sl ([.ref a0, .int a1])).length) Slot.unset).toArray = ls at hl ⊢
  have hl : lv_has ls 2 [(0, .ref a0), (1, .int a1)] := hl
  unfold pX7_floor at h
  refine lv_aload_n hx hb dX7_floor_0 rfl (lv_at hl 0 rfl) ?_
  refine lv_bipush (v := (13 : Int32)) hx hb dX7_floor_1 (by decide) ?_
  refine lv_iload_n hx hb dX7_floor_3 rfl (lv_at hl 1 rfl) ?_
  refine lv_iconst (v := (0 : Int32)) hx hb dX7_floor_4 (by decide) ?_
  obtain ⟨ho, h⟩ := h
  refine zr_Vv (As := [.int (13 : Int32), .int a1, .int (0 : Int32)]) (rest := []) S hK hw (kX7_take l lo g M a0 (13 : Int32) a1 (0 : Int32) _ h) (cwV 3 hts (zg_V zu_521 zu_522 zu_523 zu_450 zu_524) rfl rfl rfl (by decide +kernel) ⟨Nat.le_of_ble_eq_true rfl, Nat.le_of_ble_eq_true rfl⟩) (ci := 10) rfl ho rfl hl.1 rfl (Nat.le_of_ble_eq_true rfl) dX7_floor_5 ⟨Nat.le_of_ble_eq_true rfl, Nat.le_of_ble_eq_true rfl⟩ (fun M1 H locs hw h => ?_)
  refine lv_aload_n hx hb dX7_floor_8 rfl (lv_at hl 0 rfl) ?_
  refine lv_bipush (v := (11 : Int32)) hx hb dX7_floor_9 (by decide) ?_
  refine lv_iload_n hx hb dX7_floor_11 rfl (lv_at hl 1 rfl) ?_
  refine lv_iconst (v := (1 : Int32)) hx hb dX7_floor_12 (by decide) ?_
  obtain ⟨ho, h⟩ := h
  refine zr_Vv (As := [.int (11 : Int32), .int a1, .int (1 : Int32)]) (rest := []) S hK hw (kX7_take l lo g M1 a0 (11 : Int32) a1 (1 : Int32) _ h) (cwV 3 hts (zg_V zu_521 zu_522 zu_523 zu_450 zu_524) rfl rfl rfl (by decide +kernel) ⟨Nat.le_of_ble_eq_true rfl, Nat.le_of_ble_eq_true rfl⟩) (ci := 10) rfl ho rfl hl.1 rfl (Nat.le_of_ble_eq_true rfl) dX7_floor_13 ⟨Nat.le_of_ble_eq_true rfl, Nat.le_of_ble_eq_true rfl⟩ (fun M2 H locs hw h => ?_)
  refine lv_aload_n hx hb dX7_floor_16 rfl (lv_at hl 0 rfl) ?_
  refine lv_bipush (v := (10 : Int32)) hx hb dX7_floor_17 (by decide) ?_
  refine lv_bipush (v := (12 : Int32)) hx hb dX7_floor_19 (by decide) ?_
  refine lv_bipush (v := (13 : Int32)) hx hb dX7_floor_21 (by decide) ?_
  refine lv_bipush (v := (11 : Int32)) hx hb dX7_floor_23 (by decide) ?_
  obtain ⟨ho, h⟩ := h
  refine zr_Vv (As := [.int (10 : Int32), .int (12 : Int32), .int (13 : Int32), .int (11 : Int32)]) (rest := []) S hK hw (kX7_divide l lo g M2 a0 (10 : Int32) (12 : Int32) (13 : Int32) (11 : Int32) _ h) (cwV 4 hts (zg_V zu_501 zu_502 zu_503 zu_450 zu_504) rfl rfl rfl (by decide +kernel) ⟨Nat.le_of_ble_eq_true rfl, Nat.le_of_ble_eq_true rfl⟩) (ci := 10) rfl ho rfl hl.1 rfl (Nat.le_of_ble_eq_true rfl) dX7_floor_25 ⟨Nat.le_of_ble_eq_true rfl, Nat.le_of_ble_eq_true rfl⟩ (fun M3 H locs hw h => ?_)
  refine lv_aload_n hx hb dX7_floor_28 rfl (lv_at hl 0 rfl) ?_
  refine zr_ga (C := RX7) (T := TX7) (N := 14) (ci := 10) (k := 2) S hK hw zi_X7 rfl (by decide) zu_496 dX7_floor_29 h (fun sign_4 h => ?_)
  refine lv_iload_n hx hb dX7_floor_32 rfl (lv_at hl 1 rfl) ?_
  refine zr_iald S hK hw dX7_floor_33 h (fun e5 h => ?_)
  refine lv_if_ge (tgt := 86) hx hb dX7_floor_34 (by decide) (fun hc => ?_) (fun hc => ?_)
  · have h := h.1 hc
    exact sX7_floor_86 S hr hlocks hK  a0 a1 _ h _ _ _ hw (lv_sub hl [0, 1] rfl)
  · have h := h.2 hc
    refine lv_aload_n hx hb dX7_floor_37 rfl (lv_at hl 0 rfl) ?_
    refine zr_ga (C := RX7) (T := TX7) (N := 14) (ci := 10) (k := 10) S hK hw zi_X7 rfl (by decide) zu_444 dX7_floor_38 h (fun n_8 h => ?_)
    refine lv_bipush (v := (12 : Int32)) hx hb dX7_floor_41 (by decide) ?_
    refine zr_iald S hK hw dX7_floor_43 h (fun e9 h => ?_)
    refine lv_if_le (tgt := 86) hx hb dX7_floor_44 (by decide) (fun hc => ?_) (fun hc => ?_)
    · have h := h.1 hc
      exact sX7_floor_86 S hr hlocks hK  a0 a1 _ h _ _ _ hw (lv_sub hl [0, 1] rfl)
    · have h := h.2 hc
      refine lv_aload_n hx hb dX7_floor_47 rfl (lv_at hl 0 rfl) ?_
      refine lv_bipush (v := (14 : Int32)) hx hb dX7_floor_48 (by decide) ?_
      refine lv_lconst (v := (1 : Int64)) hx hb dX7_floor_50 (by decide) ?_
      obtain ⟨ho, h⟩ := h
      refine zr_Vv (As := [.int (14 : Int32), .long (1 : Int64)]) (rest := []) S hK hw (kX7_small l lo g M3 a0 (14 : Int32) (1 : Int64) _ h) (cwV 2 hts (zg_V zu_509 zu_510 zu_511 zu_450 zu_512) rfl rfl rfl (by decide +kernel) ⟨Nat.le_of_ble_eq_true rfl, Nat.le_of_ble_eq_true rfl⟩) (ci := 10) rfl ho rfl hl.1 rfl (Nat.le_of_ble_eq_true rfl) dX7_floor_51 ⟨Nat.le_of_ble_eq_true rfl, Nat.le_of_ble_eq_true rfl⟩ (fun M10 H locs hw h => ?_)
      refine lv_aload_n hx hb dX7_floor_54 rfl (lv_at hl 0 rfl) ?_
      refine lv_bipush (v := (10 : Int32)) hx hb dX7_floor_55 (by decide) ?_
      refine lv_bipush (v := (14 : Int32)) hx hb dX7_floor_57 (by decide) ?_
      obtain ⟨ho, h⟩ := h
      refine zr_Vv (As := [.int (10 : Int32), .int (14 : Int32)]) (rest := []) S hK hw (kX7_add l lo g M10 a0 (10 : Int32) (14 : Int32) _ h) (cwV 2 hts (zg_V zu_533 zu_534 zu_535 zu_450 zu_536) rfl rfl rfl (by decide +kernel) ⟨Nat.le_of_ble_eq_true rfl, Nat.le_of_ble_eq_true rfl⟩) (ci := 10) rfl ho rfl hl.1 rfl (Nat.le_of_ble_eq_true rfl) dX7_floor_59 ⟨Nat.le_of_ble_eq_true rfl, Nat.le_of_ble_eq_true rfl⟩ (fun M11 H locs hw h => ?_)
      refine lv_aload_n hx hb dX7_floor_62 rfl (lv_at hl 0 rfl) ?_
      refine lv_bipush (v := (14 : Int32)) hx hb dX7_floor_63 (by decide) ?_
      refine lv_bipush (v := (11 : Int32)) hx hb dX7_floor_65 (by decide) ?_
      obtain ⟨ho, h⟩ := h
      refine zr_Vv (As := [.int (14 : Int32), .int (11 : Int32)]) (rest := []) S hK hw (kX7_copy l lo g M11 a0 (14 : Int32) (11 : Int32) _ h) (cwV 2 hts (zg_V zu_465 zu_466 zu_467 zu_450 zu_468) rfl rfl rfl (by decide +kernel) ⟨Nat.le_of_ble_eq_true rfl, Nat.le_of_ble_eq_true rfl⟩) (ci := 10) rfl ho rfl hl.1 rfl (Nat.le_of_ble_eq_true rfl) dX7_floor_67 ⟨Nat.le_of_ble_eq_true rfl, Nat.le_of_ble_eq_true rfl⟩ (fun M12 H locs hw h => ?_)
      refine lv_aload_n hx hb dX7_floor_70 rfl (lv_at hl 0 rfl) ?_
      refine lv_bipush (v := (14 : Int32)) hx hb dX7_floor_71 (by decide) ?_
      refine lv_bipush (v := (12 : Int32)) hx hb dX7_floor_73 (by decide) ?_
      obtain ⟨ho, h⟩ := h
      refine zr_Vv (As := [.int (14 : Int32), .int (12 : Int32)]) (rest := []) S hK hw (kX7_less l lo g M12 a0 (14 : Int32) (12 : Int32) _ h) (cwV 2 hts (zg_V zu_461 zu_462 zu_463 zu_450 zu_464) rfl rfl rfl (by decide +kernel) ⟨Nat.le_of_ble_eq_true rfl, Nat.le_of_ble_eq_true rfl⟩) (ci := 10) rfl ho rfl hl.1 rfl (Nat.le_of_ble_eq_true rfl) dX7_floor_75 ⟨Nat.le_of_ble_eq_true rfl, Nat.le_of_ble_eq_true rfl⟩ (fun M13 H locs hw h => ?_)
      refine lv_aload_n hx hb dX7_floor_78 rfl (lv_at hl 0 rfl) ?_
      refine lv_bipush (v := (12 : Int32)) hx hb dX7_floor_79 (by decide) ?_
      refine lv_bipush (v := (14 : Int32)) hx hb dX7_floor_81 (by decide) ?_
      obtain ⟨ho, h⟩ := h
      refine zr_Vv (As := [.int (12 : Int32), .int (14 : Int32)]) (rest := []) S hK hw (kX7_copy l lo g M13 a0 (12 : Int32) (14 : Int32) _ h) (cwV 2 hts (zg_V zu_465 zu_466 zu_467 zu_450 zu_468) rfl rfl rfl (by decide +kernel) ⟨Nat.le_of_ble_eq_true rfl, Nat.le_of_ble_eq_true rfl⟩) (ci := 10) rfl ho rfl hl.1 rfl (Nat.le_of_ble_eq_true rfl) dX7_floor_83 ⟨Nat.le_of_ble_eq_true rfl, Nat.le_of_ble_eq_true rfl⟩ (fun M14 H locs hw h => ?_)
      exact sX7_floor_86 S hr hlocks hK  a0 a1 _ h _ _ _ hw (lv_sub hl [0, 1] rfl)
set_option maxHeartbeats 4000000 in
set_option maxRecDepth 100000 in
theorem sX7_near_174 {p : Program} {l : Launch} {e : Env} {s : State} {m : MethodId} {args : Array Value} {below : List Frame} {meth : Method} {c : Code} {lo : Nat} {g : zg} {post : Int32 → zm_M → Prop}  (S : CallFix p m c cX7_near 6 s args zU RX7) (hr : meth.sig.returnType = (some .int)) (hlocks : meth.locks = false) (hK : zk_K zNF zNM g s)  : ∀ (v0 : Nat) (v3 : Int32) (M : zm_M), pX7_near_174 g.2 post  v0 v3 M → ∀ (H : Heap) (locs : List Loc) (ls : Array Slot), zW lo g s H locs M → lv_has ls 6 [(0, .ref v0), (3, .int v3)] → W p l e ({ frames := 5, cells := 0, slots := 0, locals := 133 } : Room) s m args below meth c H locs 0 0 (MQ below (va_Qi post (zc_B lo g) (zA lo)) args s 0 0 (zA lo)) (F0 m 174 ls []) := by
  obtain ⟨hx, hb, hml, hown, hts⟩ := id S
  intro v0 v3 M h H locs ls hw hl
  unfold pX7_near_174 at h
  refine lv_aload_n hx hb dX7_near_174 rfl (lv_at hl 0 rfl) ?_
  refine lv_bipush (v := (10 : Int32)) hx hb dX7_near_175 (by decide) ?_
  refine lv_iload_n hx hb dX7_near_177 rfl (lv_at hl 1 rfl) ?_
  obtain ⟨ho, h⟩ := h
  refine zr_Vi (As := [.int (10 : Int32), .int v3]) (rest := []) S hK hw (kX7_keepWhole l lo g M v0 (10 : Int32) v3 _ h) (cwV 2 hts (zg_V zu_513 zu_514 zu_515 zu_450 zu_516) rfl rfl rfl (by decide +kernel) ⟨Nat.le_of_ble_eq_true rfl, Nat.le_of_ble_eq_true rfl⟩) (ci := 10) rfl ho rfl hl.1 rfl (Nat.le_of_ble_eq_true rfl) dX7_near_178 ⟨Nat.le_of_ble_eq_true rfl, Nat.le_of_ble_eq_true rfl⟩ (fun r11 M10 H locs hw h => ?_)
  exact zr_ri S hr hlocks hw h dX7_near_181
set_option maxHeartbeats 4000000 in
set_option maxRecDepth 100000 in
theorem sX7_near_139 {p : Program} {l : Launch} {e : Env} {s : State} {m : MethodId} {args : Array Value} {below : List Frame} {meth : Method} {c : Code} {lo : Nat} {g : zg} {post : Int32 → zm_M → Prop}  (S : CallFix p m c cX7_near 6 s args zU RX7) (hr : meth.sig.returnType = (some .int)) (hlocks : meth.locks = false) (hK : zk_K zNF zNM g s)  : ∀ (v0 : Nat) (v3 : Int32) (v4 : Int32) (M : zm_M), pX7_near_139 g.2 post  v0 v3 v4 M → ∀ (H : Heap) (locs : List Loc) (ls : Array Slot), zW lo g s H locs M → lv_has ls 6 [(0, .ref v0), (3, .int v3), (4, .int v4)] → W p l e ({ frames := 5, cells := 0, slots := 0, locals := 133 } : Room) s m args below meth c H locs 0 0 (MQ below (va_Qi post (zc_B lo g) (zA lo)) args s 0 0 (zA lo)) (F0 m 139 ls []) := by
  obtain ⟨hx, hb, hml, hown, hts⟩ := id S
  intro v0 v3 v4 M h H locs ls hw hl
  unfold pX7_near_139 at h
  refine lv_iload hx hb dX7_near_139 (lv_at hl 2 rfl) ?_
  refine lv_if_eq (tgt := 174) hx hb dX7_near_141 (by decide) (fun hc => ?_) (fun hc => ?_)
  · have h := h.1 hc
    exact sX7_near_174 S hr hlocks hK  v0 v3 _ h _ _ _ hw (lv_sub hl [0, 1] rfl)
  · have h := h.2 hc
    refine lv_aload_n hx hb dX7_near_144 rfl (lv_at hl 0 rfl) ?_
    refine lv_bipush (v := (14 : Int32)) hx hb dX7_near_145 (by decide) ?_
    refine lv_lconst (v := (1 : Int64)) hx hb dX7_near_147 (by decide) ?_
    obtain ⟨ho, h⟩ := h
    refine zr_Vv (As := [.int (14 : Int32), .long (1 : Int64)]) (rest := []) S hK hw (kX7_small l lo g M v0 (14 : Int32) (1 : Int64) _ h) (cwV 2 hts (zg_V zu_509 zu_510 zu_511 zu_450 zu_512) rfl rfl rfl (by decide +kernel) ⟨Nat.le_of_ble_eq_true rfl, Nat.le_of_ble_eq_true rfl⟩) (ci := 10) rfl ho rfl hl.1 rfl (Nat.le_of_ble_eq_true rfl) dX7_near_148 ⟨Nat.le_of_ble_eq_true rfl, Nat.le_of_ble_eq_true rfl⟩ (fun M12 H locs hw h => ?_)
    refine lv_iload_n hx hb dX7_near_151 rfl (lv_at hl 1 rfl) ?_
    refine lv_if_ge (tgt := 166) hx hb dX7_near_152 (by decide) (fun hc => ?_) (fun hc => ?_)
    · have h := h.1 hc
      refine lv_aload_n hx hb dX7_near_166 rfl (lv_at hl 0 rfl) ?_
      refine lv_bipush (v := (10 : Int32)) hx hb dX7_near_167 (by decide) ?_
      refine lv_bipush (v := (14 : Int32)) hx hb dX7_near_169 (by decide) ?_
      obtain ⟨ho, h⟩ := h
      refine zr_Vv (As := [.int (10 : Int32), .int (14 : Int32)]) (rest := []) S hK hw (kX7_add l lo g M12 v0 (10 : Int32) (14 : Int32) _ h) (cwV 2 hts (zg_V zu_533 zu_534 zu_535 zu_450 zu_536) rfl rfl rfl (by decide +kernel) ⟨Nat.le_of_ble_eq_true rfl, Nat.le_of_ble_eq_true rfl⟩) (ci := 10) rfl ho rfl hl.1 rfl (Nat.le_of_ble_eq_true rfl) dX7_near_171 ⟨Nat.le_of_ble_eq_true rfl, Nat.le_of_ble_eq_true rfl⟩ (fun M13 H locs hw h => ?_)
      exact sX7_near_174 S hr hlocks hK  v0 v3 _ h _ _ _ hw (lv_sub hl [0, 1] rfl)
    · have h := h.2 hc
      refine lv_aload_n hx hb dX7_near_155 rfl (lv_at hl 0 rfl) ?_
      refine lv_bipush (v := (10 : Int32)) hx hb dX7_near_156 (by decide) ?_
      refine lv_bipush (v := (14 : Int32)) hx hb dX7_near_158 (by decide) ?_
      obtain ⟨ho, h⟩ := h
      refine zr_Vv (As := [.int (10 : Int32), .int (14 : Int32)]) (rest := []) S hK hw (kX7_less l lo g M12 v0 (10 : Int32) (14 : Int32) _ h) (cwV 2 hts (zg_V zu_461 zu_462 zu_463 zu_450 zu_464) rfl rfl rfl (by decide +kernel) ⟨Nat.le_of_ble_eq_true rfl, Nat.le_of_ble_eq_true rfl⟩) (ci := 10) rfl ho rfl hl.1 rfl (Nat.le_of_ble_eq_true rfl) dX7_near_160 ⟨Nat.le_of_ble_eq_true rfl, Nat.le_of_ble_eq_true rfl⟩ (fun M14 H locs hw h => ?_)
      refine lv_goto (tgt := 174) hx hb dX7_near_163 (by decide) ?_
      exact sX7_near_174 S hr hlocks hK  v0 v3 _ h _ _ _ hw (lv_sub hl [0, 1] rfl)
set_option maxHeartbeats 4000000 in
set_option maxRecDepth 100000 in
theorem sX7_near_137 {p : Program} {l : Launch} {e : Env} {s : State} {m : MethodId} {args : Array Value} {below : List Frame} {meth : Method} {c : Code} {lo : Nat} {g : zg} {post : Int32 → zm_M → Prop}  (S : CallFix p m c cX7_near 6 s args zU RX7) (hr : meth.sig.returnType = (some .int)) (hlocks : meth.locks = false) (hK : zk_K zNF zNM g s)  : ∀ (v0 : Nat) (v3 : Int32) (s0 : Int32) (M : zm_M), pX7_near_137 g.2 post  v0 v3 s0 M → ∀ (H : Heap) (locs : List Loc) (ls : Array Slot), zW lo g s H locs M → lv_has ls 6 [(0, .ref v0), (3, .int v3)] → W p l e ({ frames := 5, cells := 0, slots := 0, locals := 133 } : Room) s m args below meth c H locs 0 0 (MQ below (va_Qi post (zc_B lo g) (zA lo)) args s 0 0 (zA lo)) (F0 m 137 ls [.int s0]) := by
  obtain ⟨hx, hb, hml, hown, hts⟩ := id S
  intro v0 v3 s0 M h H locs ls hw hl
  unfold pX7_near_137 at h
  refine lv_istore (lv' := [(4, .int s0), (0, .ref v0), (3, .int v3)]) hx hb dX7_near_137 hl (by decide) rfl (fun ls hl => ?_)
  exact sX7_near_139 S hr hlocks hK  v0 v3 s0 _ h _ _ _ hw (lv_sub hl [1, 2, 0] rfl)
set_option maxHeartbeats 4000000 in
set_option maxRecDepth 100000 in
theorem sX7_near_132 {p : Program} {l : Launch} {e : Env} {s : State} {m : MethodId} {args : Array Value} {below : List Frame} {meth : Method} {c : Code} {lo : Nat} {g : zg} {post : Int32 → zm_M → Prop}  (S : CallFix p m c cX7_near 6 s args zU RX7) (hr : meth.sig.returnType = (some .int)) (hlocks : meth.locks = false) (hK : zk_K zNF zNM g s)  : ∀ (v0 : Nat) (v3 : Int32) (M : zm_M), pX7_near_132 g.2 post  v0 v3 M → ∀ (H : Heap) (locs : List Loc) (ls : Array Slot), zW lo g s H locs M → lv_has ls 6 [(0, .ref v0), (3, .int v3)] → W p l e ({ frames := 5, cells := 0, slots := 0, locals := 133 } : Room) s m args below meth c H locs 0 0 (MQ below (va_Qi post (zc_B lo g) (zA lo)) args s 0 0 (zA lo)) (F0 m 132 ls []) := by
  obtain ⟨hx, hb, hml, hown, hts⟩ := id S
  intro v0 v3 M h H locs ls hw hl
  unfold pX7_near_132 at h
  refine lv_iconst (v := (1 : Int32)) hx hb dX7_near_132 (by decide) ?_
  refine lv_goto (tgt := 137) hx hb dX7_near_133 (by decide) ?_
  exact sX7_near_137 S hr hlocks hK  v0 v3 (1 : Int32) _ h _ _ _ hw (lv_sub hl [0, 1] rfl)
set_option maxHeartbeats 4000000 in
set_option maxRecDepth 100000 in
theorem sX7_near_136 {p : Program} {l : Launch} {e : Env} {s : State} {m : MethodId} {args : Array Value} {below : List Frame} {meth : Method} {c : Code} {lo : Nat} {g : zg} {post : Int32 → zm_M → Prop}  (S : CallFix p m c cX7_near 6 s args zU RX7) (hr : meth.sig.returnType = (some .int)) (hlocks : meth.locks = false) (hK : zk_K zNF zNM g s)  : ∀ (v0 : Nat) (v3 : Int32) (M : zm_M), pX7_near_136 g.2 post  v0 v3 M → ∀ (H : Heap) (locs : List Loc) (ls : Array Slot), zW lo g s H locs M → lv_has ls 6 [(0, .ref v0), (3, .int v3)] → W p l e ({ frames := 5, cells := 0, slots := 0, locals := 133 } : Room) s m args below meth c H locs 0 0 (MQ below (va_Qi post (zc_B lo g) (zA lo)) args s 0 0 (zA lo)) (F0 m 136 ls []) := by
  obtain ⟨hx, hb, hml, hown, hts⟩ := id S
  intro v0 v3 M h H locs ls hw hl
  unfold pX7_near_136 at h
  refine lv_iconst (v := (0 : Int32)) hx hb dX7_near_136 (by decide) ?_
  exact sX7_near_137 S hr hlocks hK  v0 v3 (0 : Int32) _ h _ _ _ hw (lv_sub hl [0, 1] rfl)
set_option maxHeartbeats 4000000 in
set_option maxRecDepth 100000 in
theorem sX7_near_89 {p : Program} {l : Launch} {e : Env} {s : State} {m : MethodId} {args : Array Value} {below : List Frame} {meth : Method} {c : Code} {lo : Nat} {g : zg} {post : Int32 → zm_M → Prop}  (S : CallFix p m c cX7_near 6 s args zU RX7) (hr : meth.sig.returnType = (some .int)) (hlocks : meth.locks = false) (hK : zk_K zNF zNM g s)  : ∀ (v0 : Nat) (v2 : Int32) (v3 : Int32) (s0 : Int32) (M : zm_M), pX7_near_89 g.2 post  v0 v2 v3 s0 M → ∀ (H : Heap) (locs : List Loc) (ls : Array Slot), zW lo g s H locs M → lv_has ls 6 [(0, .ref v0), (2, .int v2), (3, .int v3)] → W p l e ({ frames := 5, cells := 0, slots := 0, locals := 133 } : Room) s m args below meth c H locs 0 0 (MQ below (va_Qi post (zc_B lo g) (zA lo)) args s 0 0 (zA lo)) (F0 m 89 ls [.int s0]) := by
  obtain ⟨hx, hb, hml, hown, hts⟩ := id S
  intro v0 v2 v3 s0 M h H locs ls hw hl
  unfold pX7_near_89 at h
  refine lv_istore (lv' := [(4, .int s0), (0, .ref v0), (2, .int v2), (3, .int v3)]) hx hb dX7_near_89 hl (by decide) rfl (fun ls hl => ?_)
  refine lv_iload_n hx hb dX7_near_91 rfl (lv_at hl 2 rfl) ?_
  refine lv_iconst (v := (2 : Int32)) hx hb dX7_near_92 (by decide) ?_
  refine lv_icmp_ne (tgt := 139) hx hb dX7_near_93 (by decide) (fun hc => ?_) (fun hc => ?_)
  · have h := h.1 hc
    exact sX7_near_139 S hr hlocks hK  v0 v3 s0 _ h _ _ _ hw (lv_sub hl [1, 3, 0] rfl)
  · have h := h.2 hc
    refine lv_aload_n hx hb dX7_near_96 rfl (lv_at hl 1 rfl) ?_
    refine lv_bipush (v := (12 : Int32)) hx hb dX7_near_97 (by decide) ?_
    refine lv_lconst (v := (0 : Int64)) hx hb dX7_near_99 (by decide) ?_
    obtain ⟨ho, h⟩ := h
    refine zr_Vv (As := [.int (12 : Int32), .long (0 : Int64)]) (rest := []) S hK hw (kX7_twice l lo g M v0 (12 : Int32) (0 : Int64) _ h) (cwV 2 hts (zg_V zu_453 zu_454 zu_455 zu_450 zu_456) rfl rfl rfl (by decide +kernel) ⟨Nat.le_of_ble_eq_true rfl, Nat.le_of_ble_eq_true rfl⟩) (ci := 10) rfl ho rfl hl.1 rfl (Nat.le_of_ble_eq_true rfl) dX7_near_100 ⟨Nat.le_of_ble_eq_true rfl, Nat.le_of_ble_eq_true rfl⟩ (fun M15 H locs hw h => ?_)
    refine lv_aload_n hx hb dX7_near_103 rfl (lv_at hl 1 rfl) ?_
    refine lv_bipush (v := (12 : Int32)) hx hb dX7_near_104 (by decide) ?_
    refine lv_bipush (v := (11 : Int32)) hx hb dX7_near_106 (by decide) ?_
    obtain ⟨ho, h⟩ := h
    refine zr_Vi (As := [.int (12 : Int32), .int (11 : Int32)]) (rest := []) S hK hw (kX7_compared l lo g M15 v0 (12 : Int32) (11 : Int32) _ h) (cwV 2 hts (zg_V zu_457 zu_458 zu_459 zu_450 zu_460) rfl rfl rfl (by decide +kernel) ⟨Nat.le_of_ble_eq_true rfl, Nat.le_of_ble_eq_true rfl⟩) (ci := 10) rfl ho rfl hl.1 rfl (Nat.le_of_ble_eq_true rfl) dX7_near_108 ⟨Nat.le_of_ble_eq_true rfl, Nat.le_of_ble_eq_true rfl⟩ (fun r17 M16 H locs hw h => ?_)
    refine lv_istore (lv' := [(5, .int r17), (4, .int s0), (0, .ref v0), (2, .int v2), (3, .int v3)]) hx hb dX7_near_111 hl (by decide) rfl (fun ls hl => ?_)
    refine lv_iload hx hb dX7_near_113 (lv_at hl 0 rfl) ?_
    refine lv_if_gt (tgt := 132) hx hb dX7_near_115 (by decide) (fun hc => ?_) (fun hc => ?_)
    · have h := h.1 hc
      exact sX7_near_132 S hr hlocks hK  v0 v3 _ h _ _ _ hw (lv_sub hl [2, 4] rfl)
    · have h := h.2 hc
      refine lv_iload hx hb dX7_near_118 (lv_at hl 0 rfl) ?_
      refine lv_if_ne (tgt := 136) hx hb dX7_near_120 (by decide) (fun hc => ?_) (fun hc => ?_)
      · have h := h.1 hc
        exact sX7_near_136 S hr hlocks hK  v0 v3 _ h _ _ _ hw (lv_sub hl [2, 4] rfl)
      · have h := h.2 hc
        refine lv_aload_n hx hb dX7_near_123 rfl (lv_at hl 2 rfl) ?_
        refine lv_bipush (v := (10 : Int32)) hx hb dX7_near_124 (by decide) ?_
        obtain ⟨ho, h⟩ := h
        refine zr_Vi (As := [.int (10 : Int32)]) (rest := []) S hK hw (kX7_isOdd l lo g M16 v0 (10 : Int32) _ h) (cwV 1 hts (zg_V zu_469 zu_470 zu_471 zu_450 zu_472) rfl rfl rfl (by decide +kernel) ⟨Nat.le_of_ble_eq_true rfl, Nat.le_of_ble_eq_true rfl⟩) (ci := 10) rfl ho rfl hl.1 rfl (Nat.le_of_ble_eq_true rfl) dX7_near_126 ⟨Nat.le_of_ble_eq_true rfl, Nat.le_of_ble_eq_true rfl⟩ (fun r19 M18 H locs hw h => ?_)
        refine lv_if_eq (tgt := 136) hx hb dX7_near_129 (by decide) (fun hc => ?_) (fun hc => ?_)
        · have h := h.1 hc
          exact sX7_near_136 S hr hlocks hK  v0 v3 _ h _ _ _ hw (lv_sub hl [2, 4] rfl)
        · have h := h.2 hc
          exact sX7_near_132 S hr hlocks hK  v0 v3 _ h _ _ _ hw (lv_sub hl [2, 4] rfl)
set_option maxHeartbeats 4000000 in
set_option maxRecDepth 100000 in
theorem sX7_near_88 {p : Program} {l : Launch} {e : Env} {s : State} {m : MethodId} {args : Array Value} {below : List Frame} {meth : Method} {c : Code} {lo : Nat} {g : zg} {post : Int32 → zm_M → Prop}  (S : CallFix p m c cX7_near 6 s args zU RX7) (hr : meth.sig.returnType = (some .int)) (hlocks : meth.locks = false) (hK : zk_K zNF zNM g s)  : ∀ (v0 : Nat) (v2 : Int32) (v3 : Int32) (M : zm_M), pX7_near_88 g.2 post  v0 v2 v3 M → ∀ (H : Heap) (locs : List Loc) (ls : Array Slot), zW lo g s H locs M → lv_has ls 6 [(0, .ref v0), (2, .int v2), (3, .int v3)] → W p l e ({ frames := 5, cells := 0, slots := 0, locals := 133 } : Room) s m args below meth c H locs 0 0 (MQ below (va_Qi post (zc_B lo g) (zA lo)) args s 0 0 (zA lo)) (F0 m 88 ls []) := by
  obtain ⟨hx, hb, hml, hown, hts⟩ := id S
  intro v0 v2 v3 M h H locs ls hw hl
  unfold pX7_near_88 at h
  refine lv_iconst (v := (0 : Int32)) hx hb dX7_near_88 (by decide) ?_
  exact sX7_near_89 S hr hlocks hK  v0 v2 v3 (0 : Int32) _ h _ _ _ hw (lv_sub hl [0, 1, 2] rfl)
set_option maxHeartbeats 4000000 in
set_option maxRecDepth 100000 in
theorem sX7_near_84 {p : Program} {l : Launch} {e : Env} {s : State} {m : MethodId} {args : Array Value} {below : List Frame} {meth : Method} {c : Code} {lo : Nat} {g : zg} {post : Int32 → zm_M → Prop}  (S : CallFix p m c cX7_near 6 s args zU RX7) (hr : meth.sig.returnType = (some .int)) (hlocks : meth.locks = false) (hK : zk_K zNF zNM g s)  : ∀ (v0 : Nat) (v2 : Int32) (v3 : Int32) (M : zm_M), pX7_near_84 g.2 post  v0 v2 v3 M → ∀ (H : Heap) (locs : List Loc) (ls : Array Slot), zW lo g s H locs M → lv_has ls 6 [(0, .ref v0), (2, .int v2), (3, .int v3)] → W p l e ({ frames := 5, cells := 0, slots := 0, locals := 133 } : Room) s m args below meth c H locs 0 0 (MQ below (va_Qi post (zc_B lo g) (zA lo)) args s 0 0 (zA lo)) (F0 m 84 ls []) := by
  obtain ⟨hx, hb, hml, hown, hts⟩ := id S
  intro v0 v2 v3 M h H locs ls hw hl
  unfold pX7_near_84 at h
  refine lv_iconst (v := (1 : Int32)) hx hb dX7_near_84 (by decide) ?_
  refine lv_goto (tgt := 89) hx hb dX7_near_85 (by decide) ?_
  exact sX7_near_89 S hr hlocks hK  v0 v2 v3 (1 : Int32) _ h _ _ _ hw (lv_sub hl [0, 1, 2] rfl)
set_option maxHeartbeats 4000000 in
set_option maxRecDepth 100000 in
theorem sX7_near_60 {p : Program} {l : Launch} {e : Env} {s : State} {m : MethodId} {args : Array Value} {below : List Frame} {meth : Method} {c : Code} {lo : Nat} {g : zg} {post : Int32 → zm_M → Prop}  (S : CallFix p m c cX7_near 6 s args zU RX7) (hr : meth.sig.returnType = (some .int)) (hlocks : meth.locks = false) (hK : zk_K zNF zNM g s)  : ∀ (v0 : Nat) (v1 : Int32) (v2 : Int32) (v3 : Int32) (M : zm_M), pX7_near_60 g.2 post  v0 v1 v2 v3 M → ∀ (H : Heap) (locs : List Loc) (ls : Array Slot), zW lo g s H locs M → lv_has ls 6 [(0, .ref v0), (1, .int v1), (2, .int v2), (3, .int v3)] → W p l e ({ frames := 5, cells := 0, slots := 0, locals := 133 } : Room) s m args below meth c H locs 0 0 (MQ below (va_Qi post (zc_B lo g) (zA lo)) args s 0 0 (zA lo)) (F0 m 60 ls []) := by
  obtain ⟨hx, hb, hml, hown, hts⟩ := id S
  intro v0 v1 v2 v3 M h H locs ls hw hl
  unfold pX7_near_60 at h
  refine lv_iload_n hx hb dX7_near_60 rfl (lv_at hl 2 rfl) ?_
  refine lv_iconst (v := (3 : Int32)) hx hb dX7_near_61 (by decide) ?_
  refine lv_icmp_ne (tgt := 88) hx hb dX7_near_62 (by decide) (fun hc => ?_) (fun hc => ?_)
  · have h := h.1 hc
    exact sX7_near_88 S hr hlocks hK  v0 v2 v3 _ h _ _ _ hw (lv_sub hl [0, 2, 3] rfl)
  · have h := h.2 hc
    refine lv_aload_n hx hb dX7_near_65 rfl (lv_at hl 0 rfl) ?_
    refine zr_ga (C := RX7) (T := TX7) (N := 14) (ci := 10) (k := 2) S hK hw zi_X7 rfl (by decide) zu_496 dX7_near_66 h (fun sign_20 h => ?_)
    refine lv_iload_n hx hb dX7_near_69 rfl (lv_at hl 1 rfl) ?_
    refine zr_iald S hK hw dX7_near_70 h (fun e21 h => ?_)
    refine lv_if_ge (tgt := 88) hx hb dX7_near_71 (by decide) (fun hc => ?_) (fun hc => ?_)
    · have h := h.1 hc
      exact sX7_near_88 S hr hlocks hK  v0 v2 v3 _ h _ _ _ hw (lv_sub hl [0, 2, 3] rfl)
    · have h := h.2 hc
      refine lv_aload_n hx hb dX7_near_74 rfl (lv_at hl 0 rfl) ?_
      refine zr_ga (C := RX7) (T := TX7) (N := 14) (ci := 10) (k := 10) S hK hw zi_X7 rfl (by decide) zu_444 dX7_near_75 h (fun n_22 h => ?_)
      refine lv_bipush (v := (12 : Int32)) hx hb dX7_near_78 (by decide) ?_
      refine zr_iald S hK hw dX7_near_80 h (fun e23 h => ?_)
      refine lv_if_le (tgt := 88) hx hb dX7_near_81 (by decide) (fun hc => ?_) (fun hc => ?_)
      · have h := h.1 hc
        exact sX7_near_88 S hr hlocks hK  v0 v2 v3 _ h _ _ _ hw (lv_sub hl [0, 2, 3] rfl)
      · have h := h.2 hc
        exact sX7_near_84 S hr hlocks hK  v0 v2 v3 _ h _ _ _ hw (lv_sub hl [0, 2, 3] rfl)
set_option maxHeartbeats 4000000 in
set_option maxRecDepth 100000 in
theorem kX7_near (l : Launch) (lo : Nat) (g : zg) (M : zm_M) (a0 : Nat) (a1 : Int32) (a2 : Int32) (post : Int32 → zm_M → Prop) (h : pX7_near g.2 a0 a1 a2 post M) : Met l yX7_near (Cond.code yX7_near cX7_near 6 (some .int) :: zU) (({ frames := 5, cells := 0, slots := 0, locals := 133 } : Room)) (zc_P zNF zNM lo g M [.ref a0, .int a1, .int a2]) (va_Qi post (zc_B lo g) (zA lo)) 0 0 (zA lo) := by
  refine Met.ofW (cc := cX7_near) (maxL := 6) (ret := (some .int)) (by decide) rfl ?_
  intro p e s m args below meth c s₁ B hml hv
  obtain ⟨rfl, hR, hK⟩ := hv
  have hts := atoms_spec (ws := Cond.code yX7_near cX7_near 6 (some .int) :: zU) B.pre
  have hts : ∀ w ∈ zU, w.before _ s = true := fun w hw => hts w (List.mem_cons_of_mem _ hw)
  have hown : s.vm.findClass RX7 = some m.cls := findClass_of_methodNamed B.named
  have hx := B.exec
  have hb := B.bytes
  have hr := B.returns
  have hlocks := B.notSynchronized
  have S : CallFix p m c cX7_near 6 s ([.ref a0, .int a1, .int a2] : List Value).toArray zU RX7 := ⟨hx, hb, hml, hown, hts⟩
  have hw : zW lo g s s.heap [] M := ⟨hR, va_S.rf⟩
  have hl := lv_entry ([.ref a0, .int a1, .int a2]) (n := 6) (Nat.le_of_ble_eq_true rfl)
  rw [lg_entry_eq]
  generalize (lg_sl ([.ref a0, .int a1, .int a2]) ++ List.replicate (6 - (lg_sl ([.ref a0, .int a1, .int a2])).length) Slot.unset).toArray = ls at hl ⊢
  have hl : lv_has ls 6 [(0, .ref a0), (1, .int a1), (2, .int a2)] := hl
  unfold pX7_near at h
  refine lv_aload_n hx hb dX7_near_0 rfl (lv_at hl 0 rfl) ?_
  refine lv_iconst (v := (0 : Int32)) hx hb dX7_near_1 (by decide) ?_
  refine zr_p (C := RX7) (T := TX7) (N := 14) (ci := 10) (k := 0) S hK hw zi_X7 tyX7 tyX7_ok nmX7 rfl (by decide) zu_443 rfl rfl rfl dX7_near_2 h (fun M1 H locs hw h => ?_)
  refine lv_aload_n hx hb dX7_near_5 rfl (lv_at hl 0 rfl) ?_
  refine lv_iload_n hx hb dX7_near_6 rfl (lv_at hl 1 rfl) ?_
  obtain ⟨ho, h⟩ := h
  refine zr_Vi (As := [.int a1]) (rest := []) S hK hw (kX7_isNumber l lo g M1 a0 a1 _ h) (cwV 1 hts (zg_V zu_517 zu_518 zu_519 zu_450 zu_520) rfl rfl rfl (by decide +kernel) ⟨Nat.le_of_ble_eq_true rfl, Nat.le_of_ble_eq_true rfl⟩) (ci := 10) rfl ho rfl hl.1 rfl (Nat.le_of_ble_eq_true rfl) dX7_near_7 ⟨Nat.le_of_ble_eq_true rfl, Nat.le_of_ble_eq_true rfl⟩ (fun r3 M2 H locs hw h => ?_)
  refine lv_if_eq (tgt := 25) hx hb dX7_near_10 (by decide) (fun hc => ?_) (fun hc => ?_)
  · have h := h.1 hc
    refine lv_iconst (v := (-1 : Int32)) hx hb dX7_near_25 (by decide) ?_
    exact zr_ri S hr hlocks hw h dX7_near_26
  · have h := h.2 hc
    refine lv_iload_n hx hb dX7_near_13 rfl (lv_at hl 2 rfl) ?_
    refine lv_i2l hx hb dX7_near_14 rfl ?_
    refine lv_lconst (v := (0 : Int64)) hx hb dX7_near_15 (by decide) ?_
    refine lv_ldc2 (v := (3 : Int64)) hx hb hown (hts _ zu_537) dX7_near_16 ?_
    refine zr_Si (As := [.long (a2.toInt64), .long (0 : Int64), .long (3 : Int64)]) (rest := []) S hK hw (kX7_in l lo g M2 (a2.toInt64) (0 : Int64) (3 : Int64) _ h) (va_cwS 3 hts (zg_S zu_482 zu_483 zu_450 zu_484) rfl rfl rfl (by decide +kernel) ⟨Nat.le_of_ble_eq_true rfl, Nat.le_of_ble_eq_true rfl⟩) rfl hl.1 rfl (Nat.le_of_ble_eq_true rfl) dX7_near_19 ⟨Nat.le_of_ble_eq_true rfl, Nat.le_of_ble_eq_true rfl⟩ (fun r5 M4 H locs hw h => ?_)
    refine lv_if_ne (tgt := 27) hx hb dX7_near_22 (by decide) (fun hc => ?_) (fun hc => ?_)
    · have h := h.1 hc
      refine lv_aload_n hx hb dX7_near_27 rfl (lv_at hl 0 rfl) ?_
      obtain ⟨ho, h⟩ := h
      refine zr_Vi (As := []) (rest := []) S hK hw (kX7_free l lo g M4 a0  _ h) (cwV 0 hts (zg_V zu_492 zu_493 zu_494 zu_450 zu_495) rfl rfl rfl (by decide +kernel) ⟨Nat.le_of_ble_eq_true rfl, Nat.le_of_ble_eq_true rfl⟩) (ci := 10) rfl ho rfl hl.1 rfl (Nat.le_of_ble_eq_true rfl) dX7_near_28 ⟨Nat.le_of_ble_eq_true rfl, Nat.le_of_ble_eq_true rfl⟩ (fun r7 M6 H locs hw h => ?_)
      refine lv_bipush (v := (-3 : Int32)) hx hb dX7_near_31 (by decide) ?_
      refine lv_icmp_ne (tgt := 39) hx hb dX7_near_33 (by decide) (fun hc => ?_) (fun hc => ?_)
      · have h := h.1 hc
        refine lv_aload_n hx hb dX7_near_39 rfl (lv_at hl 0 rfl) ?_
        refine lv_iload_n hx hb dX7_near_40 rfl (lv_at hl 1 rfl) ?_
        obtain ⟨ho, h⟩ := h
        refine zr_Vi (As := [.int a1]) (rest := []) S hK hw (kX7_floor l lo g M6 a0 a1 _ h) (cwV 1 hts (zg_V zu_544 zu_545 zu_546 zu_450 zu_547) rfl rfl rfl (by decide +kernel) ⟨Nat.le_of_ble_eq_true rfl, Nat.le_of_ble_eq_true rfl⟩) (ci := 10) rfl ho rfl hl.1 rfl (Nat.le_of_ble_eq_true rfl) dX7_near_41 ⟨Nat.le_of_ble_eq_true rfl, Nat.le_of_ble_eq_true rfl⟩ (fun r9 M8 H locs hw h => ?_)
        refine lv_istore_n (lv' := [(3, .int r9), (0, .ref a0), (1, .int a1), (2, .int a2)]) hx hb dX7_near_44 rfl hl (by decide) rfl (fun ls hl => ?_)
        refine lv_iload_n hx hb dX7_near_45 rfl (lv_at hl 3 rfl) ?_
        refine lv_iconst (v := (1 : Int32)) hx hb dX7_near_46 (by decide) ?_
        refine lv_icmp_ne (tgt := 60) hx hb dX7_near_47 (by decide) (fun hc => ?_) (fun hc => ?_)
        · have h := h.1 hc
          exact sX7_near_60 S hr hlocks hK  a0 a1 a2 r9 _ h _ _ _ hw (lv_sub hl [1, 2, 3, 0] rfl)
        · have h := h.2 hc
          refine lv_aload_n hx hb dX7_near_50 rfl (lv_at hl 1 rfl) ?_
          refine zr_ga (C := RX7) (T := TX7) (N := 14) (ci := 10) (k := 10) S hK hw zi_X7 rfl (by decide) zu_444 dX7_near_51 h (fun n_24 h => ?_)
          refine lv_bipush (v := (12 : Int32)) hx hb dX7_near_54 (by decide) ?_
          refine zr_iald S hK hw dX7_near_56 h (fun e25 h => ?_)
          refine lv_if_gt (tgt := 84) hx hb dX7_near_57 (by decide) (fun hc => ?_) (fun hc => ?_)
          · have h := h.1 hc
            exact sX7_near_84 S hr hlocks hK  a0 a2 r9 _ h _ _ _ hw (lv_sub hl [1, 3, 0] rfl)
          · have h := h.2 hc
            exact sX7_near_60 S hr hlocks hK  a0 a1 a2 r9 _ h _ _ _ hw (lv_sub hl [1, 2, 3, 0] rfl)
      · have h := h.2 hc
        refine lv_bipush (v := (-3 : Int32)) hx hb dX7_near_36 (by decide) ?_
        exact zr_ri S hr hlocks hw h dX7_near_38
    · have h := h.2 hc
      refine lv_iconst (v := (-1 : Int32)) hx hb dX7_near_25 (by decide) ?_
      exact zr_ri S hr hlocks hw h dX7_near_26
