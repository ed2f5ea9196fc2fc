set_option maxHeartbeats 4000000 in
set_option maxRecDepth 100000 in
theorem sX7_exact_211 {p : Program} {l : Launch} {e : Env} {s : State} {m : MethodId} {args : Array Value} {below : List Frame} {meth : Method} {c : Code} {lo : Nat} {g : zg} {post : Int64 → zm_M → Prop}  (S : CallFix p m c cX7_exact 9 s args zU RX7) (hr : meth.sig.returnType = (some .long)) (hlocks : meth.locks = false) (hK : zk_K zNF zNM g s)  : ∀ (v4 : Int64) (v6 : Int32) (v8 : Int32) (s0 : Nat) (s1 : Int32) (M : zm_M), pX7_exact_211 g.2 post  v4 v6 v8 s0 s1 M → ∀ (H : Heap) (locs : List Loc) (ls : Array Slot), zW lo g s H locs M → lv_has ls 9 [(4, .long v4), (6, .int v6), (8, .int v8)] → W p l e ({ frames := 3, cells := 0, slots := 0, locals := 86 } : Room) s m args below meth c H locs 0 0 (MQ below (va_Ql post (zc_B lo g) (zA lo)) args s 0 0 (zA lo)) (F0 m 211 ls [.int s1, .ref s0]) := by
  obtain ⟨hx, hb, hml, hown, hts⟩ := id S
  intro v4 v6 v8 s0 s1 M h H locs ls hw hl
  unfold pX7_exact_211 at h
  refine zr_p (C := RX7) (T := TX7) (N := 14) (ci := 10) (k := 0) S hK hw zi_X7 tyX7 tyX7_ok nmX7 rfl (by decide) zu_443 rfl rfl rfl dX7_exact_211 h (fun M16 H locs hw h => ?_)
  refine lv_iload hx hb dX7_exact_214 (lv_at hl 2 rfl) ?_
  refine lv_if_eq (tgt := 235) hx hb dX7_exact_216 (by decide) (fun hc => ?_) (fun hc => ?_)
  · have h := h.1 hc
    refine lv_lconst (v := (0 : Int64)) hx hb dX7_exact_235 (by decide) ?_
    exact zr_rl S hr hlocks hw h dX7_exact_236
  · have h := h.2 hc
    refine lv_iload hx hb dX7_exact_219 (lv_at hl 1 rfl) ?_
    refine lv_if_eq (tgt := 230) hx hb dX7_exact_221 (by decide) (fun hc => ?_) (fun hc => ?_)
    · have h := h.1 hc
      refine lv_lload hx hb dX7_exact_230 (lv_at hl 0 rfl) ?_
      refine lv_goto (tgt := 236) hx hb dX7_exact_232 (by decide) ?_
      exact zr_rl S hr hlocks hw h dX7_exact_236
    · have h := h.2 hc
      refine lv_lload hx hb dX7_exact_224 (lv_at hl 0 rfl) ?_
      refine lv_lneg hx hb dX7_exact_226 ?_
      refine lv_goto (tgt := 236) hx hb dX7_exact_227 (by decide) ?_
      exact zr_rl S hr hlocks hw h dX7_exact_236
set_option maxHeartbeats 4000000 in
set_option maxRecDepth 100000 in
theorem sX7_exact_198 {p : Program} {l : Launch} {e : Env} {s : State} {m : MethodId} {args : Array Value} {below : List Frame} {meth : Method} {c : Code} {lo : Nat} {g : zg} {post : Int64 → zm_M → Prop}  (S : CallFix p m c cX7_exact 9 s args zU RX7) (hr : meth.sig.returnType = (some .long)) (hlocks : meth.locks = false) (hK : zk_K zNF zNM g s)  : ∀ (v0 : Nat) (v4 : Int64) (v6 : Int32) (s0 : Int32) (M : zm_M), pX7_exact_198 g.2 post  v0 v4 v6 s0 M → ∀ (H : Heap) (locs : List Loc) (ls : Array Slot), zW lo g s H locs M → lv_has ls 9 [(0, .ref v0), (4, .long v4), (6, .int v6)] → W p l e ({ frames := 3, cells := 0, slots := 0, locals := 86 } : Room) s m args below meth c H locs 0 0 (MQ below (va_Ql post (zc_B lo g) (zA lo)) args s 0 0 (zA lo)) (F0 m 198 ls [.int s0]) := by
  obtain ⟨hx, hb, hml, hown, hts⟩ := id S
  intro v0 v4 v6 s0 M h H locs ls hw hl
  unfold pX7_exact_198 at h
  refine lv_istore (lv' := [(8, .int s0), (0, .ref v0), (4, .long v4), (6, .int v6)]) hx hb dX7_exact_198 hl (by decide) rfl (fun ls hl => ?_)
  refine lv_aload_n hx hb dX7_exact_200 rfl (lv_at hl 1 rfl) ?_
  refine lv_iload hx hb dX7_exact_201 (lv_at hl 0 rfl) ?_
  refine lv_if_eq (tgt := 210) hx hb dX7_exact_203 (by decide) (fun hc => ?_) (fun hc => ?_)
  · have h := h.1 hc
    refine lv_iconst (v := (1 : Int32)) hx hb dX7_exact_210 (by decide) ?_
    exact sX7_exact_211 S hr hlocks hK  v4 v6 s0 v0 (1 : Int32) _ h _ _ _ hw (lv_sub hl [2, 3, 0] rfl)
  · have h := h.2 hc
    refine lv_iconst (v := (0 : Int32)) hx hb dX7_exact_206 (by decide) ?_
    refine lv_goto (tgt := 211) hx hb dX7_exact_207 (by decide) ?_
    exact sX7_exact_211 S hr hlocks hK  v4 v6 s0 v0 (0 : Int32) _ h _ _ _ hw (lv_sub hl [2, 3, 0] rfl)
set_option maxHeartbeats 4000000 in
set_option maxRecDepth 100000 in
theorem sX7_exact_193 {p : Program} {l : Launch} {e : Env} {s : State} {m : MethodId} {args : Array Value} {below : List Frame} {meth : Method} {c : Code} {lo : Nat} {g : zg} {post : Int64 → zm_M → Prop}  (S : CallFix p m c cX7_exact 9 s args zU RX7) (hr : meth.sig.returnType = (some .long)) (hlocks : meth.locks = false) (hK : zk_K zNF zNM g s)  : ∀ (v0 : Nat) (v4 : Int64) (v6 : Int32) (M : zm_M), pX7_exact_193 g.2 post  v0 v4 v6 M → ∀ (H : Heap) (locs : List Loc) (ls : Array Slot), zW lo g s H locs M → lv_has ls 9 [(0, .ref v0), (4, .long v4), (6, .int v6)] → W p l e ({ frames := 3, cells := 0, slots := 0, locals := 86 } : Room) s m args below meth c H locs 0 0 (MQ below (va_Ql post (zc_B lo g) (zA lo)) args s 0 0 (zA lo)) (F0 m 193 ls []) := by
  obtain ⟨hx, hb, hml, hown, hts⟩ := id S
  intro v0 v4 v6 M h H locs ls hw hl
  unfold pX7_exact_193 at h
  refine lv_iconst (v := (1 : Int32)) hx hb dX7_exact_193 (by decide) ?_
  refine lv_goto (tgt := 198) hx hb dX7_exact_194 (by decide) ?_
  exact sX7_exact_198 S hr hlocks hK  v0 v4 v6 (1 : Int32) _ h _ _ _ hw (lv_sub hl [0, 1, 2] rfl)
set_option maxHeartbeats 4000000 in
set_option maxRecDepth 100000 in
theorem sX7_exact_197 {p : Program} {l : Launch} {e : Env} {s : State} {m : MethodId} {args : Array Value} {below : List Frame} {meth : Method} {c : Code} {lo : Nat} {g : zg} {post : Int64 → zm_M → Prop}  (S : CallFix p m c cX7_exact 9 s args zU RX7) (hr : meth.sig.returnType = (some .long)) (hlocks : meth.locks = false) (hK : zk_K zNF zNM g s)  : ∀ (v0 : Nat) (v4 : Int64) (v6 : Int32) (M : zm_M), pX7_exact_197 g.2 post  v0 v4 v6 M → ∀ (H : Heap) (locs : List Loc) (ls : Array Slot), zW lo g s H locs M → lv_has ls 9 [(0, .ref v0), (4, .long v4), (6, .int v6)] → W p l e ({ frames := 3, cells := 0, slots := 0, locals := 86 } : Room) s m args below meth c H locs 0 0 (MQ below (va_Ql post (zc_B lo g) (zA lo)) args s 0 0 (zA lo)) (F0 m 197 ls []) := by
  obtain ⟨hx, hb, hml, hown, hts⟩ := id S
  intro v0 v4 v6 M h H locs ls hw hl
  unfold pX7_exact_197 at h
  refine lv_iconst (v := (0 : Int32)) hx hb dX7_exact_197 (by decide) ?_
  exact sX7_exact_198 S hr hlocks hK  v0 v4 v6 (0 : Int32) _ h _ _ _ hw (lv_sub hl [0, 1, 2] rfl)
set_option maxHeartbeats 4000000 in
set_option maxRecDepth 100000 in
theorem sX7_exact_157 {p : Program} {l : Launch} {e : Env} {s : State} {m : MethodId} {args : Array Value} {below : List Frame} {meth : Method} {c : Code} {lo : Nat} {g : zg} {post : Int64 → zm_M → Prop}  (S : CallFix p m c cX7_exact 9 s args zU RX7) (hr : meth.sig.returnType = (some .long)) (hlocks : meth.locks = false) (hK : zk_K zNF zNM g s)  : ∀ (v0 : Nat) (v3 : Int32) (v4 : Int64) (v6 : Int32) (s0 : Int32) (M : zm_M), pX7_exact_157 g.2 post  v0 v3 v4 v6 s0 M → ∀ (H : Heap) (locs : List Loc) (ls : Array Slot), zW lo g s H locs M → lv_has ls 9 [(0, .ref v0), (3, .int v3), (4, .long v4), (6, .int v6)] → W p l e ({ frames := 3, cells := 0, slots := 0, locals := 86 } : Room) s m args below meth c H locs 0 0 (MQ below (va_Ql post (zc_B lo g) (zA lo)) args s 0 0 (zA lo)) (F0 m 157 ls [.int s0]) := by
  obtain ⟨hx, hb, hml, hown, hts⟩ := id S
  intro v0 v3 v4 v6 s0 M h H locs ls hw hl
  unfold pX7_exact_157 at h
  refine lv_istore (lv' := [(7, .int s0), (0, .ref v0), (3, .int v3), (4, .long v4), (6, .int v6)]) hx hb dX7_exact_157 hl (by decide) rfl (fun ls hl => ?_)
  refine lv_iload_n hx hb dX7_exact_159 rfl (lv_at hl 2 rfl) ?_
  refine lv_iload hx hb dX7_exact_160 (lv_at hl 0 rfl) ?_
  refine lv_icmp_le (tgt := 193) hx hb dX7_exact_162 (by decide) (fun hc => ?_) (fun hc => ?_)
  · have h := h.1 hc
    exact sX7_exact_193 S hr hlocks hK  v0 v4 v6 _ h _ _ _ hw (lv_sub hl [1, 3, 4] rfl)
  · have h := h.2 hc
    refine lv_iload hx hb dX7_exact_165 (lv_at hl 4 rfl) ?_
    refine lv_if_eq (tgt := 197) hx hb dX7_exact_167 (by decide) (fun hc => ?_) (fun hc => ?_)
    · have h := h.1 hc
      exact sX7_exact_197 S hr hlocks hK  v0 v4 v6 _ h _ _ _ hw (lv_sub hl [1, 3, 4] rfl)
    · have h := h.2 hc
      refine lv_iload_n hx hb dX7_exact_170 rfl (lv_at hl 2 rfl) ?_
      refine lv_iload hx hb dX7_exact_171 (lv_at hl 0 rfl) ?_
      refine lv_iconst (v := (1 : Int32)) hx hb dX7_exact_173 (by decide) ?_
      refine lv_iadd hx hb dX7_exact_174 ?_
      refine lv_icmp_ne (tgt := 197) hx hb dX7_exact_175 (by decide) (fun hc => ?_) (fun hc => ?_)
      · have h := h.1 hc
        exact sX7_exact_197 S hr hlocks hK  v0 v4 v6 _ h _ _ _ hw (lv_sub hl [1, 3, 4] rfl)
      · have h := h.2 hc
        refine lv_lload hx hb dX7_exact_178 (lv_at hl 3 rfl) ?_
        refine lv_bipush (v := (63 : Int32)) hx hb dX7_exact_180 (by decide) ?_
        refine lv_iload hx hb dX7_exact_182 (lv_at hl 0 rfl) ?_
        refine lv_isub hx hb dX7_exact_184 ?_
        refine lv_lshl hx hb dX7_exact_185 rfl ?_
        refine lv_ldc2 (v := (-9223372036854775808 : Int64)) hx hb hown (hts _ zu_582) dX7_exact_186 ?_
        refine W.lcmp hx hb dX7_exact_189 ?_
        refine lv_if_ne (tgt := 197) hx hb dX7_exact_190 (by decide) (fun hc => ?_) (fun hc => ?_)
        · have h := h.1 (fun q => hc (zc_eq.mpr q))
          exact sX7_exact_197 S hr hlocks hK  v0 v4 v6 _ h _ _ _ hw (lv_sub hl [1, 3, 4] rfl)
        · have h := h.2 (zc_eq.mp hc)
          exact sX7_exact_193 S hr hlocks hK  v0 v4 v6 _ h _ _ _ hw (lv_sub hl [1, 3, 4] rfl)
set_option maxHeartbeats 4000000 in
set_option maxRecDepth 100000 in
theorem sX7_exact_108 {p : Program} {l : Launch} {e : Env} {s : State} {m : MethodId} {args : Array Value} {below : List Frame} {meth : Method} {c : Code} {lo : Nat} {g : zg} {post : Int64 → zm_M → Prop}  (S : CallFix p m c cX7_exact 9 s args zU RX7) (hr : meth.sig.returnType = (some .long)) (hlocks : meth.locks = false) (hK : zk_K zNF zNM g s)  : ∀ (v0 : Nat) (v4 : Int64) (s0 : Nat) (s1 : Int32) (M : zm_M), pX7_exact_108 g.2 post  v0 v4 s0 s1 M → ∀ (H : Heap) (locs : List Loc) (ls : Array Slot), zW lo g s H locs M → lv_has ls 9 [(0, .ref v0), (4, .long v4)] → W p l e ({ frames := 3, cells := 0, slots := 0, locals := 86 } : Room) s m args below meth c H locs 0 0 (MQ below (va_Ql post (zc_B lo g) (zA lo)) args s 0 0 (zA lo)) (F0 m 108 ls [.int s1, .ref s0]) := by
  obtain ⟨hx, hb, hml, hown, hts⟩ := id S
  intro v0 v4 s0 s1 M h H locs ls hw hl
  unfold pX7_exact_108 at h
  refine zr_p (C := RX7) (T := TX7) (N := 14) (ci := 10) (k := 0) S hK hw zi_X7 tyX7 tyX7_ok nmX7 rfl (by decide) zu_443 rfl rfl rfl dX7_exact_108 h (fun M17 H locs hw h => ?_)
  refine lv_aload_n hx hb dX7_exact_111 rfl (lv_at hl 0 rfl) ?_
  refine zr_gi (C := RX7) (T := TX7) (N := 14) (ci := 10) (k := 0) S hK hw zi_X7 rfl (by decide) zu_443 dX7_exact_112 h (fun thrown_18 h => ?_)
  refine lv_iconst (v := (1 : Int32)) hx hb dX7_exact_115 (by decide) ?_
  refine lv_icmp_ne (tgt := 123) hx hb dX7_exact_116 (by decide) (fun hc => ?_) (fun hc => ?_)
  · have h := h.1 hc
    refine lv_lload hx hb dX7_exact_123 (lv_at hl 1 rfl) ?_
    exact zr_rl S hr hlocks hw h dX7_exact_125
  · have h := h.2 hc
    refine lv_lconst (v := (0 : Int64)) hx hb dX7_exact_119 (by decide) ?_
    refine lv_goto (tgt := 125) hx hb dX7_exact_120 (by decide) ?_
    exact zr_rl S hr hlocks hw h dX7_exact_125
set_option maxHeartbeats 4000000 in
set_option maxRecDepth 100000 in
theorem sX7_exact_103 {p : Program} {l : Launch} {e : Env} {s : State} {m : MethodId} {args : Array Value} {below : List Frame} {meth : Method} {c : Code} {lo : Nat} {g : zg} {post : Int64 → zm_M → Prop}  (S : CallFix p m c cX7_exact 9 s args zU RX7) (hr : meth.sig.returnType = (some .long)) (hlocks : meth.locks = false) (hK : zk_K zNF zNM g s)  : ∀ (v0 : Nat) (v4 : Int64) (s0 : Nat) (M : zm_M), pX7_exact_103 g.2 post  v0 v4 s0 M → ∀ (H : Heap) (locs : List Loc) (ls : Array Slot), zW lo g s H locs M → lv_has ls 9 [(0, .ref v0), (4, .long v4)] → W p l e ({ frames := 3, cells := 0, slots := 0, locals := 86 } : Room) s m args below meth c H locs 0 0 (MQ below (va_Ql post (zc_B lo g) (zA lo)) args s 0 0 (zA lo)) (F0 m 103 ls [.ref s0]) := by
  obtain ⟨hx, hb, hml, hown, hts⟩ := id S
  intro v0 v4 s0 M h H locs ls hw hl
  unfold pX7_exact_103 at h
  refine lv_iconst (v := (1 : Int32)) hx hb dX7_exact_103 (by decide) ?_
  refine lv_goto (tgt := 108) hx hb dX7_exact_104 (by decide) ?_
  exact sX7_exact_108 S hr hlocks hK  v0 v4 s0 (1 : Int32) _ h _ _ _ hw (lv_sub hl [0, 1] rfl)
set_option maxHeartbeats 4000000 in
set_option maxRecDepth 100000 in
theorem sX7_exact_84 {p : Program} {l : Launch} {e : Env} {s : State} {m : MethodId} {args : Array Value} {below : List Frame} {meth : Method} {c : Code} {lo : Nat} {g : zg} {post : Int64 → zm_M → Prop}  (S : CallFix p m c cX7_exact 9 s args zU RX7) (hr : meth.sig.returnType = (some .long)) (hlocks : meth.locks = false) (hK : zk_K zNF zNM g s)  : ∀ (v0 : Nat) (v2 : Int32) (v3 : Int32) (v4 : Int64) (s0 : Int32) (M : zm_M), pX7_exact_84 g.2 post  v0 v2 v3 v4 s0 M → ∀ (H : Heap) (locs : List Loc) (ls : Array Slot), zW lo g s H locs M → lv_has ls 9 [(0, .ref v0), (2, .int v2), (3, .int v3), (4, .long v4)] → W p l e ({ frames := 3, cells := 0, slots := 0, locals := 86 } : Room) s m args below meth c H locs 0 0 (MQ below (va_Ql post (zc_B lo g) (zA lo)) args s 0 0 (zA lo)) (F0 m 84 ls [.int s0]) := by
  obtain ⟨hx, hb, hml, hown, hts⟩ := id S
  intro v0 v2 v3 v4 s0 M h H locs ls hw hl
  unfold pX7_exact_84 at h
  refine lv_istore (lv' := [(6, .int s0), (0, .ref v0), (2, .int v2), (3, .int v3), (4, .long v4)]) hx hb dX7_exact_84 hl (by decide) rfl (fun ls hl => ?_)
  refine lv_iload_n hx hb dX7_exact_86 rfl (lv_at hl 2 rfl) ?_
  refine lv_iconst (v := (2 : Int32)) hx hb dX7_exact_87 (by decide) ?_
  refine lv_icmp_ne (tgt := 126) hx hb dX7_exact_88 (by decide) (fun hc => ?_) (fun hc => ?_)
  · have h := h.1 hc
    refine lv_iload_n hx hb dX7_exact_126 rfl (lv_at hl 2 rfl) ?_
    refine lv_if_ne (tgt := 135) hx hb dX7_exact_127 (by decide) (fun hc => ?_) (fun hc => ?_)
    · have h := h.1 hc
      refine lv_iload_n hx hb dX7_exact_135 rfl (lv_at hl 2 rfl) ?_
      refine lv_iconst (v := (1 : Int32)) hx hb dX7_exact_136 (by decide) ?_
      refine lv_icmp_ne (tgt := 145) hx hb dX7_exact_137 (by decide) (fun hc => ?_) (fun hc => ?_)
      · have h := h.1 hc
        refine lv_iload_n hx hb dX7_exact_145 rfl (lv_at hl 2 rfl) ?_
        refine lv_iconst (v := (3 : Int32)) hx hb dX7_exact_146 (by decide) ?_
        refine lv_icmp_ne (tgt := 155) hx hb dX7_exact_147 (by decide) (fun hc => ?_) (fun hc => ?_)
        · have h := h.1 hc
          refine lv_bipush (v := (63 : Int32)) hx hb dX7_exact_155 (by decide) ?_
          exact sX7_exact_157 S hr hlocks hK  v0 v3 v4 s0 (63 : Int32) _ h _ _ _ hw (lv_sub hl [1, 3, 4, 0] rfl)
        · have h := h.2 hc
          refine lv_bipush (v := (31 : Int32)) hx hb dX7_exact_150 (by decide) ?_
          refine lv_goto (tgt := 157) hx hb dX7_exact_152 (by decide) ?_
          exact sX7_exact_157 S hr hlocks hK  v0 v3 v4 s0 (31 : Int32) _ h _ _ _ hw (lv_sub hl [1, 3, 4, 0] rfl)
      · have h := h.2 hc
        refine lv_bipush (v := (15 : Int32)) hx hb dX7_exact_140 (by decide) ?_
        refine lv_goto (tgt := 157) hx hb dX7_exact_142 (by decide) ?_
        exact sX7_exact_157 S hr hlocks hK  v0 v3 v4 s0 (15 : Int32) _ h _ _ _ hw (lv_sub hl [1, 3, 4, 0] rfl)
    · have h := h.2 hc
      refine lv_bipush (v := (7 : Int32)) hx hb dX7_exact_130 (by decide) ?_
      refine lv_goto (tgt := 157) hx hb dX7_exact_132 (by decide) ?_
      exact sX7_exact_157 S hr hlocks hK  v0 v3 v4 s0 (7 : Int32) _ h _ _ _ hw (lv_sub hl [1, 3, 4, 0] rfl)
  · have h := h.2 hc
    refine lv_aload_n hx hb dX7_exact_91 rfl (lv_at hl 1 rfl) ?_
    refine lv_iload hx hb dX7_exact_92 (lv_at hl 0 rfl) ?_
    refine lv_if_ne (tgt := 103) hx hb dX7_exact_94 (by decide) (fun hc => ?_) (fun hc => ?_)
    · have h := h.1 hc
      exact sX7_exact_103 S hr hlocks hK  v0 v4 v0 _ h _ _ _ hw (lv_sub hl [1, 4] rfl)
    · have h := h.2 hc
      refine lv_iload_n hx hb dX7_exact_97 rfl (lv_at hl 3 rfl) ?_
      refine lv_bipush (v := (16 : Int32)) hx hb dX7_exact_98 (by decide) ?_
      refine lv_icmp_le (tgt := 107) hx hb dX7_exact_100 (by decide) (fun hc => ?_) (fun hc => ?_)
      · have h := h.1 hc
        refine lv_iconst (v := (0 : Int32)) hx hb dX7_exact_107 (by decide) ?_
        exact sX7_exact_108 S hr hlocks hK  v0 v4 v0 (0 : Int32) _ h _ _ _ hw (lv_sub hl [1, 4] rfl)
      · have h := h.2 hc
        exact sX7_exact_103 S hr hlocks hK  v0 v4 v0 _ h _ _ _ hw (lv_sub hl [1, 4] rfl)
set_option maxHeartbeats 4000000 in
set_option maxRecDepth 100000 in
theorem kX7_exact (l : Launch) (lo : Nat) (g : zg) (M : zm_M) (a0 : Nat) (a1 : Int32) (a2 : Int32) (post : Int64 → zm_M → Prop) (h : pX7_exact g.2 a0 a1 a2 post M) : Met l yX7_exact (Cond.code yX7_exact cX7_exact 9 (some .long) :: zU) (({ frames := 3, cells := 0, slots := 0, locals := 86 } : Room)) (zc_P zNF zNM lo g M [.ref a0, .int a1, .int a2]) (va_Ql post (zc_B lo g) (zA lo)) 0 0 (zA lo) := by
  refine Met.ofW (cc := cX7_exact) (maxL := 9) (ret := (some .long)) (by decide) rfl ?_
  intro p e s m args below meth c s₁ B hml hv
  obtain ⟨rfl, hR, hK⟩ := hv
  have hts := atoms_spec (ws := Cond.code yX7_exact cX7_exact 9 (some .long) :: zU) B.pre
  have hts : ∀ w ∈ zU, w.before _ s = true := fun w hw => hts w (List.mem_cons_of_mem _ hw)
  have hown : s.vm.findClass RX7 = some m.cls := findClass_of_methodNamed B.named
  have hx := B.exec
  have hb := B.bytes
  have hr := B.returns
  have hlocks := B.notSynchronized
  have S : CallFix p m c cX7_exact 9 s ([.ref a0, .int a1, .int a2] : List Value).toArray zU RX7 := ⟨hx, hb, hml, hown, hts⟩
  have hw : zW lo g s s.heap [] M := ⟨hR, va_S.rf⟩
  have hl := lv_entry ([.ref a0, .int a1, .int a2]) (n := 9) (Nat.le_of_ble_eq_true rfl)
  rw [lg_entry_eq]
  generalize (lg_sl ([.ref a0, .int a1, .int a2]) ++ List.replicate (9 - (lg_sl ([.ref a0, .int a1, .int a2])).length) Slot.unset).toArray = ls at hl ⊢
  have hl : lv_has ls 9 [(0, .ref a0), (1, .int a1), (2, .int a2)] := hl
  unfold pX7_exact at h
  refine lv_aload_n hx hb dX7_exact_0 rfl (lv_at hl 0 rfl) ?_
  refine lv_iconst (v := (0 : Int32)) hx hb dX7_exact_1 (by decide) ?_
  refine zr_p (C := RX7) (T := TX7) (N := 14) (ci := 10) (k := 0) S hK hw zi_X7 tyX7 tyX7_ok nmX7 rfl (by decide) zu_443 rfl rfl rfl dX7_exact_2 h (fun M1 H locs hw h => ?_)
  refine lv_aload_n hx hb dX7_exact_5 rfl (lv_at hl 0 rfl) ?_
  refine lv_iload_n hx hb dX7_exact_6 rfl (lv_at hl 1 rfl) ?_
  obtain ⟨ho, h⟩ := h
  refine zr_Vi (As := [.int a1]) (rest := []) S hK hw (kX7_isNumber l lo g M1 a0 a1 _ h) (cwV 1 hts (zg_V zu_517 zu_518 zu_519 zu_450 zu_520) rfl rfl rfl (by decide +kernel) ⟨Nat.le_of_ble_eq_true rfl, Nat.le_of_ble_eq_true rfl⟩) (ci := 10) rfl ho rfl hl.1 rfl (Nat.le_of_ble_eq_true rfl) dX7_exact_7 ⟨Nat.le_of_ble_eq_true rfl, Nat.le_of_ble_eq_true rfl⟩ (fun r3 M2 H locs hw h => ?_)
  refine lv_if_eq (tgt := 25) hx hb dX7_exact_10 (by decide) (fun hc => ?_) (fun hc => ?_)
  · have h := h.1 hc
    refine lv_ldc2 (v := (-1 : Int64)) hx hb hown (hts _ zu_580) dX7_exact_25 ?_
    exact zr_rl S hr hlocks hw h dX7_exact_28
  · have h := h.2 hc
    refine lv_iload_n hx hb dX7_exact_13 rfl (lv_at hl 2 rfl) ?_
    refine lv_i2l hx hb dX7_exact_14 rfl ?_
    refine lv_lconst (v := (0 : Int64)) hx hb dX7_exact_15 (by decide) ?_
    refine lv_ldc2 (v := (4 : Int64)) hx hb hown (hts _ zu_581) dX7_exact_16 ?_
    refine zr_Si (As := [.long (a2.toInt64), .long (0 : Int64), .long (4 : Int64)]) (rest := []) S hK hw (kX7_in l lo g M2 (a2.toInt64) (0 : Int64) (4 : Int64) _ h) (va_cwS 3 hts (zg_S zu_482 zu_483 zu_450 zu_484) rfl rfl rfl (by decide +kernel) ⟨Nat.le_of_ble_eq_true rfl, Nat.le_of_ble_eq_true rfl⟩) rfl hl.1 rfl (Nat.le_of_ble_eq_true rfl) dX7_exact_19 ⟨Nat.le_of_ble_eq_true rfl, Nat.le_of_ble_eq_true rfl⟩ (fun r5 M4 H locs hw h => ?_)
    refine lv_if_ne (tgt := 29) hx hb dX7_exact_22 (by decide) (fun hc => ?_) (fun hc => ?_)
    · have h := h.1 hc
      refine lv_aload_n hx hb dX7_exact_29 rfl (lv_at hl 0 rfl) ?_
      refine lv_iconst (v := (2 : Int32)) hx hb dX7_exact_30 (by decide) ?_
      refine lv_iload_n hx hb dX7_exact_31 rfl (lv_at hl 1 rfl) ?_
      refine lv_iconst (v := (0 : Int32)) hx hb dX7_exact_32 (by decide) ?_
      obtain ⟨ho, h⟩ := h
      refine zr_Vv (As := [.int (2 : Int32), .int a1, .int (0 : Int32)]) (rest := []) S hK hw (kX7_take l lo g M4 a0 (2 : Int32) a1 (0 : Int32) _ h) (cwV 3 hts (zg_V zu_521 zu_522 zu_523 zu_450 zu_524) rfl rfl rfl (by decide +kernel) ⟨Nat.le_of_ble_eq_true rfl, Nat.le_of_ble_eq_true rfl⟩) (ci := 10) rfl ho rfl hl.1 rfl (Nat.le_of_ble_eq_true rfl) dX7_exact_33 ⟨Nat.le_of_ble_eq_true rfl, Nat.le_of_ble_eq_true rfl⟩ (fun M6 H locs hw h => ?_)
      refine lv_aload_n hx hb dX7_exact_36 rfl (lv_at hl 0 rfl) ?_
      refine lv_iconst (v := (2 : Int32)) hx hb dX7_exact_37 (by decide) ?_
      obtain ⟨ho, h⟩ := h
      refine zr_Vi (As := [.int (2 : Int32)]) (rest := []) S hK hw (kX7_bits l lo g M6 a0 (2 : Int32) _ h) (cwV 1 hts (zg_V zu_488 zu_489 zu_490 zu_450 zu_491) rfl rfl rfl (by decide +kernel) ⟨Nat.le_of_ble_eq_true rfl, Nat.le_of_ble_eq_true rfl⟩) (ci := 10) rfl ho rfl hl.1 rfl (Nat.le_of_ble_eq_true rfl) dX7_exact_38 ⟨Nat.le_of_ble_eq_true rfl, Nat.le_of_ble_eq_true rfl⟩ (fun r8 M7 H locs hw h => ?_)
      refine lv_istore_n (lv' := [(3, .int r8), (0, .ref a0), (1, .int a1), (2, .int a2)]) hx hb dX7_exact_41 rfl hl (by decide) rfl (fun ls hl => ?_)
      refine lv_aload_n hx hb dX7_exact_42 rfl (lv_at hl 1 rfl) ?_
      refine lv_iconst (v := (1 : Int32)) hx hb dX7_exact_43 (by decide) ?_
      refine zr_p (C := RX7) (T := TX7) (N := 14) (ci := 10) (k := 0) S hK hw zi_X7 tyX7 tyX7_ok nmX7 rfl (by decide) zu_443 rfl rfl rfl dX7_exact_44 h (fun M9 H locs hw h => ?_)
      refine lv_aload_n hx hb dX7_exact_47 rfl (lv_at hl 1 rfl) ?_
      refine lv_iload_n hx hb dX7_exact_48 rfl (lv_at hl 2 rfl) ?_
      obtain ⟨ho, h⟩ := h
      refine zr_Vi (As := [.int a1]) (rest := []) S hK hw (kX7_isWhole l lo g M9 a0 a1 _ h) (cwV 1 hts (zg_V zu_548 zu_549 zu_550 zu_450 zu_551) rfl rfl rfl (by decide +kernel) ⟨Nat.le_of_ble_eq_true rfl, Nat.le_of_ble_eq_true rfl⟩) (ci := 10) rfl ho rfl hl.1 rfl (Nat.le_of_ble_eq_true rfl) dX7_exact_49 ⟨Nat.le_of_ble_eq_true rfl, Nat.le_of_ble_eq_true rfl⟩ (fun r11 M10 H locs hw h => ?_)
      refine lv_if_eq (tgt := 61) hx hb dX7_exact_52 (by decide) (fun hc => ?_) (fun hc => ?_)
      · have h := h.1 hc
        refine lv_lconst (v := (0 : Int64)) hx hb dX7_exact_61 (by decide) ?_
        exact zr_rl S hr hlocks hw h dX7_exact_62
      · have h := h.2 hc
        refine lv_iload_n hx hb dX7_exact_55 rfl (lv_at hl 0 rfl) ?_
        refine lv_bipush (v := (64 : Int32)) hx hb dX7_exact_56 (by decide) ?_
        refine lv_icmp_le (tgt := 63) hx hb dX7_exact_58 (by decide) (fun hc => ?_) (fun hc => ?_)
        · have h := h.1 hc
          refine lv_aload_n hx hb dX7_exact_63 rfl (lv_at hl 1 rfl) ?_
          refine lv_iconst (v := (2 : Int32)) hx hb dX7_exact_64 (by decide) ?_
          obtain ⟨ho, h⟩ := h
          refine zr_Vl (As := [.int (2 : Int32)]) (rest := []) S hK hw (kX7_asLong l lo g M10 a0 (2 : Int32) _ h) (cwV 1 hts (zg_V zu_572 zu_573 zu_574 zu_450 zu_575) rfl rfl rfl (by decide +kernel) ⟨Nat.le_of_ble_eq_true rfl, Nat.le_of_ble_eq_true rfl⟩) (ci := 10) rfl ho rfl hl.1 rfl (Nat.le_of_ble_eq_true rfl) dX7_exact_65 ⟨Nat.le_of_ble_eq_true rfl, Nat.le_of_ble_eq_true rfl⟩ (fun r13 M12 H locs hw h => ?_)
          refine lv_lstore (lv' := [(4, .long r13), (3, .int r8), (0, .ref a0), (1, .int a1), (2, .int a2)]) hx hb dX7_exact_68 hl (by decide) rfl (fun ls hl => ?_)
          refine lv_aload_n hx hb dX7_exact_70 rfl (lv_at hl 2 rfl) ?_
          refine zr_ga (C := RX7) (T := TX7) (N := 14) (ci := 10) (k := 2) S hK hw zi_X7 rfl (by decide) zu_496 dX7_exact_71 h (fun sign_14 h => ?_)
          refine lv_iload_n hx hb dX7_exact_74 rfl (lv_at hl 3 rfl) ?_
          refine zr_iald S hK hw dX7_exact_75 h (fun e15 h => ?_)
          refine lv_if_ge (tgt := 83) hx hb dX7_exact_76 (by decide) (fun hc => ?_) (fun hc => ?_)
          · have h := h.1 hc
            refine lv_iconst (v := (0 : Int32)) hx hb dX7_exact_83 (by decide) ?_
            exact sX7_exact_84 S hr hlocks hK  a0 a2 r8 r13 (0 : Int32) _ h _ _ _ hw (lv_sub hl [2, 4, 1, 0] rfl)
          · have h := h.2 hc
            refine lv_iconst (v := (1 : Int32)) hx hb dX7_exact_79 (by decide) ?_
            refine lv_goto (tgt := 84) hx hb dX7_exact_80 (by decide) ?_
            exact sX7_exact_84 S hr hlocks hK  a0 a2 r8 r13 (1 : Int32) _ h _ _ _ hw (lv_sub hl [2, 4, 1, 0] rfl)
        · have h := h.2 hc
          refine lv_lconst (v := (0 : Int64)) hx hb dX7_exact_61 (by decide) ?_
          exact zr_rl S hr hlocks hw h dX7_exact_62
    · have h := h.2 hc
      refine lv_ldc2 (v := (-1 : Int64)) hx hb hown (hts _ zu_580) dX7_exact_25 ?_
      exact zr_rl S hr hlocks hw h dX7_exact_28
set_option maxHeartbeats 4000000 in
set_option maxRecDepth 100000 in
theorem sX7_nearest_11 {p : Program} {l : Launch} {e : Env} {s : State} {m : MethodId} {args : Array Value} {below : List Frame} {meth : Method} {c : Code} {lo : Nat} {g : zg} {post : Int64 → zm_M → Prop} {k33 : Int64 → Int32 → Int32 → Int32 → Int32 → zm_M → Prop} (S : CallFix p m c cX7_nearest 15 s args zU RX7) (hr : meth.sig.returnType = (some .long)) (hlocks : meth.locks = false) (hK : zk_K zNF zNM g s) (hk33 : ∀ (v0 : Int64) (v2 : Int32) (v3 : Int32) (v4 : Int32) (v5 : Int32) (M : zm_M), k33 v0 v2 v3 v4 v5 M → ∀ (H : Heap) (locs : List Loc) (ls : Array Slot), zW lo g s H locs M → lv_has ls 15 [(0, .long v0), (2, .int v2), (3, .int v3), (4, .int v4), (5, .int v5)] → W p l e ({ frames := 1, cells := 0, slots := 0, locals := 40 } : Room) s m args below meth c H locs 0 0 (MQ below (va_Ql post (zc_B lo g) (zA lo)) args s 0 0 (zA lo)) (F0 m 33 ls [])) : ∀ (n : Nat) (v0 : Int64) (v2 : Int32) (v3 : Int32) (v4 : Int32) (v5 : Int32) (M : zm_M), pX7_nearest_11 g.2 post k33 n v0 v2 v3 v4 v5 M → ∀ (H : Heap) (locs : List Loc) (ls : Array Slot), zW lo g s H locs M → lv_has ls 15 [(0, .long v0), (2, .int v2), (3, .int v3), (4, .int v4), (5, .int v5)] → W p l e ({ frames := 1, cells := 0, slots := 0, locals := 40 } : Room) s m args below meth c H locs 0 0 (MQ below (va_Ql post (zc_B lo g) (zA lo)) args s 0 0 (zA lo)) (F0 m 11 ls []) := by
  obtain ⟨hx, hb, hml, hown, hts⟩ := id S
  intro n
  induction n with
  | zero =>
    intro v0 v2 v3 v4 v5 M h
    exact False.elim h
  | succ n11 ih =>
    intro v0 v2 v3 v4 v5 M h H locs ls hw hl
    rw [pX7_nearest_11] at h
    refine lv_iload hx hb dX7_nearest_11 (lv_at hl 4 rfl) ?_
    refine lv_bipush (v := (62 : Int32)) hx hb dX7_nearest_13 (by decide) ?_
    refine lv_icmp_ge (tgt := 33) hx hb dX7_nearest_15 (by decide) (fun hc => ?_) (fun hc => ?_)
    · have h := h.1 hc
      exact hk33 v0 v2 v3 v4 v5 _ h _ _ _ hw (lv_sub hl [0, 1, 2, 3, 4] rfl)
    · have h := h.2 hc
      refine lv_lload_n hx hb dX7_nearest_18 rfl (lv_at hl 0 rfl) ?_
      refine lv_iload hx hb dX7_nearest_19 (lv_at hl 4 rfl) ?_
      refine lv_lshr hx hb dX7_nearest_21 rfl ?_
      refine lv_lconst (v := (1 : Int64)) hx hb dX7_nearest_22 (by decide) ?_
      refine W.lcmp hx hb dX7_nearest_23 ?_
      refine lv_if_le (tgt := 33) hx hb dX7_nearest_24 (by decide) (fun hc => ?_) (fun hc => ?_)
      · have h := h.1 (zc_le.mp hc)
        exact hk33 v0 v2 v3 v4 v5 _ h _ _ _ hw (lv_sub hl [0, 1, 2, 3, 4] rfl)
      · have h := h.2 (fun q => hc (zc_le.mpr q))
        obtain ⟨x2, ex2⟩ : ∃ z : Int32, z = v5 + (1 : Int32) := ⟨_, rfl⟩
        have h := h x2 ex2
        refine lv_iinc (v := x2) (lv' := [(5, .int x2), (0, .long v0), (2, .int v2), (3, .int v3), (4, .int v4)]) hx hb dX7_nearest_27 hl (k := 4) rfl (by rw [ex2]; rfl) (by decide) rfl (fun ls hl => ?_)
        refine lv_goto (tgt := 11) hx hb dX7_nearest_30 (by decide) ?_
        exact ih v0 v2 v3 v4 x2 _ h _ _ _ hw (lv_sub hl [1, 2, 3, 4, 0] rfl)
set_option maxHeartbeats 4000000 in
set_option maxRecDepth 100000 in
theorem sX7_nearest_153 {p : Program} {l : Launch} {e : Env} {s : State} {m : MethodId} {args : Array Value} {below : List Frame} {meth : Method} {c : Code} {lo : Nat} {g : zg} {post : Int64 → zm_M → Prop}  (S : CallFix p m c cX7_nearest 15 s args zU RX7) (hr : meth.sig.returnType = (some .long)) (hlocks : meth.locks = false) (hK : zk_K zNF zNM g s)  : ∀ (v3 : Int32) (v4 : Int32) (v6 : Int32) (v7 : Int32) (v9 : Int64) (M : zm_M), pX7_nearest_153 g.2 post  v3 v4 v6 v7 v9 M → ∀ (H : Heap) (locs : List Loc) (ls : Array Slot), zW lo g s H locs M → lv_has ls 15 [(3, .int v3), (4, .int v4), (6, .int v6), (7, .int v7), (9, .long v9)] → W p l e ({ frames := 1, cells := 0, slots := 0, locals := 40 } : Room) s m args below meth c H locs 0 0 (MQ below (va_Ql post (zc_B lo g) (zA lo)) args s 0 0 (zA lo)) (F0 m 153 ls []) := by
  obtain ⟨hx, hb, hml, hown, hts⟩ := id S
  intro v3 v4 v6 v7 v9 M h H locs ls hw hl
  unfold pX7_nearest_153 at h
  refine lv_iload hx hb dX7_nearest_153 (lv_at hl 3 rfl) ?_
  refine lv_iload hx hb dX7_nearest_155 (lv_at hl 2 rfl) ?_
  refine lv_isub hx hb dX7_nearest_157 ?_
  refine lv_iload_n hx hb dX7_nearest_158 rfl (lv_at hl 0 rfl) ?_
  refine lv_iadd hx hb dX7_nearest_159 ?_
  refine lv_i2l hx hb dX7_nearest_160 rfl ?_
  refine lv_iload_n hx hb dX7_nearest_161 rfl (lv_at hl 0 rfl) ?_
  refine lv_lshl hx hb dX7_nearest_162 rfl ?_
  refine lv_lload hx hb dX7_nearest_163 (lv_at hl 4 rfl) ?_
  refine lv_ladd hx hb dX7_nearest_165 ?_
  refine lv_topl (fun x16 ex16 => ?_)
  have h := h x16 ex16
  refine lv_lstore (lv' := [(11, .long x16), (3, .int v3), (4, .int v4), (6, .int v6), (7, .int v7), (9, .long v9)]) hx hb dX7_nearest_166 hl (by decide) rfl (fun ls hl => ?_)
  refine lv_iconst (v := (2 : Int32)) hx hb dX7_nearest_168 (by decide) ?_
  refine lv_iload hx hb dX7_nearest_169 (lv_at hl 2 rfl) ?_
  refine lv_imul hx hb dX7_nearest_171 ?_
  refine lv_iconst (v := (1 : Int32)) hx hb dX7_nearest_172 (by decide) ?_
  refine lv_iadd hx hb dX7_nearest_173 ?_
  refine lv_i2l hx hb dX7_nearest_174 rfl ?_
  refine lv_iload_n hx hb dX7_nearest_175 rfl (lv_at hl 1 rfl) ?_
  refine lv_lshl hx hb dX7_nearest_176 rfl ?_
  refine lv_topl (fun x17 ex17 => ?_)
  have h := h x17 ex17
  refine lv_lstore (lv' := [(13, .long x17), (11, .long x16), (3, .int v3), (4, .int v4), (6, .int v6), (7, .int v7), (9, .long v9)]) hx hb dX7_nearest_177 hl (by decide) rfl (fun ls hl => ?_)
  refine lv_lload hx hb dX7_nearest_179 (lv_at hl 1 rfl) ?_
  refine lv_lload hx hb dX7_nearest_181 (lv_at hl 0 rfl) ?_
  refine W.lcmp hx hb dX7_nearest_183 ?_
  refine lv_if_le (tgt := 192) hx hb dX7_nearest_184 (by decide) (fun hc => ?_) (fun hc => ?_)
  · have h := h.1 (zc_le.mp hc)
    refine lv_lload hx hb dX7_nearest_192 (lv_at hl 1 rfl) ?_
    exact zr_rl S hr hlocks hw h dX7_nearest_194
  · have h := h.2 (fun q => hc (zc_le.mpr q))
    refine lv_lload hx hb dX7_nearest_187 (lv_at hl 0 rfl) ?_
    refine lv_goto (tgt := 194) hx hb dX7_nearest_189 (by decide) ?_
    exact zr_rl S hr hlocks hw h dX7_nearest_194
set_option maxHeartbeats 4000000 in
set_option maxRecDepth 100000 in
theorem sX7_nearest_150 {p : Program} {l : Launch} {e : Env} {s : State} {m : MethodId} {args : Array Value} {below : List Frame} {meth : Method} {c : Code} {lo : Nat} {g : zg} {post : Int64 → zm_M → Prop}  (S : CallFix p m c cX7_nearest 15 s args zU RX7) (hr : meth.sig.returnType = (some .long)) (hlocks : meth.locks = false) (hK : zk_K zNF zNM g s)  : ∀ (v3 : Int32) (v4 : Int32) (v6 : Int32) (v7 : Int32) (s0 : Int64) (s1 : Int64) (M : zm_M), pX7_nearest_150 g.2 post  v3 v4 v6 v7 s0 s1 M → ∀ (H : Heap) (locs : List Loc) (ls : Array Slot), zW lo g s H locs M → lv_has ls 15 [(3, .int v3), (4, .int v4), (6, .int v6), (7, .int v7)] → W p l e ({ frames := 1, cells := 0, slots := 0, locals := 40 } : Room) s m args below meth c H locs 0 0 (MQ below (va_Ql post (zc_B lo g) (zA lo)) args s 0 0 (zA lo)) (F0 m 150 ls [.long s1, .long s0]) := by
  obtain ⟨hx, hb, hml, hown, hts⟩ := id S
  intro v3 v4 v6 v7 s0 s1 M h H locs ls hw hl
  unfold pX7_nearest_150 at h
  refine lv_ladd hx hb dX7_nearest_150 ?_
  refine lv_topl (fun x15 ex15 => ?_)
  have h := h x15 ex15
  refine lv_lstore (lv' := [(9, .long x15), (3, .int v3), (4, .int v4), (6, .int v6), (7, .int v7)]) hx hb dX7_nearest_151 hl (by decide) rfl (fun ls hl => ?_)
  exact sX7_nearest_153 S hr hlocks hK  v3 v4 v6 v7 x15 _ h _ _ _ hw (lv_sub hl [1, 2, 3, 4, 0] rfl)
set_option maxHeartbeats 4000000 in
set_option maxRecDepth 100000 in
theorem sX7_nearest_145 {p : Program} {l : Launch} {e : Env} {s : State} {m : MethodId} {args : Array Value} {below : List Frame} {meth : Method} {c : Code} {lo : Nat} {g : zg} {post : Int64 → zm_M → Prop}  (S : CallFix p m c cX7_nearest 15 s args zU RX7) (hr : meth.sig.returnType = (some .long)) (hlocks : meth.locks = false) (hK : zk_K zNF zNM g s)  : ∀ (v3 : Int32) (v4 : Int32) (v6 : Int32) (v7 : Int32) (s0 : Int64) (M : zm_M), pX7_nearest_145 g.2 post  v3 v4 v6 v7 s0 M → ∀ (H : Heap) (locs : List Loc) (ls : Array Slot), zW lo g s H locs M → lv_has ls 15 [(3, .int v3), (4, .int v4), (6, .int v6), (7, .int v7)] → W p l e ({ frames := 1, cells := 0, slots := 0, locals := 40 } : Room) s m args below meth c H locs 0 0 (MQ below (va_Ql post (zc_B lo g) (zA lo)) args s 0 0 (zA lo)) (F0 m 145 ls [.long s0]) := by
  obtain ⟨hx, hb, hml, hown, hts⟩ := id S
  intro v3 v4 v6 v7 s0 M h H locs ls hw hl
  unfold pX7_nearest_145 at h
  refine lv_lconst (v := (1 : Int64)) hx hb dX7_nearest_145 (by decide) ?_
  refine lv_goto (tgt := 150) hx hb dX7_nearest_146 (by decide) ?_
  exact sX7_nearest_150 S hr hlocks hK  v3 v4 v6 v7 s0 (1 : Int64) _ h _ _ _ hw (lv_sub hl [0, 1, 2, 3] rfl)
set_option maxHeartbeats 4000000 in
set_option maxRecDepth 100000 in
theorem sX7_nearest_149 {p : Program} {l : Launch} {e : Env} {s : State} {m : MethodId} {args : Array Value} {below : List Frame} {meth : Method} {c : Code} {lo : Nat} {g : zg} {post : Int64 → zm_M → Prop}  (S : CallFix p m c cX7_nearest 15 s args zU RX7) (hr : meth.sig.returnType = (some .long)) (hlocks : meth.locks = false) (hK : zk_K zNF zNM g s)  : ∀ (v3 : Int32) (v4 : Int32) (v6 : Int32) (v7 : Int32) (s0 : Int64) (M : zm_M), pX7_nearest_149 g.2 post  v3 v4 v6 v7 s0 M → ∀ (H : Heap) (locs : List Loc) (ls : Array Slot), zW lo g s H locs M → lv_has ls 15 [(3, .int v3), (4, .int v4), (6, .int v6), (7, .int v7)] → W p l e ({ frames := 1, cells := 0, slots := 0, locals := 40 } : Room) s m args below meth c H locs 0 0 (MQ below (va_Ql post (zc_B lo g) (zA lo)) args s 0 0 (zA lo)) (F0 m 149 ls [.long s0]) := by
  obtain ⟨hx, hb, hml, hown, hts⟩ := id S
  intro v3 v4 v6 v7 s0 M h H locs ls hw hl
  unfold pX7_nearest_149 at h
  refine lv_lconst (v := (0 : Int64)) hx hb dX7_nearest_149 (by decide) ?_
  exact sX7_nearest_150 S hr hlocks hK  v3 v4 v6 v7 s0 (0 : Int64) _ h _ _ _ hw (lv_sub hl [0, 1, 2, 3] rfl)
set_option maxHeartbeats 4000000 in
set_option maxRecDepth 100000 in
theorem sX7_nearest_57 {p : Program} {l : Launch} {e : Env} {s : State} {m : MethodId} {args : Array Value} {below : List Frame} {meth : Method} {c : Code} {lo : Nat} {g : zg} {post : Int64 → zm_M → Prop}  (S : CallFix p m c cX7_nearest 15 s args zU RX7) (hr : meth.sig.returnType = (some .long)) (hlocks : meth.locks = false) (hK : zk_K zNF zNM g s)  : ∀ (v0 : Int64) (v2 : Int32) (v3 : Int32) (v4 : Int32) (v6 : Int32) (s0 : Int32) (M : zm_M), pX7_nearest_57 g.2 post  v0 v2 v3 v4 v6 s0 M → ∀ (H : Heap) (locs : List Loc) (ls : Array Slot), zW lo g s H locs M → lv_has ls 15 [(0, .long v0), (2, .int v2), (3, .int v3), (4, .int v4), (6, .int v6)] → W p l e ({ frames := 1, cells := 0, slots := 0, locals := 40 } : Room) s m args below meth c H locs 0 0 (MQ below (va_Ql post (zc_B lo g) (zA lo)) args s 0 0 (zA lo)) (F0 m 57 ls [.int s0]) := by
  obtain ⟨hx, hb, hml, hown, hts⟩ := id S
  intro v0 v2 v3 v4 v6 s0 M h H locs ls hw hl
  unfold pX7_nearest_57 at h
  refine lv_iload_n hx hb dX7_nearest_57 rfl (lv_at hl 2 rfl) ?_
  refine lv_isub hx hb dX7_nearest_58 ?_
  refine lv_topi (fun x10 ex10 => ?_)
  have h := h x10 ex10
  refine lv_istore (lv' := [(7, .int x10), (0, .long v0), (2, .int v2), (3, .int v3), (4, .int v4), (6, .int v6)]) hx hb dX7_nearest_59 hl (by decide) rfl (fun ls hl => ?_)
  refine lv_iload hx hb dX7_nearest_61 (lv_at hl 0 rfl) ?_
  refine lv_iload_n hx hb dX7_nearest_63 rfl (lv_at hl 2 rfl) ?_
  refine lv_isub hx hb dX7_nearest_64 ?_
  refine lv_topi (fun x11 ex11 => ?_)
  have h := h x11 ex11
  refine lv_istore (lv' := [(8, .int x11), (7, .int x10), (0, .long v0), (2, .int v2), (3, .int v3), (4, .int v4), (6, .int v6)]) hx hb dX7_nearest_65 hl (by decide) rfl (fun ls hl => ?_)
  refine lv_iload hx hb dX7_nearest_67 (lv_at hl 0 rfl) ?_
  refine lv_if_gt (tgt := 82) hx hb dX7_nearest_69 (by decide) (fun hc => ?_) (fun hc => ?_)
  · have h := h.1 hc
    refine lv_iload hx hb dX7_nearest_82 (lv_at hl 0 rfl) ?_
    refine lv_bipush (v := (62 : Int32)) hx hb dX7_nearest_84 (by decide) ?_
    refine lv_icmp_le (tgt := 95) hx hb dX7_nearest_86 (by decide) (fun hc => ?_) (fun hc => ?_)
    · have h := h.1 hc
      refine lv_lload_n hx hb dX7_nearest_95 rfl (lv_at hl 2 rfl) ?_
      refine lv_iload hx hb dX7_nearest_96 (lv_at hl 0 rfl) ?_
      refine lv_lshr hx hb dX7_nearest_98 rfl ?_
      refine lv_topl (fun x12 ex12 => ?_)
      have h := h x12 ex12
      refine lv_lstore (lv' := [(9, .long x12), (8, .int x11), (7, .int x10), (0, .long v0), (2, .int v2), (3, .int v3), (4, .int v4), (6, .int v6)]) hx hb dX7_nearest_99 hl (by decide) rfl (fun ls hl => ?_)
      refine lv_lload_n hx hb dX7_nearest_101 rfl (lv_at hl 3 rfl) ?_
      refine lv_lload hx hb dX7_nearest_102 (lv_at hl 0 rfl) ?_
      refine lv_iload hx hb dX7_nearest_104 (lv_at hl 1 rfl) ?_
      refine lv_lshl hx hb dX7_nearest_106 rfl ?_
      refine lv_lsub hx hb dX7_nearest_107 ?_
      refine lv_topl (fun x13 ex13 => ?_)
      have h := h x13 ex13
      refine lv_lstore (lv' := [(11, .long x13), (9, .long x12), (8, .int x11), (7, .int x10), (0, .long v0), (2, .int v2), (3, .int v3), (4, .int v4), (6, .int v6)]) hx hb dX7_nearest_108 hl (by decide) rfl (fun ls hl => ?_)
      refine lv_lconst (v := (1 : Int64)) hx hb dX7_nearest_110 (by decide) ?_
      refine lv_iload hx hb dX7_nearest_111 (lv_at hl 2 rfl) ?_
      refine lv_iconst (v := (1 : Int32)) hx hb dX7_nearest_113 (by decide) ?_
      refine lv_isub hx hb dX7_nearest_114 ?_
      refine lv_lshl hx hb dX7_nearest_115 rfl ?_
      refine lv_topl (fun x14 ex14 => ?_)
      have h := h x14 ex14
      refine lv_lstore (lv' := [(13, .long x14), (11, .long x13), (9, .long x12), (8, .int x11), (7, .int x10), (0, .long v0), (2, .int v2), (3, .int v3), (4, .int v4), (6, .int v6)]) hx hb dX7_nearest_116 hl (by decide) rfl (fun ls hl => ?_)
      refine lv_lload hx hb dX7_nearest_118 (lv_at hl 2 rfl) ?_
      refine lv_lload hx hb dX7_nearest_120 (lv_at hl 1 rfl) ?_
      refine lv_lload hx hb dX7_nearest_122 (lv_at hl 0 rfl) ?_
      refine W.lcmp hx hb dX7_nearest_124 ?_
      refine lv_if_gt (tgt := 145) hx hb dX7_nearest_125 (by decide) (fun hc => ?_) (fun hc => ?_)
      · have h := h.1 (zc_gt.mp hc)
        exact sX7_nearest_145 S hr hlocks hK  v3 v4 v6 x10 x12 _ h _ _ _ hw (lv_sub hl [7, 8, 9, 4] rfl)
      · have h := h.2 (fun q => hc (zc_gt.mpr q))
        refine lv_lload hx hb dX7_nearest_128 (lv_at hl 1 rfl) ?_
        refine lv_lload hx hb dX7_nearest_130 (lv_at hl 0 rfl) ?_
        refine W.lcmp hx hb dX7_nearest_132 ?_
        refine lv_if_ne (tgt := 149) hx hb dX7_nearest_133 (by decide) (fun hc => ?_) (fun hc => ?_)
        · have h := h.1 (fun q => hc (zc_eq.mpr q))
          exact sX7_nearest_149 S hr hlocks hK  v3 v4 v6 x10 x12 _ h _ _ _ hw (lv_sub hl [7, 8, 9, 4] rfl)
        · have h := h.2 (zc_eq.mp hc)
          refine lv_lload hx hb dX7_nearest_136 (lv_at hl 2 rfl) ?_
          refine lv_lconst (v := (1 : Int64)) hx hb dX7_nearest_138 (by decide) ?_
          refine lv_land hx hb dX7_nearest_139 ?_
          refine lv_lconst (v := (1 : Int64)) hx hb dX7_nearest_140 (by decide) ?_
          refine W.lcmp hx hb dX7_nearest_141 ?_
          refine lv_if_ne (tgt := 149) hx hb dX7_nearest_142 (by decide) (fun hc => ?_) (fun hc => ?_)
          · have h := h.1 (fun q => hc (zc_eq.mpr q))
            exact sX7_nearest_149 S hr hlocks hK  v3 v4 v6 x10 x12 _ h _ _ _ hw (lv_sub hl [7, 8, 9, 4] rfl)
          · have h := h.2 (zc_eq.mp hc)
            exact sX7_nearest_145 S hr hlocks hK  v3 v4 v6 x10 x12 _ h _ _ _ hw (lv_sub hl [7, 8, 9, 4] rfl)
    · have h := h.2 hc
      refine lv_lconst (v := (0 : Int64)) hx hb dX7_nearest_89 (by decide) ?_
      refine lv_topl (fun x18 ex18 => ?_)
      have h := h x18 ex18
      refine lv_lstore (lv' := [(9, .long x18), (8, .int x11), (7, .int x10), (0, .long v0), (2, .int v2), (3, .int v3), (4, .int v4), (6, .int v6)]) hx hb dX7_nearest_90 hl (by decide) rfl (fun ls hl => ?_)
      refine lv_goto (tgt := 153) hx hb dX7_nearest_92 (by decide) ?_
      exact sX7_nearest_153 S hr hlocks hK  v3 v4 v6 x10 x18 _ h _ _ _ hw (lv_sub hl [5, 6, 7, 2, 0] rfl)
  · have h := h.2 hc
    refine lv_lload_n hx hb dX7_nearest_72 rfl (lv_at hl 2 rfl) ?_
    refine lv_iload hx hb dX7_nearest_73 (lv_at hl 0 rfl) ?_
    refine lv_ineg hx hb dX7_nearest_75 ?_
    refine lv_lshl hx hb dX7_nearest_76 rfl ?_
    refine lv_topl (fun x19 ex19 => ?_)
    have h := h x19 ex19
    refine lv_lstore (lv' := [(9, .long x19), (8, .int x11), (7, .int x10), (0, .long v0), (2, .int v2), (3, .int v3), (4, .int v4), (6, .int v6)]) hx hb dX7_nearest_77 hl (by decide) rfl (fun ls hl => ?_)
    refine lv_goto (tgt := 153) hx hb dX7_nearest_79 (by decide) ?_
    exact sX7_nearest_153 S hr hlocks hK  v3 v4 v6 x10 x19 _ h _ _ _ hw (lv_sub hl [5, 6, 7, 2, 0] rfl)
set_option maxHeartbeats 4000000 in
set_option maxRecDepth 100000 in
theorem sX7_nearest_33 {p : Program} {l : Launch} {e : Env} {s : State} {m : MethodId} {args : Array Value} {below : List Frame} {meth : Method} {c : Code} {lo : Nat} {g : zg} {post : Int64 → zm_M → Prop}  (S : CallFix p m c cX7_nearest 15 s args zU RX7) (hr : meth.sig.returnType = (some .long)) (hlocks : meth.locks = false) (hK : zk_K zNF zNM g s)  : ∀ (v0 : Int64) (v2 : Int32) (v3 : Int32) (v4 : Int32) (v5 : Int32) (M : zm_M), pX7_nearest_33 g.2 post  v0 v2 v3 v4 v5 M → ∀ (H : Heap) (locs : List Loc) (ls : Array Slot), zW lo g s H locs M → lv_has ls 15 [(0, .long v0), (2, .int v2), (3, .int v3), (4, .int v4), (5, .int v5)] → W p l e ({ frames := 1, cells := 0, slots := 0, locals := 40 } : Room) s m args below meth c H locs 0 0 (MQ below (va_Ql post (zc_B lo g) (zA lo)) args s 0 0 (zA lo)) (F0 m 33 ls []) := by
  obtain ⟨hx, hb, hml, hown, hts⟩ := id S
  intro v0 v2 v3 v4 v5 M h H locs ls hw hl
  unfold pX7_nearest_33 at h
  refine lv_iconst (v := (1 : Int32)) hx hb dX7_nearest_33 (by decide) ?_
  refine lv_iload hx hb dX7_nearest_34 (lv_at hl 3 rfl) ?_
  refine lv_isub hx hb dX7_nearest_36 ?_
  refine lv_topi (fun x9 ex9 => ?_)
  have h := h x9 ex9
  refine lv_istore (lv' := [(6, .int x9), (0, .long v0), (2, .int v2), (3, .int v3), (4, .int v4), (5, .int v5)]) hx hb dX7_nearest_37 hl (by decide) rfl (fun ls hl => ?_)
  refine lv_iload hx hb dX7_nearest_39 (lv_at hl 5 rfl) ?_
  refine lv_iload_n hx hb dX7_nearest_41 rfl (lv_at hl 2 rfl) ?_
  refine lv_iadd hx hb dX7_nearest_42 ?_
  refine lv_iload hx hb dX7_nearest_43 (lv_at hl 0 rfl) ?_
  refine lv_icmp_le (tgt := 55) hx hb dX7_nearest_45 (by decide) (fun hc => ?_) (fun hc => ?_)
  · have h := h.1 hc
    refine lv_iload hx hb dX7_nearest_55 (lv_at hl 0 rfl) ?_
    exact sX7_nearest_57 S hr hlocks hK  v0 v2 v3 v4 x9 x9 _ h _ _ _ hw (lv_sub hl [1, 2, 3, 4, 0] rfl)
  · have h := h.2 hc
    refine lv_iload hx hb dX7_nearest_48 (lv_at hl 5 rfl) ?_
    refine lv_iload_n hx hb dX7_nearest_50 rfl (lv_at hl 2 rfl) ?_
    refine lv_iadd hx hb dX7_nearest_51 ?_
    refine lv_goto (tgt := 57) hx hb dX7_nearest_52 (by decide) ?_
    exact sX7_nearest_57 S hr hlocks hK  v0 v2 v3 v4 x9 (v5 + v2) _ h _ _ _ hw (lv_sub hl [1, 2, 3, 4, 0] rfl)
set_option maxHeartbeats 4000000 in
set_option maxRecDepth 100000 in
theorem kX7_nearest (l : Launch) (lo : Nat) (g : zg) (M : zm_M) (a0 : Int64) (a2 : Int32) (a3 : Int32) (a4 : Int32) (post : Int64 → zm_M → Prop) (h : pX7_nearest g.2 a0 a2 a3 a4 post M) : Met l yX7_nearest (Cond.code yX7_nearest cX7_nearest 15 (some .long) :: zU) (({ frames := 1, cells := 0, slots := 0, locals := 40 } : Room)) (zc_P zNF zNM lo g M [.long a0, .int a2, .int a3, .int a4]) (va_Ql post (zc_B lo g) (zA lo)) 0 0 (zA lo) := by
  refine Met.ofW (cc := cX7_nearest) (maxL := 15) (ret := (some .long)) (by decide) rfl ?_
  intro p e s m args below meth c s₁ B hml hv
  obtain ⟨rfl, hR, hK⟩ := hv
  have hts := atoms_spec (ws := Cond.code yX7_nearest cX7_nearest 15 (some .long) :: zU) B.pre
  have hts : ∀ w ∈ zU, w.before _ s = true := fun w hw => hts w (List.mem_cons_of_mem _ hw)
  have hown : s.vm.findClass RX7 = some m.cls := findClass_of_methodNamed B.named
  have hx := B.exec
  have hb := B.bytes
  have hr := B.returns
  have hlocks := B.notSynchronized
  have S : CallFix p m c cX7_nearest 15 s ([.long a0, .int a2, .int a3, .int a4] : List Value).toArray zU RX7 := ⟨hx, hb, hml, hown, hts⟩
  have hw : zW lo g s s.heap [] M := ⟨hR, va_S.rf⟩
  have hl := lv_entry ([.long a0, .int a2, .int a3, .int a4]) (n := 15) (Nat.le_of_ble_eq_true rfl)
  rw [lg_entry_eq]
  generalize (lg_sl ([.long a0, .int a2, .int a3, .int a4]) ++ List.replicate (15 - (lg_sl ([.long a0, .int a2, .int a3, .int a4])).length) Slot.unset).toArray = ls at hl ⊢
  have hl : lv_has ls 15 [(0, .long a0), (2, .int a2), (3, .int a3), (4, .int a4)] := hl
  unfold pX7_nearest at h
  refine lv_lload_n hx hb dX7_nearest_0 rfl (lv_at hl 0 rfl) ?_
  refine lv_lconst (v := (0 : Int64)) hx hb dX7_nearest_1 (by decide) ?_
  refine W.lcmp hx hb dX7_nearest_2 ?_
  refine lv_if_ne (tgt := 8) hx hb dX7_nearest_3 (by decide) (fun hc => ?_) (fun hc => ?_)
  · have h := h.1 (fun q => hc (zc_eq.mpr q))
    refine lv_iconst (v := (0 : Int32)) hx hb dX7_nearest_8 (by decide) ?_
    refine lv_topi (fun x1 ex1 => ?_)
    have h := h x1 ex1
    refine lv_istore (lv' := [(5, .int x1), (0, .long a0), (2, .int a2), (3, .int a3), (4, .int a4)]) hx hb dX7_nearest_9 hl (by decide) rfl (fun ls hl => ?_)
    obtain ⟨n11, h⟩ := h
    refine sX7_nearest_11 S hr hlocks hK (fun w3 w4 w5 w6 w7 M8 h H locs ls hw hl => ?_) n11 a0 a2 a3 a4 x1 _ h _ _ _ hw (lv_sub hl [1, 2, 3, 4, 0] rfl)
    exact sX7_nearest_33 S hr hlocks hK  w3 w4 w5 w6 w7 _ h _ _ _ hw (lv_sub hl [0, 1, 2, 3, 4] rfl)
  · have h := h.2 (zc_eq.mp hc)
    refine lv_lconst (v := (0 : Int64)) hx hb dX7_nearest_6 (by decide) ?_
    exact zr_rl S hr hlocks hw h dX7_nearest_7
set_option maxHeartbeats 4000000 in
set_option maxRecDepth 100000 in
theorem sX7_inForm_93 {p : Program} {l : Launch} {e : Env} {s : State} {m : MethodId} {args : Array Value} {below : List Frame} {meth : Method} {c : Code} {lo : Nat} {g : zg} {post : Int64 → zm_M → Prop}  (S : CallFix p m c cX7_inForm 7 s args zU RX7) (hr : meth.sig.returnType = (some .long)) (hlocks : meth.locks = false) (hK : zk_K zNF zNM g s)  : ∀ (v2 : Int32) (v3 : Int32) (v4 : Int32) (s0 : Int64) (s1 : Int64) (M : zm_M), pX7_inForm_93 g.2 post  v2 v3 v4 s0 s1 M → ∀ (H : Heap) (locs : List Loc) (ls : Array Slot), zW lo g s H locs M → lv_has ls 7 [(2, .int v2), (3, .int v3), (4, .int v4)] → W p l e ({ frames := 4, cells := 0, slots := 0, locals := 112 } : Room) s m args below meth c H locs 0 0 (MQ below (va_Ql post (zc_B lo g) (zA lo)) args s 0 0 (zA lo)) (F0 m 93 ls [.long s1, .long s0]) := by
  obtain ⟨hx, hb, hml, hown, hts⟩ := id S
  intro v2 v3 v4 s0 s1 M h H locs ls hw hl
  unfold pX7_inForm_93 at h
  refine lv_lor hx hb dX7_inForm_93 ?_
  refine lv_topl (fun x16 ex16 => ?_)
  have h := h x16 ex16
  refine lv_lstore (lv' := [(5, .long x16), (2, .int v2), (3, .int v3), (4, .int v4)]) hx hb dX7_inForm_94 hl (by decide) rfl (fun ls hl => ?_)
  refine lv_lload hx hb dX7_inForm_96 (lv_at hl 0 rfl) ?_
  refine lv_iload hx hb dX7_inForm_98 (lv_at hl 3 rfl) ?_
  refine lv_ineg hx hb dX7_inForm_100 ?_
  refine lv_iconst (v := (1 : Int32)) hx hb dX7_inForm_101 (by decide) ?_
  refine lv_isub hx hb dX7_inForm_102 ?_
  refine lv_iload_n hx hb dX7_inForm_103 rfl (lv_at hl 1 rfl) ?_
  refine lv_iload_n hx hb dX7_inForm_104 rfl (lv_at hl 2 rfl) ?_
  refine zr_Sl (As := [.long x16, .int ((-v4) - (1 : Int32)), .int v2, .int v3]) (rest := []) S hK hw (kX7_nearest l lo g M x16 ((-v4) - (1 : Int32)) v2 v3 _ h) (va_cwS 4 hts (zg_S zu_583 zu_584 zu_450 zu_585) rfl rfl rfl (by decide +kernel) ⟨Nat.le_of_ble_eq_true rfl, Nat.le_of_ble_eq_true rfl⟩) rfl hl.1 rfl (Nat.le_of_ble_eq_true rfl) dX7_inForm_105 ⟨Nat.le_of_ble_eq_true rfl, Nat.le_of_ble_eq_true rfl⟩ (fun r18 M17 H locs hw h => ?_)
  exact zr_rl S hr hlocks hw h dX7_inForm_108
set_option maxHeartbeats 4000000 in
set_option maxRecDepth 100000 in
theorem sX7_inForm_64 {p : Program} {l : Launch} {e : Env} {s : State} {m : MethodId} {args : Array Value} {below : List Frame} {meth : Method} {c : Code} {lo : Nat} {g : zg} {post : Int64 → zm_M → Prop}  (S : CallFix p m c cX7_inForm 7 s args zU RX7) (hr : meth.sig.returnType = (some .long)) (hlocks : meth.locks = false) (hK : zk_K zNF zNM g s)  : ∀ (v0 : Nat) (v2 : Int32) (v3 : Int32) (v4 : Int32) (M : zm_M), pX7_inForm_64 g.2 post  v0 v2 v3 v4 M → ∀ (H : Heap) (locs : List Loc) (ls : Array Slot), zW lo g s H locs M → lv_has ls 7 [(0, .ref v0), (2, .int v2), (3, .int v3), (4, .int v4)] → W p l e ({ frames := 4, cells := 0, slots := 0, locals := 112 } : Room) s m args below meth c H locs 0 0 (MQ below (va_Ql post (zc_B lo g) (zA lo)) args s 0 0 (zA lo)) (F0 m 64 ls []) := by
  obtain ⟨hx, hb, hml, hown, hts⟩ := id S
  intro v0 v2 v3 v4 M h H locs ls hw hl
  unfold pX7_inForm_64 at h
  refine lv_aload_n hx hb dX7_inForm_64 rfl (lv_at hl 0 rfl) ?_
  refine lv_iconst (v := (4 : Int32)) hx hb dX7_inForm_65 (by decide) ?_
  refine lv_iconst (v := (5 : Int32)) hx hb dX7_inForm_66 (by decide) ?_
  refine lv_iconst (v := (2 : Int32)) hx hb dX7_inForm_67 (by decide) ?_
  refine lv_iconst (v := (3 : Int32)) hx hb dX7_inForm_68 (by decide) ?_
  obtain ⟨ho, h⟩ := h
  refine zr_Vv (As := [.int (4 : Int32), .int (5 : Int32), .int (2 : Int32), .int (3 : Int32)]) (rest := []) S hK hw (kX7_divide l lo g M v0 (4 : Int32) (5 : Int32) (2 : Int32) (3 : Int32) _ h) (cwV 4 hts (zg_V zu_501 zu_502 zu_503 zu_450 zu_504) rfl rfl rfl (by decide +kernel) ⟨Nat.le_of_ble_eq_true rfl, Nat.le_of_ble_eq_true rfl⟩) (ci := 10) rfl ho rfl hl.1 rfl (Nat.le_of_ble_eq_true rfl) dX7_inForm_69 ⟨Nat.le_of_ble_eq_true rfl, Nat.le_of_ble_eq_true rfl⟩ (fun M11 H locs hw h => ?_)
  refine lv_aload_n hx hb dX7_inForm_72 rfl (lv_at hl 0 rfl) ?_
  refine lv_iconst (v := (4 : Int32)) hx hb dX7_inForm_73 (by decide) ?_
  obtain ⟨ho, h⟩ := h
  refine zr_Vl (As := [.int (4 : Int32)]) (rest := []) S hK hw (kX7_asLong l lo g M11 v0 (4 : Int32) _ h) (cwV 1 hts (zg_V zu_572 zu_573 zu_574 zu_450 zu_575) rfl rfl rfl (by decide +kernel) ⟨Nat.le_of_ble_eq_true rfl, Nat.le_of_ble_eq_true rfl⟩) (ci := 10) rfl ho rfl hl.1 rfl (Nat.le_of_ble_eq_true rfl) dX7_inForm_74 ⟨Nat.le_of_ble_eq_true rfl, Nat.le_of_ble_eq_true rfl⟩ (fun r13 M12 H locs hw h => ?_)
  refine lv_iconst (v := (1 : Int32)) hx hb dX7_inForm_77 (by decide) ?_
  refine lv_lshl hx hb dX7_inForm_78 rfl ?_
  refine lv_aload_n hx hb dX7_inForm_79 rfl (lv_at hl 0 rfl) ?_
  refine zr_ga (C := RX7) (T := TX7) (N := 14) (ci := 10) (k := 10) S hK hw zi_X7 rfl (by decide) zu_444 dX7_inForm_80 h (fun n_14 h => ?_)
  refine lv_iconst (v := (5 : Int32)) hx hb dX7_inForm_83 (by decide) ?_
  refine zr_iald S hK hw dX7_inForm_84 h (fun e15 h => ?_)
  refine lv_if_le (tgt := 92) hx hb dX7_inForm_85 (by decide) (fun hc => ?_) (fun hc => ?_)
  · have h := h.1 hc
    refine lv_lconst (v := (0 : Int64)) hx hb dX7_inForm_92 (by decide) ?_
    exact sX7_inForm_93 S hr hlocks hK  v2 v3 v4 (r13 <<< ((1 : Int32).toInt64 &&& 63)) (0 : Int64) _ h _ _ _ hw (lv_sub hl [1, 2, 3] rfl)
  · have h := h.2 hc
    refine lv_lconst (v := (1 : Int64)) hx hb dX7_inForm_88 (by decide) ?_
    refine lv_goto (tgt := 93) hx hb dX7_inForm_89 (by decide) ?_
    exact sX7_inForm_93 S hr hlocks hK  v2 v3 v4 (r13 <<< ((1 : Int32).toInt64 &&& 63)) (1 : Int64) _ h _ _ _ hw (lv_sub hl [1, 2, 3] rfl)
set_option maxHeartbeats 4000000 in
set_option maxRecDepth 100000 in
theorem kX7_inForm (l : Launch) (lo : Nat) (g : zg) (M : zm_M) (a0 : Nat) (a1 : Int32) (a2 : Int32) (a3 : Int32) (post : Int64 → zm_M → Prop) (h : pX7_inForm g.2 a0 a1 a2 a3 post M) : Met l yX7_inForm (Cond.code yX7_inForm cX7_inForm 7 (some .long) :: zU) (({ frames := 4, cells := 0, slots := 0, locals := 112 } : Room)) (zc_P zNF zNM lo g M [.ref a0, .int a1, .int a2, .int a3]) (va_Ql post (zc_B lo g) (zA lo)) 0 0 (zA lo) := by
  refine Met.ofW (cc := cX7_inForm) (maxL := 7) (ret := (some .long)) (by decide) rfl ?_
  intro p e s m args below meth c s₁ B hml hv
  obtain ⟨rfl, hR, hK⟩ := hv
  have hts := atoms_spec (ws := Cond.code yX7_inForm cX7_inForm 7 (some .long) :: zU) B.pre
  have hts : ∀ w ∈ zU, w.before _ s = true := fun w hw => hts w (List.mem_cons_of_mem _ hw)
  have hown : s.vm.findClass RX7 = some m.cls := findClass_of_methodNamed B.named
  have hx := B.exec
  have hb := B.bytes
  have hr := B.returns
  have hlocks := B.notSynchronized
  have S : CallFix p m c cX7_inForm 7 s ([.ref a0, .int a1, .int a2, .int a3] : List Value).toArray zU RX7 := ⟨hx, hb, hml, hown, hts⟩
  have hw : zW lo g s s.heap [] M := ⟨hR, va_S.rf⟩
  have hl := lv_entry ([.ref a0, .int a1, .int a2, .int a3]) (n := 7) (Nat.le_of_ble_eq_true rfl)
  rw [lg_entry_eq]
  generalize (lg_sl ([.ref a0, .int a1, .int a2, .int a3]) ++ List.replicate (7 - (lg_sl ([.ref a0, .int a1, .int a2, .int a3])).length) Slot.unset).toArray = ls at hl ⊢
  have hl : lv_has ls 7 [(0, .ref a0), (1, .int a1), (2, .int a2), (3, .int a3)] := hl
  unfold pX7_inForm at h
  refine lv_aload_n hx hb dX7_inForm_0 rfl (lv_at hl 0 rfl) ?_
  refine zr_ga (C := RX7) (T := TX7) (N := 14) (ci := 10) (k := 2) S hK hw zi_X7 rfl (by decide) zu_496 dX7_inForm_1 h (fun sign_1 h => ?_)
  refine lv_iload_n hx hb dX7_inForm_4 rfl (lv_at hl 1 rfl) ?_
  refine zr_iald S hK hw dX7_inForm_5 h (fun e2 h => ?_)
  refine lv_if_ne (tgt := 11) hx hb dX7_inForm_6 (by decide) (fun hc => ?_) (fun hc => ?_)
  · have h := h.1 hc
    refine lv_aload_n hx hb dX7_inForm_11 rfl (lv_at hl 0 rfl) ?_
    refine lv_iconst (v := (2 : Int32)) hx hb dX7_inForm_12 (by decide) ?_
    refine lv_iload_n hx hb dX7_inForm_13 rfl (lv_at hl 1 rfl) ?_
    refine lv_iconst (v := (0 : Int32)) hx hb dX7_inForm_14 (by decide) ?_
    obtain ⟨ho, h⟩ := h
    refine zr_Vv (As := [.int (2 : Int32), .int a1, .int (0 : Int32)]) (rest := []) S hK hw (kX7_take l lo g M a0 (2 : Int32) a1 (0 : Int32) _ h) (cwV 3 hts (zg_V zu_521 zu_522 zu_523 zu_450 zu_524) rfl rfl rfl (by decide +kernel) ⟨Nat.le_of_ble_eq_true rfl, Nat.le_of_ble_eq_true rfl⟩) (ci := 10) rfl ho rfl hl.1 rfl (Nat.le_of_ble_eq_true rfl) dX7_inForm_15 ⟨Nat.le_of_ble_eq_true rfl, Nat.le_of_ble_eq_true rfl⟩ (fun M3 H locs hw h => ?_)
    refine lv_aload_n hx hb dX7_inForm_18 rfl (lv_at hl 0 rfl) ?_
    refine lv_iconst (v := (3 : Int32)) hx hb dX7_inForm_19 (by decide) ?_
    refine lv_iload_n hx hb dX7_inForm_20 rfl (lv_at hl 1 rfl) ?_
    refine lv_iconst (v := (1 : Int32)) hx hb dX7_inForm_21 (by decide) ?_
    obtain ⟨ho, h⟩ := h
    refine zr_Vv (As := [.int (3 : Int32), .int a1, .int (1 : Int32)]) (rest := []) S hK hw (kX7_take l lo g M3 a0 (3 : Int32) a1 (1 : Int32) _ h) (cwV 3 hts (zg_V zu_521 zu_522 zu_523 zu_450 zu_524) rfl rfl rfl (by decide +kernel) ⟨Nat.le_of_ble_eq_true rfl, Nat.le_of_ble_eq_true rfl⟩) (ci := 10) rfl ho rfl hl.1 rfl (Nat.le_of_ble_eq_true rfl) dX7_inForm_22 ⟨Nat.le_of_ble_eq_true rfl, Nat.le_of_ble_eq_true rfl⟩ (fun M4 H locs hw h => ?_)
    refine lv_bipush (v := (56 : Int32)) hx hb dX7_inForm_25 (by decide) ?_
    refine lv_aload_n hx hb dX7_inForm_27 rfl (lv_at hl 0 rfl) ?_
    refine lv_iconst (v := (2 : Int32)) hx hb dX7_inForm_28 (by decide) ?_
    obtain ⟨ho, h⟩ := h
    refine zr_Vi (As := [.int (2 : Int32)]) (rest := [.int (56 : Int32)]) S hK hw (kX7_bits l lo g M4 a0 (2 : Int32) _ h) (cwV 1 hts (zg_V zu_488 zu_489 zu_490 zu_450 zu_491) rfl rfl rfl (by decide +kernel) ⟨Nat.le_of_ble_eq_true rfl, Nat.le_of_ble_eq_true rfl⟩) (ci := 10) rfl ho rfl hl.1 rfl (Nat.le_of_ble_eq_true rfl) dX7_inForm_29 ⟨Nat.le_of_ble_eq_true rfl, Nat.le_of_ble_eq_true rfl⟩ (fun r6 M5 H locs hw h => ?_)
    refine lv_aload_n hx hb dX7_inForm_32 rfl (lv_at hl 0 rfl) ?_
    refine lv_iconst (v := (3 : Int32)) hx hb dX7_inForm_33 (by decide) ?_
    obtain ⟨ho, h⟩ := h
    refine zr_Vi (As := [.int (3 : Int32)]) (rest := [.int r6, .int (56 : Int32)]) S hK hw (kX7_bits l lo g M5 a0 (3 : Int32) _ h) (cwV 1 hts (zg_V zu_488 zu_489 zu_490 zu_450 zu_491) rfl rfl rfl (by decide +kernel) ⟨Nat.le_of_ble_eq_true rfl, Nat.le_of_ble_eq_true rfl⟩) (ci := 10) rfl ho rfl hl.1 rfl (Nat.le_of_ble_eq_true rfl) dX7_inForm_34 ⟨Nat.le_of_ble_eq_true rfl, Nat.le_of_ble_eq_true rfl⟩ (fun r8 M7 H locs hw h => ?_)
    refine lv_isub hx hb dX7_inForm_37 ?_
    refine lv_isub hx hb dX7_inForm_38 ?_
    refine lv_topi (fun x9 ex9 => ?_)
    have h := h x9 ex9
    refine lv_istore (lv' := [(4, .int x9), (0, .ref a0), (1, .int a1), (2, .int a2), (3, .int a3)]) hx hb dX7_inForm_39 hl (by decide) rfl (fun ls hl => ?_)
    refine lv_iload hx hb dX7_inForm_41 (lv_at hl 0 rfl) ?_
    refine lv_if_le (tgt := 56) hx hb dX7_inForm_43 (by decide) (fun hc => ?_) (fun hc => ?_)
    · have h := h.1 hc
      refine lv_aload_n hx hb dX7_inForm_56 rfl (lv_at hl 1 rfl) ?_
      refine lv_iconst (v := (3 : Int32)) hx hb dX7_inForm_57 (by decide) ?_
      refine lv_iload hx hb dX7_inForm_58 (lv_at hl 0 rfl) ?_
      refine lv_ineg hx hb dX7_inForm_60 ?_
      obtain ⟨ho, h⟩ := h
      refine zr_Vv (As := [.int (3 : Int32), .int (-x9)]) (rest := []) S hK hw (kX7_up l lo g M7 a0 (3 : Int32) (-x9) _ h) (cwV 2 hts (zg_V zu_477 zu_478 zu_479 zu_450 zu_480) rfl rfl rfl (by decide +kernel) ⟨Nat.le_of_ble_eq_true rfl, Nat.le_of_ble_eq_true rfl⟩) (ci := 10) rfl ho rfl hl.1 rfl (Nat.le_of_ble_eq_true rfl) dX7_inForm_61 ⟨Nat.le_of_ble_eq_true rfl, Nat.le_of_ble_eq_true rfl⟩ (fun M10 H locs hw h => ?_)
      exact sX7_inForm_64 S hr hlocks hK  a0 a2 a3 x9 _ h _ _ _ hw (lv_sub hl [1, 3, 4, 0] rfl)
    · have h := h.2 hc
      refine lv_aload_n hx hb dX7_inForm_46 rfl (lv_at hl 1 rfl) ?_
      refine lv_iconst (v := (2 : Int32)) hx hb dX7_inForm_47 (by decide) ?_
      refine lv_iload hx hb dX7_inForm_48 (lv_at hl 0 rfl) ?_
      obtain ⟨ho, h⟩ := h
      refine zr_Vv (As := [.int (2 : Int32), .int x9]) (rest := []) S hK hw (kX7_up l lo g M7 a0 (2 : Int32) x9 _ h) (cwV 2 hts (zg_V zu_477 zu_478 zu_479 zu_450 zu_480) rfl rfl rfl (by decide +kernel) ⟨Nat.le_of_ble_eq_true rfl, Nat.le_of_ble_eq_true rfl⟩) (ci := 10) rfl ho rfl hl.1 rfl (Nat.le_of_ble_eq_true rfl) dX7_inForm_50 ⟨Nat.le_of_ble_eq_true rfl, Nat.le_of_ble_eq_true rfl⟩ (fun M19 H locs hw h => ?_)
      refine lv_goto (tgt := 64) hx hb dX7_inForm_53 (by decide) ?_
      exact sX7_inForm_64 S hr hlocks hK  a0 a2 a3 x9 _ h _ _ _ hw (lv_sub hl [1, 3, 4, 0] rfl)
  · have h := h.2 hc
    refine lv_lconst (v := (0 : Int64)) hx hb dX7_inForm_9 (by decide) ?_
    exact zr_rl S hr hlocks hw h dX7_inForm_10
set_option maxHeartbeats 4000000 in
set_option maxRecDepth 100000 in
theorem kX7_real (l : Launch) (lo : Nat) (g : zg) (M : zm_M) (a0 : Nat) (a1 : Int32) (post : Int64 → zm_M → Prop) (h : pX7_real g.2 a0 a1 post M) : Met l yX7_real (Cond.code yX7_real cX7_real 2 (some .long) :: zU) (({ frames := 5, cells := 0, slots := 0, locals := 138 } : Room)) (zc_P zNF zNM lo g M [.ref a0, .int a1]) (va_Ql post (zc_B lo g) (zA lo)) 0 0 (zA lo) := by
  refine Met.ofW (cc := cX7_real) (maxL := 2) (ret := (some .long)) (by decide) rfl ?_
  intro p e s m args below meth c s₁ B hml hv
  obtain ⟨rfl, hR, hK⟩ := hv
  have hts := atoms_spec (ws := Cond.code yX7_real cX7_real 2 (some .long) :: zU) B.pre
  have hts : ∀ w ∈ zU, w.before _ s = true := fun w hw => hts w (List.mem_cons_of_mem _ hw)
  have hown : s.vm.findClass RX7 = some m.cls := findClass_of_methodNamed B.named
  have hx := B.exec
  have hb := B.bytes
  have hr := B.returns
  have hlocks := B.notSynchronized
  have S : CallFix p m c cX7_real 2 s ([.ref a0, .int a1] : List Value).toArray zU RX7 := ⟨hx, hb, hml, hown, hts⟩
  have hw : zW lo g s s.heap [] M := ⟨hR, va_S.rf⟩
  have hl := lv_entry ([.ref a0, .int a1]) (n := 2) (Nat.le_of_ble_eq_true rfl)
  rw [lg_entry_eq]
  generalize (lg_sl ([.ref a0, .int a1]) ++ List.replicate (2 - (lg_sl ([.ref a0, .int a1])).length) Slot.unset).toArray = ls at hl ⊢
  have hl : lv_has ls 2 [(0, .ref a0), (1, .int a1)] := hl
  unfold pX7_real at h
  refine lv_aload_n hx hb dX7_real_0 rfl (lv_at hl 0 rfl) ?_
  refine lv_iconst (v := (0 : Int32)) hx hb dX7_real_1 (by decide) ?_
  refine zr_p (C := RX7) (T := TX7) (N := 14) (ci := 10) (k := 0) S hK hw zi_X7 tyX7 tyX7_ok nmX7 rfl (by decide) zu_443 rfl rfl rfl dX7_real_2 h (fun M1 H locs hw h => ?_)
  refine lv_aload_n hx hb dX7_real_5 rfl (lv_at hl 0 rfl) ?_
  refine lv_iload_n hx hb dX7_real_6 rfl (lv_at hl 1 rfl) ?_
  obtain ⟨ho, h⟩ := h
  refine zr_Vi (As := [.int a1]) (rest := []) S hK hw (kX7_isNumber l lo g M1 a0 a1 _ h) (cwV 1 hts (zg_V zu_517 zu_518 zu_519 zu_450 zu_520) rfl rfl rfl (by decide +kernel) ⟨Nat.le_of_ble_eq_true rfl, Nat.le_of_ble_eq_true rfl⟩) (ci := 10) rfl ho rfl hl.1 rfl (Nat.le_of_ble_eq_true rfl) dX7_real_7 ⟨Nat.le_of_ble_eq_true rfl, Nat.le_of_ble_eq_true rfl⟩ (fun r3 M2 H locs hw h => ?_)
  refine lv_if_ne (tgt := 17) hx hb dX7_real_10 (by decide) (fun hc => ?_) (fun hc => ?_)
  · have h := h.1 hc
    refine lv_aload_n hx hb dX7_real_17 rfl (lv_at hl 0 rfl) ?_
    refine lv_iload_n hx hb dX7_real_18 rfl (lv_at hl 1 rfl) ?_
    refine lv_bipush (v := (52 : Int32)) hx hb dX7_real_19 (by decide) ?_
    refine lv_sipush (v := (1023 : Int32)) hx hb dX7_real_21 (by decide) ?_
    obtain ⟨ho, h⟩ := h
    refine zr_Vl (As := [.int a1, .int (52 : Int32), .int (1023 : Int32)]) (rest := []) S hK hw (kX7_inForm l lo g M2 a0 a1 (52 : Int32) (1023 : Int32) _ h) (cwV 3 hts (zg_V zu_586 zu_587 zu_588 zu_450 zu_589) rfl rfl rfl (by decide +kernel) ⟨Nat.le_of_ble_eq_true rfl, Nat.le_of_ble_eq_true rfl⟩) (ci := 10) rfl ho rfl hl.1 rfl (Nat.le_of_ble_eq_true rfl) dX7_real_24 ⟨Nat.le_of_ble_eq_true rfl, Nat.le_of_ble_eq_true rfl⟩ (fun r5 M4 H locs hw h => ?_)
    refine lv_aload_n hx hb dX7_real_27 rfl (lv_at hl 0 rfl) ?_
    refine zr_ga (C := RX7) (T := TX7) (N := 14) (ci := 10) (k := 2) S hK hw zi_X7 rfl (by decide) zu_496 dX7_real_28 h (fun sign_6 h => ?_)
    refine lv_iload_n hx hb dX7_real_31 rfl (lv_at hl 1 rfl) ?_
    refine zr_iald S hK hw dX7_real_32 h (fun e7 h => ?_)
    refine lv_if_ge (tgt := 42) hx hb dX7_real_33 (by decide) (fun hc => ?_) (fun hc => ?_)
    · have h := h.1 hc
      refine lv_lconst (v := (0 : Int64)) hx hb dX7_real_42 (by decide) ?_
      refine lv_lor hx hb dX7_real_43 ?_
      exact zr_rl S hr hlocks hw h dX7_real_44
    · have h := h.2 hc
      refine lv_ldc2 (v := (-9223372036854775808 : Int64)) hx hb hown (hts _ zu_582) dX7_real_36 ?_
      refine lv_goto (tgt := 43) hx hb dX7_real_39 (by decide) ?_
      refine lv_lor hx hb dX7_real_43 ?_
      exact zr_rl S hr hlocks hw h dX7_real_44
  · have h := h.2 hc
    refine lv_ldc2 (v := (-1 : Int64)) hx hb hown (hts _ zu_580) dX7_real_13 ?_
    exact zr_rl S hr hlocks hw h dX7_real_16
set_option maxHeartbeats 4000000 in
set_option maxRecDepth 100000 in
theorem kX7_single (l : Launch) (lo : Nat) (g : zg) (M : zm_M) (a0 : Nat) (a1 : Int32) (post : Int32 → zm_M → Prop) (h : pX7_single g.2 a0 a1 post M) : Met l yX7_single (Cond.code yX7_single cX7_single 2 (some .int) :: zU) (({ frames := 5, cells := 0, slots := 0, locals := 138 } : Room)) (zc_P zNF zNM lo g M [.ref a0, .int a1]) (va_Qi post (zc_B lo g) (zA lo)) 0 0 (zA lo) := by
  refine Met.ofW (cc := cX7_single) (maxL := 2) (ret := (some .int)) (by decide) rfl ?_
  intro p e s m args below meth c s₁ B hml hv
  obtain ⟨rfl, hR, hK⟩ := hv
  have hts := atoms_spec (ws := Cond.code yX7_single cX7_single 2 (some .int) :: zU) B.pre
  have hts : ∀ w ∈ zU, w.before _ s = true := fun w hw => hts w (List.mem_cons_of_mem _ hw)
  have hown : s.vm.findClass RX7 = some m.cls := findClass_of_methodNamed B.named
  have hx := B.exec
  have hb := B.bytes
  have hr := B.returns
  have hlocks := B.notSynchronized
  have S : CallFix p m c cX7_single 2 s ([.ref a0, .int a1] : List Value).toArray zU RX7 := ⟨hx, hb, hml, hown, hts⟩
  have hw : zW lo g s s.heap [] M := ⟨hR, va_S.rf⟩
  have hl := lv_entry ([.ref a0, .int a1]) (n := 2) (Nat.le_of_ble_eq_true rfl)
  rw [lg_entry_eq]
  generalize (lg_sl ([.ref a0, .int a1]) ++ List.replicate (2 - (lg_sl ([.ref a0, .int a1])).length) Slot.unset).toArray = ls at hl ⊢
  have hl : lv_has ls 2 [(0, .ref a0), (1, .int a1)] := hl
  unfold pX7_single at h
  refine lv_aload_n hx hb dX7_single_0 rfl (lv_at hl 0 rfl) ?_
  refine lv_iconst (v := (0 : Int32)) hx hb dX7_single_1 (by decide) ?_
  refine zr_p (C := RX7) (T := TX7) (N := 14) (ci := 10) (k := 0) S hK hw zi_X7 tyX7 tyX7_ok nmX7 rfl (by decide) zu_443 rfl rfl rfl dX7_single_2 h (fun M1 H locs hw h => ?_)
  refine lv_aload_n hx hb dX7_single_5 rfl (lv_at hl 0 rfl) ?_
  refine lv_iload_n hx hb dX7_single_6 rfl (lv_at hl 1 rfl) ?_
  obtain ⟨ho, h⟩ := h
  refine zr_Vi (As := [.int a1]) (rest := []) S hK hw (kX7_isNumber l lo g M1 a0 a1 _ h) (cwV 1 hts (zg_V zu_517 zu_518 zu_519 zu_450 zu_520) rfl rfl rfl (by decide +kernel) ⟨Nat.le_of_ble_eq_true rfl, Nat.le_of_ble_eq_true rfl⟩) (ci := 10) rfl ho rfl hl.1 rfl (Nat.le_of_ble_eq_true rfl) dX7_single_7 ⟨Nat.le_of_ble_eq_true rfl, Nat.le_of_ble_eq_true rfl⟩ (fun r3 M2 H locs hw h => ?_)
  refine lv_if_ne (tgt := 15) hx hb dX7_single_10 (by decide) (fun hc => ?_) (fun hc => ?_)
  · have h := h.1 hc
    refine lv_aload_n hx hb dX7_single_15 rfl (lv_at hl 0 rfl) ?_
    refine lv_iload_n hx hb dX7_single_16 rfl (lv_at hl 1 rfl) ?_
    refine lv_bipush (v := (23 : Int32)) hx hb dX7_single_17 (by decide) ?_
    refine lv_bipush (v := (127 : Int32)) hx hb dX7_single_19 (by decide) ?_
    obtain ⟨ho, h⟩ := h
    refine zr_Vl (As := [.int a1, .int (23 : Int32), .int (127 : Int32)]) (rest := []) S hK hw (kX7_inForm l lo g M2 a0 a1 (23 : Int32) (127 : Int32) _ h) (cwV 3 hts (zg_V zu_586 zu_587 zu_588 zu_450 zu_589) rfl rfl rfl (by decide +kernel) ⟨Nat.le_of_ble_eq_true rfl, Nat.le_of_ble_eq_true rfl⟩) (ci := 10) rfl ho rfl hl.1 rfl (Nat.le_of_ble_eq_true rfl) dX7_single_21 ⟨Nat.le_of_ble_eq_true rfl, Nat.le_of_ble_eq_true rfl⟩ (fun r5 M4 H locs hw h => ?_)
    refine lv_aload_n hx hb dX7_single_24 rfl (lv_at hl 0 rfl) ?_
    refine zr_ga (C := RX7) (T := TX7) (N := 14) (ci := 10) (k := 2) S hK hw zi_X7 rfl (by decide) zu_496 dX7_single_25 h (fun sign_6 h => ?_)
    refine lv_iload_n hx hb dX7_single_28 rfl (lv_at hl 1 rfl) ?_
    refine zr_iald S hK hw dX7_single_29 h (fun e7 h => ?_)
    refine lv_if_ge (tgt := 39) hx hb dX7_single_30 (by decide) (fun hc => ?_) (fun hc => ?_)
    · have h := h.1 hc
      refine lv_lconst (v := (0 : Int64)) hx hb dX7_single_39 (by decide) ?_
      refine lv_lor hx hb dX7_single_40 ?_
      refine lv_l2i hx hb dX7_single_41 rfl ?_
      exact zr_ri S hr hlocks hw h dX7_single_42
    · have h := h.2 hc
      refine lv_ldc2 (v := (2147483648 : Int64)) hx hb hown (hts _ zu_452) dX7_single_33 ?_
      refine lv_goto (tgt := 40) hx hb dX7_single_36 (by decide) ?_
      refine lv_lor hx hb dX7_single_40 ?_
      refine lv_l2i hx hb dX7_single_41 rfl ?_
      exact zr_ri S hr hlocks hw h dX7_single_42
  · have h := h.2 hc
    refine lv_iconst (v := (-1 : Int32)) hx hb dX7_single_13 (by decide) ?_
    exact zr_ri S hr hlocks hw h dX7_single_14
set_option maxHeartbeats 4000000 in
set_option maxRecDepth 100000 in
theorem sX7_ofReal_95 {p : Program} {l : Launch} {e : Env} {s : State} {m : MethodId} {args : Array Value} {below : List Frame} {meth : Method} {c : Code} {lo : Nat} {g : zg} {post : Int32 → zm_M → Prop} {k128 : Nat → Int64 → Int32 → zm_M → Prop} (S : CallFix p m c cX7_ofReal 7 s args zU RX7) (hr : meth.sig.returnType = (some .int)) (hlocks : meth.locks = false) (hK : zk_K zNF zNM g s) (hk128 : ∀ (v0 : Nat) (v1 : Int64) (v6 : Int32) (M : zm_M), k128 v0 v1 v6 M → ∀ (H : Heap) (locs : List Loc) (ls : Array Slot), zW lo g s H locs M → lv_has ls 7 [(0, .ref v0), (1, .long v1), (6, .int v6)] → W p l e ({ frames := 4, cells := 0, slots := 0, locals := 111 } : Room) s m args below meth c H locs 0 0 (MQ below (va_Qi post (zc_B lo g) (zA lo)) args s 0 0 (zA lo)) (F0 m 128 ls [])) : ∀ (n : Nat) (v0 : Nat) (v1 : Int64) (v6 : Int32) (M : zm_M), pX7_ofReal_95 g.2 post k128 n v0 v1 v6 M → ∀ (H : Heap) (locs : List Loc) (ls : Array Slot), zW lo g s H locs M → lv_has ls 7 [(0, .ref v0), (1, .long v1), (6, .int v6)] → W p l e ({ frames := 4, cells := 0, slots := 0, locals := 111 } : Room) s m args below meth c H locs 0 0 (MQ below (va_Qi post (zc_B lo g) (zA lo)) args s 0 0 (zA lo)) (F0 m 95 ls []) := by
  obtain ⟨hx, hb, hml, hown, hts⟩ := id S
  intro n
  induction n with
  | zero =>
    intro v0 v1 v6 M h
    exact False.elim h
  | succ n95 ih =>
    intro v0 v1 v6 M h H locs ls hw hl
    rw [pX7_ofReal_95] at h
    refine lv_iload hx hb dX7_ofReal_95 (lv_at hl 2 rfl) ?_
    refine lv_if_ge (tgt := 128) hx hb dX7_ofReal_97 (by decide) (fun hc => ?_) (fun hc => ?_)
    · have h := h.1 hc
      exact hk128 v0 v1 v6 _ h _ _ _ hw (lv_sub hl [0, 1, 2] rfl)
    · have h := h.2 hc
      refine lv_aload_n hx hb dX7_ofReal_100 rfl (lv_at hl 0 rfl) ?_
      refine zr_ga (C := RX7) (T := TX7) (N := 14) (ci := 10) (k := 10) S hK hw zi_X7 rfl (by decide) zu_444 dX7_ofReal_101 h (fun n_9 h => ?_)
      refine lv_iconst (v := (0 : Int32)) hx hb dX7_ofReal_104 (by decide) ?_
      refine zr_iald S hK hw dX7_ofReal_105 h (fun e10 h => ?_)
      refine lv_if_le (tgt := 128) hx hb dX7_ofReal_106 (by decide) (fun hc => ?_) (fun hc => ?_)
      · have h := h.1 hc
        exact hk128 v0 v1 v6 _ h _ _ _ hw (lv_sub hl [0, 1, 2] rfl)
      · have h := h.2 hc
        refine lv_aload_n hx hb dX7_ofReal_109 rfl (lv_at hl 0 rfl) ?_
        refine lv_iconst (v := (0 : Int32)) hx hb dX7_ofReal_110 (by decide) ?_
        obtain ⟨ho, h⟩ := h
        refine zr_Vi (As := [.int (0 : Int32)]) (rest := []) S hK hw (kX7_isOdd l lo g M v0 (0 : Int32) _ h) (cwV 1 hts (zg_V zu_469 zu_470 zu_471 zu_450 zu_472) rfl rfl rfl (by decide +kernel) ⟨Nat.le_of_ble_eq_true rfl, Nat.le_of_ble_eq_true rfl⟩) (ci := 10) rfl ho rfl hl.1 rfl (Nat.le_of_ble_eq_true rfl) dX7_ofReal_111 ⟨Nat.le_of_ble_eq_true rfl, Nat.le_of_ble_eq_true rfl⟩ (fun r12 M11 H locs hw h => ?_)
        refine lv_if_ne (tgt := 128) hx hb dX7_ofReal_114 (by decide) (fun hc => ?_) (fun hc => ?_)
        · have h := h.1 hc
          exact hk128 v0 v1 v6 _ h _ _ _ hw (lv_sub hl [0, 1, 2] rfl)
        · have h := h.2 hc
          refine lv_aload_n hx hb dX7_ofReal_117 rfl (lv_at hl 0 rfl) ?_
          refine lv_iconst (v := (0 : Int32)) hx hb dX7_ofReal_118 (by decide) ?_
          obtain ⟨ho, h⟩ := h
          refine zr_Vv (As := [.int (0 : Int32)]) (rest := []) S hK hw (kX7_half l lo g M11 v0 (0 : Int32) _ h) (cwV 1 hts (zg_V zu_473 zu_474 zu_475 zu_450 zu_476) rfl rfl rfl (by decide +kernel) ⟨Nat.le_of_ble_eq_true rfl, Nat.le_of_ble_eq_true rfl⟩) (ci := 10) rfl ho rfl hl.1 rfl (Nat.le_of_ble_eq_true rfl) dX7_ofReal_119 ⟨Nat.le_of_ble_eq_true rfl, Nat.le_of_ble_eq_true rfl⟩ (fun M13 H locs hw h => ?_)
          obtain ⟨x14, ex14⟩ : ∃ z : Int32, z = v6 + (1 : Int32) := ⟨_, rfl⟩
          have h := h x14 ex14
          refine lv_iinc (v := x14) (lv' := [(6, .int x14), (0, .ref v0), (1, .long v1)]) hx hb dX7_ofReal_122 hl (k := 2) rfl (by rw [ex14]; rfl) (by decide) rfl (fun ls hl => ?_)
          refine lv_goto (tgt := 95) hx hb dX7_ofReal_125 (by decide) ?_
          exact ih v0 v1 x14 _ h _ _ _ hw (lv_sub hl [1, 2, 0] rfl)
set_option maxHeartbeats 4000000 in
set_option maxRecDepth 100000 in
theorem sX7_ofReal_176 {p : Program} {l : Launch} {e : Env} {s : State} {m : MethodId} {args : Array Value} {below : List Frame} {meth : Method} {c : Code} {lo : Nat} {g : zg} {post : Int32 → zm_M → Prop}  (S : CallFix p m c cX7_ofReal 7 s args zU RX7) (hr : meth.sig.returnType = (some .int)) (hlocks : meth.locks = false) (hK : zk_K zNF zNM g s)  : ∀ (s0 : Nat) (s1 : Int32) (M : zm_M), pX7_ofReal_176 g.2 post  s0 s1 M → ∀ (H : Heap) (locs : List Loc) (ls : Array Slot), zW lo g s H locs M → lv_has ls 7 [] → W p l e ({ frames := 4, cells := 0, slots := 0, locals := 111 } : Room) s m args below meth c H locs 0 0 (MQ below (va_Qi post (zc_B lo g) (zA lo)) args s 0 0 (zA lo)) (F0 m 176 ls [.int s1, .ref s0]) := by
  obtain ⟨hx, hb, hml, hown, hts⟩ := id S
  intro s0 s1 M h H locs ls hw hl
  unfold pX7_ofReal_176 at h
  obtain ⟨ho, h⟩ := h
  refine zr_Vi (As := [.int s1]) (rest := []) S hK hw (kX7_keep l lo g M s0 s1 _ h) (cwV 1 hts (zg_V zu_505 zu_506 zu_507 zu_450 zu_508) rfl rfl rfl (by decide +kernel) ⟨Nat.le_of_ble_eq_true rfl, Nat.le_of_ble_eq_true rfl⟩) (ci := 10) rfl ho rfl hl.1 rfl (Nat.le_of_ble_eq_true rfl) dX7_ofReal_176 ⟨Nat.le_of_ble_eq_true rfl, Nat.le_of_ble_eq_true rfl⟩ (fun r22 M21 H locs hw h => ?_)
  exact zr_ri S hr hlocks hw h dX7_ofReal_179
set_option maxHeartbeats 4000000 in
set_option maxRecDepth 100000 in
theorem sX7_ofReal_164 {p : Program} {l : Launch} {e : Env} {s : State} {m : MethodId} {args : Array Value} {below : List Frame} {meth : Method} {c : Code} {lo : Nat} {g : zg} {post : Int32 → zm_M → Prop}  (S : CallFix p m c cX7_ofReal 7 s args zU RX7) (hr : meth.sig.returnType = (some .int)) (hlocks : meth.locks = false) (hK : zk_K zNF zNM g s)  : ∀ (v0 : Nat) (v1 : Int64) (M : zm_M), pX7_ofReal_164 g.2 post  v0 v1 M → ∀ (H : Heap) (locs : List Loc) (ls : Array Slot), zW lo g s H locs M → lv_has ls 7 [(0, .ref v0), (1, .long v1)] → W p l e ({ frames := 4, cells := 0, slots := 0, locals := 111 } : Room) s m args below meth c H locs 0 0 (MQ below (va_Qi post (zc_B lo g) (zA lo)) args s 0 0 (zA lo)) (F0 m 164 ls []) := by
  obtain ⟨hx, hb, hml, hown, hts⟩ := id S
  intro v0 v1 M h H locs ls hw hl
  unfold pX7_ofReal_164 at h
  refine lv_aload_n hx hb dX7_ofReal_164 rfl (lv_at hl 0 rfl) ?_
  refine lv_lload_n hx hb dX7_ofReal_165 rfl (lv_at hl 1 rfl) ?_
  refine lv_lconst (v := (0 : Int64)) hx hb dX7_ofReal_166 (by decide) ?_
  refine W.lcmp hx hb dX7_ofReal_167 ?_
  refine lv_if_ge (tgt := 175) hx hb dX7_ofReal_168 (by decide) (fun hc => ?_) (fun hc => ?_)
  · have h := h.1 (zc_ge.mp hc)
    refine lv_iconst (v := (1 : Int32)) hx hb dX7_ofReal_175 (by decide) ?_
    exact sX7_ofReal_176 S hr hlocks hK  v0 (1 : Int32) _ h _ _ _ hw (lv_sub hl [] rfl)
  · have h := h.2 (fun q => hc (zc_ge.mpr q))
    refine lv_iconst (v := (-1 : Int32)) hx hb dX7_ofReal_171 (by decide) ?_
    refine lv_goto (tgt := 176) hx hb dX7_ofReal_172 (by decide) ?_
    exact sX7_ofReal_176 S hr hlocks hK  v0 (-1 : Int32) _ h _ _ _ hw (lv_sub hl [] rfl)
set_option maxHeartbeats 4000000 in
set_option maxRecDepth 100000 in
theorem sX7_ofReal_161 {p : Program} {l : Launch} {e : Env} {s : State} {m : MethodId} {args : Array Value} {below : List Frame} {meth : Method} {c : Code} {lo : Nat} {g : zg} {post : Int32 → zm_M → Prop}  (S : CallFix p m c cX7_ofReal 7 s args zU RX7) (hr : meth.sig.returnType = (some .int)) (hlocks : meth.locks = false) (hK : zk_K zNF zNM g s)  : ∀ (v0 : Nat) (v1 : Int64) (s0 : Nat) (s1 : Int32) (s2 : Int32) (M : zm_M), pX7_ofReal_161 g.2 post  v0 v1 s0 s1 s2 M → ∀ (H : Heap) (locs : List Loc) (ls : Array Slot), zW lo g s H locs M → lv_has ls 7 [(0, .ref v0), (1, .long v1)] → W p l e ({ frames := 4, cells := 0, slots := 0, locals := 111 } : Room) s m args below meth c H locs 0 0 (MQ below (va_Qi post (zc_B lo g) (zA lo)) args s 0 0 (zA lo)) (F0 m 161 ls [.int s2, .int s1, .ref s0]) := by
  obtain ⟨hx, hb, hml, hown, hts⟩ := id S
  intro v0 v1 s0 s1 s2 M h H locs ls hw hl
  unfold pX7_ofReal_161 at h
  obtain ⟨ho, h⟩ := h
  refine zr_Vv (As := [.int s1, .int s2]) (rest := []) S hK hw (kX7_up l lo g M s0 s1 s2 _ h) (cwV 2 hts (zg_V zu_477 zu_478 zu_479 zu_450 zu_480) rfl rfl rfl (by decide +kernel) ⟨Nat.le_of_ble_eq_true rfl, Nat.le_of_ble_eq_true rfl⟩) (ci := 10) rfl ho rfl hl.1 rfl (Nat.le_of_ble_eq_true rfl) dX7_ofReal_161 ⟨Nat.le_of_ble_eq_true rfl, Nat.le_of_ble_eq_true rfl⟩ (fun M23 H locs hw h => ?_)
  exact sX7_ofReal_164 S hr hlocks hK  v0 v1 _ h _ _ _ hw (lv_sub hl [0, 1] rfl)
set_option maxHeartbeats 4000000 in
set_option maxRecDepth 100000 in
theorem sX7_ofReal_148 {p : Program} {l : Launch} {e : Env} {s : State} {m : MethodId} {args : Array Value} {below : List Frame} {meth : Method} {c : Code} {lo : Nat} {g : zg} {post : Int32 → zm_M → Prop}  (S : CallFix p m c cX7_ofReal 7 s args zU RX7) (hr : meth.sig.returnType = (some .int)) (hlocks : meth.locks = false) (hK : zk_K zNF zNM g s)  : ∀ (v0 : Nat) (v1 : Int64) (v6 : Int32) (s0 : Nat) (s1 : Int32) (M : zm_M), pX7_ofReal_148 g.2 post  v0 v1 v6 s0 s1 M → ∀ (H : Heap) (locs : List Loc) (ls : Array Slot), zW lo g s H locs M → lv_has ls 7 [(0, .ref v0), (1, .long v1), (6, .int v6)] → W p l e ({ frames := 4, cells := 0, slots := 0, locals := 111 } : Room) s m args below meth c H locs 0 0 (MQ below (va_Qi post (zc_B lo g) (zA lo)) args s 0 0 (zA lo)) (F0 m 148 ls [.int s1, .ref s0]) := by
  obtain ⟨hx, hb, hml, hown, hts⟩ := id S
  intro v0 v1 v6 s0 s1 M h H locs ls hw hl
  unfold pX7_ofReal_148 at h
  refine lv_iload hx hb dX7_ofReal_148 (lv_at hl 2 rfl) ?_
  refine lv_if_ge (tgt := 159) hx hb dX7_ofReal_150 (by decide) (fun hc => ?_) (fun hc => ?_)
  · have h := h.1 hc
    refine lv_iload hx hb dX7_ofReal_159 (lv_at hl 2 rfl) ?_
    exact sX7_ofReal_161 S hr hlocks hK  v0 v1 s0 s1 v6 _ h _ _ _ hw (lv_sub hl [0, 1] rfl)
  · have h := h.2 hc
    refine lv_iload hx hb dX7_ofReal_153 (lv_at hl 2 rfl) ?_
    refine lv_ineg hx hb dX7_ofReal_155 ?_
    refine lv_goto (tgt := 161) hx hb dX7_ofReal_156 (by decide) ?_
    exact sX7_ofReal_161 S hr hlocks hK  v0 v1 s0 s1 (-v6) _ h _ _ _ hw (lv_sub hl [0, 1] rfl)
set_option maxHeartbeats 4000000 in
set_option maxRecDepth 100000 in
theorem sX7_ofReal_128 {p : Program} {l : Launch} {e : Env} {s : State} {m : MethodId} {args : Array Value} {below : List Frame} {meth : Method} {c : Code} {lo : Nat} {g : zg} {post : Int32 → zm_M → Prop}  (S : CallFix p m c cX7_ofReal 7 s args zU RX7) (hr : meth.sig.returnType = (some .int)) (hlocks : meth.locks = false) (hK : zk_K zNF zNM g s)  : ∀ (v0 : Nat) (v1 : Int64) (v6 : Int32) (M : zm_M), pX7_ofReal_128 g.2 post  v0 v1 v6 M → ∀ (H : Heap) (locs : List Loc) (ls : Array Slot), zW lo g s H locs M → lv_has ls 7 [(0, .ref v0), (1, .long v1), (6, .int v6)] → W p l e ({ frames := 4, cells := 0, slots := 0, locals := 111 } : Room) s m args below meth c H locs 0 0 (MQ below (va_Qi post (zc_B lo g) (zA lo)) args s 0 0 (zA lo)) (F0 m 128 ls []) := by
  obtain ⟨hx, hb, hml, hown, hts⟩ := id S
  intro v0 v1 v6 M h H locs ls hw hl
  unfold pX7_ofReal_128 at h
  refine lv_aload_n hx hb dX7_ofReal_128 rfl (lv_at hl 0 rfl) ?_
  refine zr_ga (C := RX7) (T := TX7) (N := 14) (ci := 10) (k := 10) S hK hw zi_X7 rfl (by decide) zu_444 dX7_ofReal_129 h (fun n_19 h => ?_)
  refine lv_iconst (v := (0 : Int32)) hx hb dX7_ofReal_132 (by decide) ?_
  refine zr_iald S hK hw dX7_ofReal_133 h (fun e20 h => ?_)
  refine lv_if_le (tgt := 164) hx hb dX7_ofReal_134 (by decide) (fun hc => ?_) (fun hc => ?_)
  · have h := h.1 hc
    exact sX7_ofReal_164 S hr hlocks hK  v0 v1 _ h _ _ _ hw (lv_sub hl [0, 1] rfl)
  · have h := h.2 hc
    refine lv_aload_n hx hb dX7_ofReal_137 rfl (lv_at hl 0 rfl) ?_
    refine lv_iload hx hb dX7_ofReal_138 (lv_at hl 2 rfl) ?_
    refine lv_if_ge (tgt := 147) hx hb dX7_ofReal_140 (by decide) (fun hc => ?_) (fun hc => ?_)
    · have h := h.1 hc
      refine lv_iconst (v := (0 : Int32)) hx hb dX7_ofReal_147 (by decide) ?_
      exact sX7_ofReal_148 S hr hlocks hK  v0 v1 v6 v0 (0 : Int32) _ h _ _ _ hw (lv_sub hl [0, 1, 2] rfl)
    · have h := h.2 hc
      refine lv_iconst (v := (1 : Int32)) hx hb dX7_ofReal_143 (by decide) ?_
      refine lv_goto (tgt := 148) hx hb dX7_ofReal_144 (by decide) ?_
      exact sX7_ofReal_148 S hr hlocks hK  v0 v1 v6 v0 (1 : Int32) _ h _ _ _ hw (lv_sub hl [0, 1, 2] rfl)
set_option maxHeartbeats 4000000 in
set_option maxRecDepth 100000 in
theorem sX7_ofReal_71 {p : Program} {l : Launch} {e : Env} {s : State} {m : MethodId} {args : Array Value} {below : List Frame} {meth : Method} {c : Code} {lo : Nat} {g : zg} {post : Int32 → zm_M → Prop}  (S : CallFix p m c cX7_ofReal 7 s args zU RX7) (hr : meth.sig.returnType = (some .int)) (hlocks : meth.locks = false) (hK : zk_K zNF zNM g s)  : ∀ (v0 : Nat) (v1 : Int64) (v3 : Int32) (s0 : Nat) (s1 : Int32) (s2 : Int64) (M : zm_M), pX7_ofReal_71 g.2 post  v0 v1 v3 s0 s1 s2 M → ∀ (H : Heap) (locs : List Loc) (ls : Array Slot), zW lo g s H locs M → lv_has ls 7 [(0, .ref v0), (1, .long v1), (3, .int v3)] → W p l e ({ frames := 4, cells := 0, slots := 0, locals := 111 } : Room) s m args below meth c H locs 0 0 (MQ below (va_Qi post (zc_B lo g) (zA lo)) args s 0 0 (zA lo)) (F0 m 71 ls [.long s2, .int s1, .ref s0]) := by
  obtain ⟨hx, hb, hml, hown, hts⟩ := id S
  intro v0 v1 v3 s0 s1 s2 M h H locs ls hw hl
  unfold pX7_ofReal_71 at h
  obtain ⟨ho, h⟩ := h
  refine zr_Vv (As := [.int s1, .long s2]) (rest := []) S hK hw (kX7_small l lo g M s0 s1 s2 _ h) (cwV 2 hts (zg_V zu_509 zu_510 zu_511 zu_450 zu_512) rfl rfl rfl (by decide +kernel) ⟨Nat.le_of_ble_eq_true rfl, Nat.le_of_ble_eq_true rfl⟩) (ci := 10) rfl ho rfl hl.1 rfl (Nat.le_of_ble_eq_true rfl) dX7_ofReal_71 ⟨Nat.le_of_ble_eq_true rfl, Nat.le_of_ble_eq_true rfl⟩ (fun M6 H locs hw h => ?_)
  refine lv_aload_n hx hb dX7_ofReal_74 rfl (lv_at hl 0 rfl) ?_
  refine lv_iconst (v := (1 : Int32)) hx hb dX7_ofReal_75 (by decide) ?_
  refine lv_lconst (v := (1 : Int64)) hx hb dX7_ofReal_76 (by decide) ?_
  obtain ⟨ho, h⟩ := h
  refine zr_Vv (As := [.int (1 : Int32), .long (1 : Int64)]) (rest := []) S hK hw (kX7_small l lo g M6 v0 (1 : Int32) (1 : Int64) _ h) (cwV 2 hts (zg_V zu_509 zu_510 zu_511 zu_450 zu_512) rfl rfl rfl (by decide +kernel) ⟨Nat.le_of_ble_eq_true rfl, Nat.le_of_ble_eq_true rfl⟩) (ci := 10) rfl ho rfl hl.1 rfl (Nat.le_of_ble_eq_true rfl) dX7_ofReal_77 ⟨Nat.le_of_ble_eq_true rfl, Nat.le_of_ble_eq_true rfl⟩ (fun M7 H locs hw h => ?_)
  refine lv_iload_n hx hb dX7_ofReal_80 rfl (lv_at hl 2 rfl) ?_
  refine lv_if_ne (tgt := 88) hx hb dX7_ofReal_81 (by decide) (fun hc => ?_) (fun hc => ?_)
  · have h := h.1 hc
    refine lv_iload_n hx hb dX7_ofReal_88 rfl (lv_at hl 2 rfl) ?_
    refine lv_sipush (v := (1075 : Int32)) hx hb dX7_ofReal_89 (by decide) ?_
    refine lv_isub hx hb dX7_ofReal_92 ?_
    refine lv_topi (fun x8 ex8 => ?_)
    have h := h x8 ex8
    refine lv_istore (lv' := [(6, .int x8), (0, .ref v0), (1, .long v1), (3, .int v3)]) hx hb dX7_ofReal_93 hl (by decide) rfl (fun ls hl => ?_)
    obtain ⟨n95, h⟩ := h
    refine sX7_ofReal_95 S hr hlocks hK (fun w15 w16 w17 M18 h H locs ls hw hl => ?_) n95 v0 v1 x8 _ h _ _ _ hw (lv_sub hl [1, 2, 0] rfl)
    exact sX7_ofReal_128 S hr hlocks hK  w15 w16 w17 _ h _ _ _ hw (lv_sub hl [0, 1, 2] rfl)
  · have h := h.2 hc
    refine lv_iconst (v := (1 : Int32)) hx hb dX7_ofReal_84 (by decide) ?_
    refine lv_goto (tgt := 89) hx hb dX7_ofReal_85 (by decide) ?_
    refine lv_sipush (v := (1075 : Int32)) hx hb dX7_ofReal_89 (by decide) ?_
    refine lv_isub hx hb dX7_ofReal_92 ?_
    refine lv_topi (fun x24 ex24 => ?_)
    have h := h x24 ex24
    refine lv_istore (lv' := [(6, .int x24), (0, .ref v0), (1, .long v1), (3, .int v3)]) hx hb dX7_ofReal_93 hl (by decide) rfl (fun ls hl => ?_)
    obtain ⟨n95, h⟩ := h
    refine sX7_ofReal_95 S hr hlocks hK (fun w25 w26 w27 M28 h H locs ls hw hl => ?_) n95 v0 v1 x24 _ h _ _ _ hw (lv_sub hl [1, 2, 0] rfl)
    exact sX7_ofReal_128 S hr hlocks hK  w25 w26 w27 _ h _ _ _ hw (lv_sub hl [0, 1, 2] rfl)
set_option maxHeartbeats 4000000 in
set_option maxRecDepth 100000 in
theorem sX7_ofReal_30 {p : Program} {l : Launch} {e : Env} {s : State} {m : MethodId} {args : Array Value} {below : List Frame} {meth : Method} {c : Code} {lo : Nat} {g : zg} {post : Int32 → zm_M → Prop}  (S : CallFix p m c cX7_ofReal 7 s args zU RX7) (hr : meth.sig.returnType = (some .int)) (hlocks : meth.locks = false) (hK : zk_K zNF zNM g s)  : ∀ (v0 : Nat) (v1 : Int64) (v3 : Int32) (v4 : Int64) (s0 : Nat) (s1 : Int32) (M : zm_M), pX7_ofReal_30 g.2 post  v0 v1 v3 v4 s0 s1 M → ∀ (H : Heap) (locs : List Loc) (ls : Array Slot), zW lo g s H locs M → lv_has ls 7 [(0, .ref v0), (1, .long v1), (3, .int v3), (4, .long v4)] → W p l e ({ frames := 4, cells := 0, slots := 0, locals := 111 } : Room) s m args below meth c H locs 0 0 (MQ below (va_Qi post (zc_B lo g) (zA lo)) args s 0 0 (zA lo)) (F0 m 30 ls [.int s1, .ref s0]) := by
  obtain ⟨hx, hb, hml, hown, hts⟩ := id S
  intro v0 v1 v3 v4 s0 s1 M h H locs ls hw hl
  unfold pX7_ofReal_30 at h
  refine zr_p (C := RX7) (T := TX7) (N := 14) (ci := 10) (k := 0) S hK hw zi_X7 tyX7 tyX7_ok nmX7 rfl (by decide) zu_443 rfl rfl rfl dX7_ofReal_30 h (fun M3 H locs hw h => ?_)
  refine lv_iload_n hx hb dX7_ofReal_33 rfl (lv_at hl 2 rfl) ?_
  refine lv_sipush (v := (2047 : Int32)) hx hb dX7_ofReal_34 (by decide) ?_
  refine lv_icmp_ne (tgt := 42) hx hb dX7_ofReal_37 (by decide) (fun hc => ?_) (fun hc => ?_)
  · have h := h.1 hc
    refine lv_aload_n hx hb dX7_ofReal_42 rfl (lv_at hl 0 rfl) ?_
    obtain ⟨ho, h⟩ := h
    refine zr_Vi (As := []) (rest := []) S hK hw (kX7_free l lo g M3 v0  _ h) (cwV 0 hts (zg_V zu_492 zu_493 zu_494 zu_450 zu_495) rfl rfl rfl (by decide +kernel) ⟨Nat.le_of_ble_eq_true rfl, Nat.le_of_ble_eq_true rfl⟩) (ci := 10) rfl ho rfl hl.1 rfl (Nat.le_of_ble_eq_true rfl) dX7_ofReal_43 ⟨Nat.le_of_ble_eq_true rfl, Nat.le_of_ble_eq_true rfl⟩ (fun r5 M4 H locs hw h => ?_)
    refine lv_bipush (v := (-3 : Int32)) hx hb dX7_ofReal_46 (by decide) ?_
    refine lv_icmp_ne (tgt := 54) hx hb dX7_ofReal_48 (by decide) (fun hc => ?_) (fun hc => ?_)
    · have h := h.1 hc
      refine lv_aload_n hx hb dX7_ofReal_54 rfl (lv_at hl 0 rfl) ?_
      refine lv_iconst (v := (0 : Int32)) hx hb dX7_ofReal_55 (by decide) ?_
      refine lv_iload_n hx hb dX7_ofReal_56 rfl (lv_at hl 2 rfl) ?_
      refine lv_if_ne (tgt := 65) hx hb dX7_ofReal_57 (by decide) (fun hc => ?_) (fun hc => ?_)
      · have h := h.1 hc
        refine lv_lload hx hb dX7_ofReal_65 (lv_at hl 3 rfl) ?_
        refine lv_ldc2 (v := (4503599627370496 : Int64)) hx hb hown (hts _ zu_592) dX7_ofReal_67 ?_
        refine lv_lor hx hb dX7_ofReal_70 ?_
        exact sX7_ofReal_71 S hr hlocks hK  v0 v1 v3 v0 (0 : Int32) (v4 ||| (4503599627370496 : Int64)) _ h _ _ _ hw (lv_sub hl [0, 1, 2] rfl)
      · have h := h.2 hc
        refine lv_lload hx hb dX7_ofReal_60 (lv_at hl 3 rfl) ?_
        refine lv_goto (tgt := 71) hx hb dX7_ofReal_62 (by decide) ?_
        exact sX7_ofReal_71 S hr hlocks hK  v0 v1 v3 v0 (0 : Int32) v4 _ h _ _ _ hw (lv_sub hl [0, 1, 2] rfl)
    · have h := h.2 hc
      refine lv_bipush (v := (-3 : Int32)) hx hb dX7_ofReal_51 (by decide) ?_
      exact zr_ri S hr hlocks hw h dX7_ofReal_53
  · have h := h.2 hc
    refine lv_iconst (v := (0 : Int32)) hx hb dX7_ofReal_40 (by decide) ?_
    exact zr_ri S hr hlocks hw h dX7_ofReal_41
set_option maxHeartbeats 4000000 in
set_option maxRecDepth 100000 in
theorem kX7_ofReal (l : Launch) (lo : Nat) (g : zg) (M : zm_M) (a0 : Nat) (a1 : Int64) (post : Int32 → zm_M → Prop) (h : pX7_ofReal g.2 a0 a1 post M) : Met l yX7_ofReal (Cond.code yX7_ofReal cX7_ofReal 7 (some .int) :: zU) (({ frames := 4, cells := 0, slots := 0, locals := 111 } : Room)) (zc_P zNF zNM lo g M [.ref a0, .long a1]) (va_Qi post (zc_B lo g) (zA lo)) 0 0 (zA lo) := by
  refine Met.ofW (cc := cX7_ofReal) (maxL := 7) (ret := (some .int)) (by decide) rfl ?_
  intro p e s m args below meth c s₁ B hml hv
  obtain ⟨rfl, hR, hK⟩ := hv
  have hts := atoms_spec (ws := Cond.code yX7_ofReal cX7_ofReal 7 (some .int) :: zU) B.pre
  have hts : ∀ w ∈ zU, w.before _ s = true := fun w hw => hts w (List.mem_cons_of_mem _ hw)
  have hown : s.vm.findClass RX7 = some m.cls := findClass_of_methodNamed B.named
  have hx := B.exec
  have hb := B.bytes
  have hr := B.returns
  have hlocks := B.notSynchronized
  have S : CallFix p m c cX7_ofReal 7 s ([.ref a0, .long a1] : List Value).toArray zU RX7 := ⟨hx, hb, hml, hown, hts⟩
  have hw : zW lo g s s.heap [] M := ⟨hR, va_S.rf⟩
  have hl := lv_entry ([.ref a0, .long a1]) (n := 7) (Nat.le_of_ble_eq_true rfl)
  rw [lg_entry_eq]
  generalize (lg_sl ([.ref a0, .long a1]) ++ List.replicate (7 - (lg_sl ([.ref a0, .long a1])).length) Slot.unset).toArray = ls at hl ⊢
  have hl : lv_has ls 7 [(0, .ref a0), (1, .long a1)] := hl
  unfold pX7_ofReal at h
  refine lv_lload_n hx hb dX7_ofReal_0 rfl (lv_at hl 1 rfl) ?_
  refine lv_bipush (v := (52 : Int32)) hx hb dX7_ofReal_1 (by decide) ?_
  refine lv_lshr hx hb dX7_ofReal_3 rfl ?_
  refine lv_ldc2 (v := (2047 : Int64)) hx hb hown (hts _ zu_590) dX7_ofReal_4 ?_
  refine lv_land hx hb dX7_ofReal_7 ?_
  refine lv_l2i hx hb dX7_ofReal_8 rfl ?_
  refine lv_topi (fun x1 ex1 => ?_)
  have h := h x1 ex1
  refine lv_istore_n (lv' := [(3, .int x1), (0, .ref a0), (1, .long a1)]) hx hb dX7_ofReal_9 rfl hl (by decide) rfl (fun ls hl => ?_)
  refine lv_lload_n hx hb dX7_ofReal_10 rfl (lv_at hl 2 rfl) ?_
  refine lv_ldc2 (v := (4503599627370495 : Int64)) hx hb hown (hts _ zu_591) dX7_ofReal_11 ?_
  refine lv_land hx hb dX7_ofReal_14 ?_
  refine lv_topl (fun x2 ex2 => ?_)
  have h := h x2 ex2
  refine lv_lstore (lv' := [(4, .long x2), (3, .int x1), (0, .ref a0), (1, .long a1)]) hx hb dX7_ofReal_15 hl (by decide) rfl (fun ls hl => ?_)
  refine lv_aload_n hx hb dX7_ofReal_17 rfl (lv_at hl 2 rfl) ?_
  refine lv_iload_n hx hb dX7_ofReal_18 rfl (lv_at hl 1 rfl) ?_
  refine lv_sipush (v := (2047 : Int32)) hx hb dX7_ofReal_19 (by decide) ?_
  refine lv_icmp_ne (tgt := 29) hx hb dX7_ofReal_22 (by decide) (fun hc => ?_) (fun hc => ?_)
  · have h := h.1 hc
    refine lv_iconst (v := (0 : Int32)) hx hb dX7_ofReal_29 (by decide) ?_
    exact sX7_ofReal_30 S hr hlocks hK  a0 a1 x1 x2 a0 (0 : Int32) _ h _ _ _ hw (lv_sub hl [2, 3, 1, 0] rfl)
  · have h := h.2 hc
    refine lv_iconst (v := (1 : Int32)) hx hb dX7_ofReal_25 (by decide) ?_
    refine lv_goto (tgt := 30) hx hb dX7_ofReal_26 (by decide) ?_
    exact sX7_ofReal_30 S hr hlocks hK  a0 a1 x1 x2 a0 (1 : Int32) _ h _ _ _ hw (lv_sub hl [2, 3, 1, 0] rfl)
set_option maxHeartbeats 4000000 in
set_option maxRecDepth 100000 in
theorem kX7_feed (l : Launch) (lo : Nat) (g : zg) (M : zm_M) (a0 : Nat) (a1 : Int32) (post : Int32 → zm_M → Prop) (h : pX7_feed g.2 a0 a1 post M) : Met l yX7_feed (Cond.code yX7_feed cX7_feed 2 (some .int) :: zU) (({ frames := 2, cells := 0, slots := 0, locals := 65 } : Room)) (zc_P zNF zNM lo g M [.ref a0, .int a1]) (va_Qi post (zc_B lo g) (zA lo)) 0 0 (zA lo) := by
  refine Met.ofW (cc := cX7_feed) (maxL := 2) (ret := (some .int)) (by decide) rfl ?_
  intro p e s m args below meth c s₁ B hml hv
  obtain ⟨rfl, hR, hK⟩ := hv
  have hts := atoms_spec (ws := Cond.code yX7_feed cX7_feed 2 (some .int) :: zU) B.pre
  have hts : ∀ w ∈ zU, w.before _ s = true := fun w hw => hts w (List.mem_cons_of_mem _ hw)
  have hown : s.vm.findClass RX7 = some m.cls := findClass_of_methodNamed B.named
  have hx := B.exec
  have hb := B.bytes
  have hr := B.returns
  have hlocks := B.notSynchronized
  have S : CallFix p m c cX7_feed 2 s ([.ref a0, .int a1] : List Value).toArray zU RX7 := ⟨hx, hb, hml, hown, hts⟩
  have hw : zW lo g s s.heap [] M := ⟨hR, va_S.rf⟩
  have hl := lv_entry ([.ref a0, .int a1]) (n := 2) (Nat.le_of_ble_eq_true rfl)
  rw [lg_entry_eq]
  generalize (lg_sl ([.ref a0, .int a1]) ++ List.replicate (2 - (lg_sl ([.ref a0, .int a1])).length) Slot.unset).toArray = ls at hl ⊢
  have hl : lv_has ls 2 [(0, .ref a0), (1, .int a1)] := hl
  unfold pX7_feed at h
  refine lv_aload_n hx hb dX7_feed_0 rfl (lv_at hl 0 rfl) ?_
  refine lv_iconst (v := (0 : Int32)) hx hb dX7_feed_1 (by decide) ?_
  refine zr_p (C := RX7) (T := TX7) (N := 14) (ci := 10) (k := 0) S hK hw zi_X7 tyX7 tyX7_ok nmX7 rfl (by decide) zu_443 rfl rfl rfl dX7_feed_2 h (fun M1 H locs hw h => ?_)
  refine lv_iload_n hx hb dX7_feed_5 rfl (lv_at hl 1 rfl) ?_
  refine lv_i2l hx hb dX7_feed_6 rfl ?_
  refine lv_lconst (v := (0 : Int64)) hx hb dX7_feed_7 (by decide) ?_
  refine lv_ldc2 (v := (255 : Int64)) hx hb hown (hts _ zu_593) dX7_feed_8 ?_
  refine zr_Si (As := [.long (a1.toInt64), .long (0 : Int64), .long (255 : Int64)]) (rest := []) S hK hw (kX7_in l lo g M1 (a1.toInt64) (0 : Int64) (255 : Int64) _ h) (va_cwS 3 hts (zg_S zu_482 zu_483 zu_450 zu_484) rfl rfl rfl (by decide +kernel) ⟨Nat.le_of_ble_eq_true rfl, Nat.le_of_ble_eq_true rfl⟩) rfl hl.1 rfl (Nat.le_of_ble_eq_true rfl) dX7_feed_11 ⟨Nat.le_of_ble_eq_true rfl, Nat.le_of_ble_eq_true rfl⟩ (fun r3 M2 H locs hw h => ?_)
  refine lv_if_ne (tgt := 19) hx hb dX7_feed_14 (by decide) (fun hc => ?_) (fun hc => ?_)
  · have h := h.1 hc
    refine lv_aload_n hx hb dX7_feed_19 rfl (lv_at hl 0 rfl) ?_
    refine zr_gi (C := RX7) (T := TX7) (N := 14) (ci := 10) (k := 6) S hK hw zi_X7 rfl (by decide) zu_594 dX7_feed_20 h (fun taped_4 h => ?_)
    refine lv_sipush (v := (400 : Int32)) hx hb dX7_feed_23 (by decide) ?_
    refine lv_icmp_ne (tgt := 32) hx hb dX7_feed_26 (by decide) (fun hc => ?_) (fun hc => ?_)
    · have h := h.1 hc
      refine lv_aload_n hx hb dX7_feed_32 rfl (lv_at hl 0 rfl) ?_
      refine zr_ga (C := RX7) (T := TX7) (N := 14) (ci := 10) (k := 5) S hK hw zi_X7 rfl (by decide) zu_595 dX7_feed_33 h (fun tape_5 h => ?_)
      refine lv_aload_n hx hb dX7_feed_36 rfl (lv_at hl 0 rfl) ?_
      refine zr_gi (C := RX7) (T := TX7) (N := 14) (ci := 10) (k := 6) S hK hw zi_X7 rfl (by decide) zu_594 dX7_feed_37 h (fun taped_6 h => ?_)
      refine lv_iload_n hx hb dX7_feed_40 rfl (lv_at hl 1 rfl) ?_
      refine zr_iast S hK hw dX7_feed_41 h (fun M7 H locs hw h => ?_)
      refine lv_aload_n hx hb dX7_feed_42 rfl (lv_at hl 0 rfl) ?_
      refine lv_dup hx hb dX7_feed_43 rfl ?_
      refine zr_gi (C := RX7) (T := TX7) (N := 14) (ci := 10) (k := 6) S hK hw zi_X7 rfl (by decide) zu_594 dX7_feed_44 h (fun taped_8 h => ?_)
      refine lv_iconst (v := (1 : Int32)) hx hb dX7_feed_47 (by decide) ?_
      refine lv_iadd hx hb dX7_feed_48 ?_
      refine zr_p (C := RX7) (T := TX7) (N := 14) (ci := 10) (k := 6) S hK hw zi_X7 tyX7 tyX7_ok nmX7 rfl (by decide) zu_594 rfl rfl rfl dX7_feed_49 h (fun M9 H locs hw h => ?_)
      refine lv_aload_n hx hb dX7_feed_52 rfl (lv_at hl 0 rfl) ?_
      refine zr_gi (C := RX7) (T := TX7) (N := 14) (ci := 10) (k := 6) S hK hw zi_X7 rfl (by decide) zu_594 dX7_feed_53 h (fun taped_10 h => ?_)
      exact zr_ri S hr hlocks hw h dX7_feed_56
    · have h := h.2 hc
      refine lv_bipush (v := (-3 : Int32)) hx hb dX7_feed_29 (by decide) ?_
      exact zr_ri S hr hlocks hw h dX7_feed_31
  · have h := h.2 hc
    refine lv_iconst (v := (-1 : Int32)) hx hb dX7_feed_17 (by decide) ?_
    exact zr_ri S hr hlocks hw h dX7_feed_18
set_option maxHeartbeats 4000000 in
set_option maxRecDepth 100000 in
theorem kX7_isFigure (l : Launch) (lo : Nat) (g : zg) (M : zm_M) (a0 : Nat) (a1 : Int32) (post : Int32 → zm_M → Prop) (h : pX7_isFigure g.2 a0 a1 post M) : Met l yX7_isFigure (Cond.code yX7_isFigure cX7_isFigure 2 (some .boolean) :: zU) (({ frames := 1, cells := 0, slots := 0, locals := 40 } : Room)) (zc_P zNF zNM lo g M [.ref a0, .int a1]) (va_Qi post (zc_B lo g) (zA lo)) 0 0 (zA lo) := by
  refine Met.ofW (cc := cX7_isFigure) (maxL := 2) (ret := (some .boolean)) (by decide) rfl ?_
  intro p e s m args below meth c s₁ B hml hv
  obtain ⟨rfl, hR, hK⟩ := hv
  have hts := atoms_spec (ws := Cond.code yX7_isFigure cX7_isFigure 2 (some .boolean) :: zU) B.pre
  have hts : ∀ w ∈ zU, w.before _ s = true := fun w hw => hts w (List.mem_cons_of_mem _ hw)
  have hown : s.vm.findClass RX7 = some m.cls := findClass_of_methodNamed B.named
  have hx := B.exec
  have hb := B.bytes
  have hr := B.returns
  have hlocks := B.notSynchronized
  have S : CallFix p m c cX7_isFigure 2 s ([.ref a0, .int a1] : List Value).toArray zU RX7 := ⟨hx, hb, hml, hown, hts⟩
  have hw : zW lo g s s.heap [] M := ⟨hR, va_S.rf⟩
  have hl := lv_entry ([.ref a0, .int a1]) (n := 2) (Nat.le_of_ble_eq_true rfl)
  rw [lg_entry_eq]
  generalize (lg_sl ([.ref a0, .int a1]) ++ List.replicate (2 - (lg_sl ([.ref a0, .int a1])).length) Slot.unset).toArray = ls at hl ⊢
  have hl : lv_has ls 2 [(0, .ref a0), (1, .int a1)] := hl
  unfold pX7_isFigure at h
  refine lv_iload_n hx hb dX7_isFigure_0 rfl (lv_at hl 1 rfl) ?_
  refine lv_aload_n hx hb dX7_isFigure_1 rfl (lv_at hl 0 rfl) ?_
  refine zr_gi (C := RX7) (T := TX7) (N := 14) (ci := 10) (k := 6) S hK hw zi_X7 rfl (by decide) zu_594 dX7_isFigure_2 h (fun taped_1 h => ?_)
  refine lv_icmp_ge (tgt := 34) hx hb dX7_isFigure_5 (by decide) (fun hc => ?_) (fun hc => ?_)
  · have h := h.1 hc
    refine lv_iconst (v := (0 : Int32)) hx hb dX7_isFigure_34 (by decide) ?_
    exact zr_rz S hr hlocks hw h dX7_isFigure_35
  · have h := h.2 hc
    refine lv_aload_n hx hb dX7_isFigure_8 rfl (lv_at hl 0 rfl) ?_
    refine zr_ga (C := RX7) (T := TX7) (N := 14) (ci := 10) (k := 5) S hK hw zi_X7 rfl (by decide) zu_595 dX7_isFigure_9 h (fun tape_2 h => ?_)
    refine lv_iload_n hx hb dX7_isFigure_12 rfl (lv_at hl 1 rfl) ?_
    refine zr_iald S hK hw dX7_isFigure_13 h (fun e3 h => ?_)
    refine lv_bipush (v := (48 : Int32)) hx hb dX7_isFigure_14 (by decide) ?_
    refine lv_icmp_lt (tgt := 34) hx hb dX7_isFigure_16 (by decide) (fun hc => ?_) (fun hc => ?_)
    · have h := h.1 hc
      refine lv_iconst (v := (0 : Int32)) hx hb dX7_isFigure_34 (by decide) ?_
      exact zr_rz S hr hlocks hw h dX7_isFigure_35
    · have h := h.2 hc
      refine lv_aload_n hx hb dX7_isFigure_19 rfl (lv_at hl 0 rfl) ?_
      refine zr_ga (C := RX7) (T := TX7) (N := 14) (ci := 10) (k := 5) S hK hw zi_X7 rfl (by decide) zu_595 dX7_isFigure_20 h (fun tape_4 h => ?_)
      refine lv_iload_n hx hb dX7_isFigure_23 rfl (lv_at hl 1 rfl) ?_
      refine zr_iald S hK hw dX7_isFigure_24 h (fun e5 h => ?_)
      refine lv_bipush (v := (57 : Int32)) hx hb dX7_isFigure_25 (by decide) ?_
      refine lv_icmp_gt (tgt := 34) hx hb dX7_isFigure_27 (by decide) (fun hc => ?_) (fun hc => ?_)
      · have h := h.1 hc
        refine lv_iconst (v := (0 : Int32)) hx hb dX7_isFigure_34 (by decide) ?_
        exact zr_rz S hr hlocks hw h dX7_isFigure_35
      · have h := h.2 hc
        refine lv_iconst (v := (1 : Int32)) hx hb dX7_isFigure_30 (by decide) ?_
        refine lv_goto (tgt := 35) hx hb dX7_isFigure_31 (by decide) ?_
        exact zr_rz S hr hlocks hw h dX7_isFigure_35
set_option maxHeartbeats 4000000 in
set_option maxRecDepth 100000 in
theorem sX7_takeFigures_5 {p : Program} {l : Launch} {e : Env} {s : State} {m : MethodId} {args : Array Value} {below : List Frame} {meth : Method} {c : Code} {lo : Nat} {g : zg} {post : Int32 → zm_M → Prop} {k70 : Nat → Int32 → zm_M → Prop} (S : CallFix p m c cX7_takeFigures 3 s args zU RX7) (hr : meth.sig.returnType = (some .boolean)) (hlocks : meth.locks = false) (hK : zk_K zNF zNM g s) (hk70 : ∀ (v0 : Nat) (v2 : Int32) (M : zm_M), k70 v0 v2 M → ∀ (H : Heap) (locs : List Loc) (ls : Array Slot), zW lo g s H locs M → lv_has ls 3 [(0, .ref v0), (2, .int v2)] → W p l e ({ frames := 3, cells := 0, slots := 0, locals := 89 } : Room) s m args below meth c H locs 0 0 (MQ below (va_Qi post (zc_B lo g) (zA lo)) args s 0 0 (zA lo)) (F0 m 70 ls [])) : ∀ (n : Nat) (v0 : Nat) (v1 : Int32) (v2 : Int32) (M : zm_M), pX7_takeFigures_5 g.2 post k70 n v0 v1 v2 M → ∀ (H : Heap) (locs : List Loc) (ls : Array Slot), zW lo g s H locs M → lv_has ls 3 [(0, .ref v0), (1, .int v1), (2, .int v2)] → W p l e ({ frames := 3, cells := 0, slots := 0, locals := 89 } : Room) s m args below meth c H locs 0 0 (MQ below (va_Qi post (zc_B lo g) (zA lo)) args s 0 0 (zA lo)) (F0 m 5 ls []) := by
  obtain ⟨hx, hb, hml, hown, hts⟩ := id S
  intro n
  induction n with
  | zero =>
    intro v0 v1 v2 M h
    exact False.elim h
  | succ n5 ih =>
    intro v0 v1 v2 M h H locs ls hw hl
    rw [pX7_takeFigures_5] at h
    refine lv_aload_n hx hb dX7_takeFigures_5 rfl (lv_at hl 0 rfl) ?_
    refine lv_aload_n hx hb dX7_takeFigures_6 rfl (lv_at hl 0 rfl) ?_
    refine zr_gi (C := RX7) (T := TX7) (N := 14) (ci := 10) (k := 11) S hK hw zi_X7 rfl (by decide) zu_596 dX7_takeFigures_7 h (fun place_2 h => ?_)
    obtain ⟨ho, h⟩ := h
    refine zr_Vi (As := [.int place_2]) (rest := []) S hK hw (kX7_isFigure l lo g M v0 place_2 _ h) (cwV 1 hts (zg_V zu_597 zu_598 zu_599 zu_450 zu_600) rfl rfl rfl (by decide +kernel) ⟨Nat.le_of_ble_eq_true rfl, Nat.le_of_ble_eq_true rfl⟩) (ci := 10) rfl ho rfl hl.1 rfl (Nat.le_of_ble_eq_true rfl) dX7_takeFigures_10 ⟨Nat.le_of_ble_eq_true rfl, Nat.le_of_ble_eq_true rfl⟩ (fun r4 M3 H locs hw h => ?_)
    refine lv_if_eq (tgt := 70) hx hb dX7_takeFigures_13 (by decide) (fun hc => ?_) (fun hc => ?_)
    · have h := h.1 hc
      exact hk70 v0 v2 _ h _ _ _ hw (lv_sub hl [0, 2] rfl)
    · have h := h.2 hc
      refine lv_aload_n hx hb dX7_takeFigures_16 rfl (lv_at hl 0 rfl) ?_
      refine zr_gi (C := RX7) (T := TX7) (N := 14) (ci := 10) (k := 12) S hK hw zi_X7 rfl (by decide) zu_601 dX7_takeFigures_17 h (fun figureMany_5 h => ?_)
      refine lv_sipush (v := (160 : Int32)) hx hb dX7_takeFigures_20 (by decide) ?_
      refine lv_icmp_ge (tgt := 70) hx hb dX7_takeFigures_23 (by decide) (fun hc => ?_) (fun hc => ?_)
      · have h := h.1 hc
        exact hk70 v0 v2 _ h _ _ _ hw (lv_sub hl [0, 2] rfl)
      · have h := h.2 hc
        refine lv_aload_n hx hb dX7_takeFigures_26 rfl (lv_at hl 0 rfl) ?_
        refine lv_iload_n hx hb dX7_takeFigures_27 rfl (lv_at hl 1 rfl) ?_
        refine lv_ldc2 (v := (10 : Int64)) hx hb hown (hts _ zu_602) dX7_takeFigures_28 ?_
        refine lv_aload_n hx hb dX7_takeFigures_31 rfl (lv_at hl 0 rfl) ?_
        refine zr_ga (C := RX7) (T := TX7) (N := 14) (ci := 10) (k := 5) S hK hw zi_X7 rfl (by decide) zu_595 dX7_takeFigures_32 h (fun tape_6 h => ?_)
        refine lv_aload_n hx hb dX7_takeFigures_35 rfl (lv_at hl 0 rfl) ?_
        refine zr_gi (C := RX7) (T := TX7) (N := 14) (ci := 10) (k := 11) S hK hw zi_X7 rfl (by decide) zu_596 dX7_takeFigures_36 h (fun place_7 h => ?_)
        refine zr_iald S hK hw dX7_takeFigures_39 h (fun e8 h => ?_)
        refine lv_bipush (v := (48 : Int32)) hx hb dX7_takeFigures_40 (by decide) ?_
        refine lv_isub hx hb dX7_takeFigures_42 ?_
        refine lv_i2l hx hb dX7_takeFigures_43 rfl ?_
        obtain ⟨ho, h⟩ := h
        refine zr_Vv (As := [.int v1, .long (10 : Int64), .long ((e8 - (48 : Int32)).toInt64)]) (rest := []) S hK hw (kX7_timesSmall l lo g M3 v0 v1 (10 : Int64) ((e8 - (48 : Int32)).toInt64) _ h) (cwV 3 hts (zg_V zu_603 zu_604 zu_605 zu_450 zu_606) rfl rfl rfl (by decide +kernel) ⟨Nat.le_of_ble_eq_true rfl, Nat.le_of_ble_eq_true rfl⟩) (ci := 10) rfl ho rfl hl.1 rfl (Nat.le_of_ble_eq_true rfl) dX7_takeFigures_44 ⟨Nat.le_of_ble_eq_true rfl, Nat.le_of_ble_eq_true rfl⟩ (fun M9 H locs hw h => ?_)
        refine lv_aload_n hx hb dX7_takeFigures_47 rfl (lv_at hl 0 rfl) ?_
        refine lv_dup hx hb dX7_takeFigures_48 rfl ?_
        refine zr_gi (C := RX7) (T := TX7) (N := 14) (ci := 10) (k := 12) S hK hw zi_X7 rfl (by decide) zu_601 dX7_takeFigures_49 h (fun figureMany_10 h => ?_)
        refine lv_iconst (v := (1 : Int32)) hx hb dX7_takeFigures_52 (by decide) ?_
        refine lv_iadd hx hb dX7_takeFigures_53 ?_
        refine zr_p (C := RX7) (T := TX7) (N := 14) (ci := 10) (k := 12) S hK hw zi_X7 tyX7 tyX7_ok nmX7 rfl (by decide) zu_601 rfl rfl rfl dX7_takeFigures_54 h (fun M11 H locs hw h => ?_)
        refine lv_aload_n hx hb dX7_takeFigures_57 rfl (lv_at hl 0 rfl) ?_
        refine lv_dup hx hb dX7_takeFigures_58 rfl ?_
        refine zr_gi (C := RX7) (T := TX7) (N := 14) (ci := 10) (k := 11) S hK hw zi_X7 rfl (by decide) zu_596 dX7_takeFigures_59 h (fun place_12 h => ?_)
        refine lv_iconst (v := (1 : Int32)) hx hb dX7_takeFigures_62 (by decide) ?_
        refine lv_iadd hx hb dX7_takeFigures_63 ?_
        refine zr_p (C := RX7) (T := TX7) (N := 14) (ci := 10) (k := 11) S hK hw zi_X7 tyX7 tyX7_ok nmX7 rfl (by decide) zu_596 rfl rfl rfl dX7_takeFigures_64 h (fun M13 H locs hw h => ?_)
        refine lv_goto (tgt := 5) hx hb dX7_takeFigures_67 (by decide) ?_
        exact ih v0 v1 v2 _ h _ _ _ hw (lv_sub hl [0, 1, 2] rfl)
set_option maxHeartbeats 4000000 in
set_option maxRecDepth 100000 in
theorem sX7_takeFigures_70 {p : Program} {l : Launch} {e : Env} {s : State} {m : MethodId} {args : Array Value} {below : List Frame} {meth : Method} {c : Code} {lo : Nat} {g : zg} {post : Int32 → zm_M → Prop}  (S : CallFix p m c cX7_takeFigures 3 s args zU RX7) (hr : meth.sig.returnType = (some .boolean)) (hlocks : meth.locks = false) (hK : zk_K zNF zNM g s)  : ∀ (v0 : Nat) (v2 : Int32) (M : zm_M), pX7_takeFigures_70 g.2 post  v0 v2 M → ∀ (H : Heap) (locs : List Loc) (ls : Array Slot), zW lo g s H locs M → lv_has ls 3 [(0, .ref v0), (2, .int v2)] → W p l e ({ frames := 3, cells := 0, slots := 0, locals := 89 } : Room) s m args below meth c H locs 0 0 (MQ below (va_Qi post (zc_B lo g) (zA lo)) args s 0 0 (zA lo)) (F0 m 70 ls []) := by
  obtain ⟨hx, hb, hml, hown, hts⟩ := id S
  intro v0 v2 M h H locs ls hw hl
  unfold pX7_takeFigures_70 at h
  refine lv_aload_n hx hb dX7_takeFigures_70 rfl (lv_at hl 0 rfl) ?_
  refine zr_gi (C := RX7) (T := TX7) (N := 14) (ci := 10) (k := 11) S hK hw zi_X7 rfl (by decide) zu_596 dX7_takeFigures_71 h (fun place_17 h => ?_)
  refine lv_iload_n hx hb dX7_takeFigures_74 rfl (lv_at hl 1 rfl) ?_
  refine lv_icmp_le (tgt := 93) hx hb dX7_takeFigures_75 (by decide) (fun hc => ?_) (fun hc => ?_)
  · have h := h.1 hc
    refine lv_iconst (v := (0 : Int32)) hx hb dX7_takeFigures_93 (by decide) ?_
    exact zr_rz S hr hlocks hw h dX7_takeFigures_94
  · have h := h.2 hc
    refine lv_aload_n hx hb dX7_takeFigures_78 rfl (lv_at hl 0 rfl) ?_
    refine lv_aload_n hx hb dX7_takeFigures_79 rfl (lv_at hl 0 rfl) ?_
    refine zr_gi (C := RX7) (T := TX7) (N := 14) (ci := 10) (k := 11) S hK hw zi_X7 rfl (by decide) zu_596 dX7_takeFigures_80 h (fun place_18 h => ?_)
    obtain ⟨ho, h⟩ := h
    refine zr_Vi (As := [.int place_18]) (rest := []) S hK hw (kX7_isFigure l lo g M v0 place_18 _ h) (cwV 1 hts (zg_V zu_597 zu_598 zu_599 zu_450 zu_600) rfl rfl rfl (by decide +kernel) ⟨Nat.le_of_ble_eq_true rfl, Nat.le_of_ble_eq_true rfl⟩) (ci := 10) rfl ho rfl hl.1 rfl (Nat.le_of_ble_eq_true rfl) dX7_takeFigures_83 ⟨Nat.le_of_ble_eq_true rfl, Nat.le_of_ble_eq_true rfl⟩ (fun r20 M19 H locs hw h => ?_)
    refine lv_if_ne (tgt := 93) hx hb dX7_takeFigures_86 (by decide) (fun hc => ?_) (fun hc => ?_)
    · have h := h.1 hc
      refine lv_iconst (v := (0 : Int32)) hx hb dX7_takeFigures_93 (by decide) ?_
      exact zr_rz S hr hlocks hw h dX7_takeFigures_94
    · have h := h.2 hc
      refine lv_iconst (v := (1 : Int32)) hx hb dX7_takeFigures_89 (by decide) ?_
      refine lv_goto (tgt := 94) hx hb dX7_takeFigures_90 (by decide) ?_
      exact zr_rz S hr hlocks hw h dX7_takeFigures_94
set_option maxHeartbeats 4000000 in
set_option maxRecDepth 100000 in
theorem kX7_takeFigures (l : Launch) (lo : Nat) (g : zg) (M : zm_M) (a0 : Nat) (a1 : Int32) (post : Int32 → zm_M → Prop) (h : pX7_takeFigures g.2 a0 a1 post M) : Met l yX7_takeFigures (Cond.code yX7_takeFigures cX7_takeFigures 3 (some .boolean) :: zU) (({ frames := 3, cells := 0, slots := 0, locals := 89 } : Room)) (zc_P zNF zNM lo g M [.ref a0, .int a1]) (va_Qi post (zc_B lo g) (zA lo)) 0 0 (zA lo) := by
  refine Met.ofW (cc := cX7_takeFigures) (maxL := 3) (ret := (some .boolean)) (by decide) rfl ?_
  intro p e s m args below meth c s₁ B hml hv
  obtain ⟨rfl, hR, hK⟩ := hv
  have hts := atoms_spec (ws := Cond.code yX7_takeFigures cX7_takeFigures 3 (some .boolean) :: zU) B.pre
  have hts : ∀ w ∈ zU, w.before _ s = true := fun w hw => hts w (List.mem_cons_of_mem _ hw)
  have hown : s.vm.findClass RX7 = some m.cls := findClass_of_methodNamed B.named
  have hx := B.exec
  have hb := B.bytes
  have hr := B.returns
  have hlocks := B.notSynchronized
  have S : CallFix p m c cX7_takeFigures 3 s ([.ref a0, .int a1] : List Value).toArray zU RX7 := ⟨hx, hb, hml, hown, hts⟩
  have hw : zW lo g s s.heap [] M := ⟨hR, va_S.rf⟩
  have hl := lv_entry ([.ref a0, .int a1]) (n := 3) (Nat.le_of_ble_eq_true rfl)
  rw [lg_entry_eq]
  generalize (lg_sl ([.ref a0, .int a1]) ++ List.replicate (3 - (lg_sl ([.ref a0, .int a1])).length) Slot.unset).toArray = ls at hl ⊢
  have hl : lv_has ls 3 [(0, .ref a0), (1, .int a1)] := hl
  unfold pX7_takeFigures at h
  refine lv_aload_n hx hb dX7_takeFigures_0 rfl (lv_at hl 0 rfl) ?_
  refine zr_gi (C := RX7) (T := TX7) (N := 14) (ci := 10) (k := 11) S hK hw zi_X7 rfl (by decide) zu_596 dX7_takeFigures_1 h (fun place_1 h => ?_)
  refine lv_istore_n (lv' := [(2, .int place_1), (0, .ref a0), (1, .int a1)]) hx hb dX7_takeFigures_4 rfl hl (by decide) rfl (fun ls hl => ?_)
  obtain ⟨n5, h⟩ := h
  refine sX7_takeFigures_5 S hr hlocks hK (fun w14 w15 M16 h H locs ls hw hl => ?_) n5 a0 a1 place_1 _ h _ _ _ hw (lv_sub hl [1, 2, 0] rfl)
  exact sX7_takeFigures_70 S hr hlocks hK  w14 w15 _ h _ _ _ hw (lv_sub hl [0, 1] rfl)
set_option maxHeartbeats 4000000 in
set_option maxRecDepth 100000 in
theorem sX7_read_286 {p : Program} {l : Launch} {e : Env} {s : State} {m : MethodId} {args : Array Value} {below : List Frame} {meth : Method} {c : Code} {lo : Nat} {g : zg} {post : Int32 → zm_M → Prop}  (S : CallFix p m c cX7_read 5 s args zU RX7) (hr : meth.sig.returnType = (some .int)) (hlocks : meth.locks = false) (hK : zk_K zNF zNM g s)  : ∀ (s0 : Nat) (s1 : Int32) (M : zm_M), pX7_read_286 g.2 post  s0 s1 M → ∀ (H : Heap) (locs : List Loc) (ls : Array Slot), zW lo g s H locs M → lv_has ls 5 [] → W p l e ({ frames := 6, cells := 0, slots := 0, locals := 155 } : Room) s m args below meth c H locs 0 0 (MQ below (va_Qi post (zc_B lo g) (zA lo)) args s 0 0 (zA lo)) (F0 m 286 ls [.int s1, .ref s0]) := by
  obtain ⟨hx, hb, hml, hown, hts⟩ := id S
  intro s0 s1 M h H locs ls hw hl
  unfold pX7_read_286 at h
  obtain ⟨ho, h⟩ := h
  refine zr_Vi (As := [.int s1]) (rest := []) S hK hw (kX7_keepLeast l lo g M s0 s1 _ h) (cwV 1 hts (zg_V zu_529 zu_530 zu_531 zu_450 zu_532) rfl rfl rfl (by decide +kernel) ⟨Nat.le_of_ble_eq_true rfl, Nat.le_of_ble_eq_true rfl⟩) (ci := 10) rfl ho rfl hl.1 rfl (Nat.le_of_ble_eq_true rfl) dX7_read_286 ⟨Nat.le_of_ble_eq_true rfl, Nat.le_of_ble_eq_true rfl⟩ (fun r14 M13 H locs hw h => ?_)
  exact zr_ri S hr hlocks hw h dX7_read_289
set_option maxHeartbeats 4000000 in
set_option maxRecDepth 100000 in
theorem sX7_read_243 {p : Program} {l : Launch} {e : Env} {s : State} {m : MethodId} {args : Array Value} {below : List Frame} {meth : Method} {c : Code} {lo : Nat} {g : zg} {post : Int32 → zm_M → Prop}  (S : CallFix p m c cX7_read 5 s args zU RX7) (hr : meth.sig.returnType = (some .int)) (hlocks : meth.locks = false) (hK : zk_K zNF zNM g s)  : ∀ (v0 : Nat) (v1 : Int32) (v2 : Int32) (M : zm_M), pX7_read_243 g.2 post  v0 v1 v2 M → ∀ (H : Heap) (locs : List Loc) (ls : Array Slot), zW lo g s H locs M → lv_has ls 5 [(0, .ref v0), (1, .int v1), (2, .int v2)] → W p l e ({ frames := 6, cells := 0, slots := 0, locals := 155 } : Room) s m args below meth c H locs 0 0 (MQ below (va_Qi post (zc_B lo g) (zA lo)) args s 0 0 (zA lo)) (F0 m 243 ls []) := by
  obtain ⟨hx, hb, hml, hown, hts⟩ := id S
  intro v0 v1 v2 M h H locs ls hw hl
  unfold pX7_read_243 at h
  refine lv_aload_n hx hb dX7_read_243 rfl (lv_at hl 0 rfl) ?_
  refine lv_iconst (v := (0 : Int32)) hx hb dX7_read_244 (by decide) ?_
  refine zr_p (C := RX7) (T := TX7) (N := 14) (ci := 10) (k := 6) S hK hw zi_X7 tyX7 tyX7_ok nmX7 rfl (by decide) zu_594 rfl rfl rfl dX7_read_245 h (fun M10 H locs hw h => ?_)
  refine lv_iload_n hx hb dX7_read_248 rfl (lv_at hl 2 rfl) ?_
  refine lv_if_ne (tgt := 260) hx hb dX7_read_249 (by decide) (fun hc => ?_) (fun hc => ?_)
  · have h := h.1 hc
    refine lv_aload_n hx hb dX7_read_260 rfl (lv_at hl 0 rfl) ?_
    refine zr_ga (C := RX7) (T := TX7) (N := 14) (ci := 10) (k := 10) S hK hw zi_X7 rfl (by decide) zu_444 dX7_read_261 h (fun n_11 h => ?_)
    refine lv_iconst (v := (1 : Int32)) hx hb dX7_read_264 (by decide) ?_
    refine zr_iald S hK hw dX7_read_265 h (fun e12 h => ?_)
    refine lv_if_ne (tgt := 276) hx hb dX7_read_266 (by decide) (fun hc => ?_) (fun hc => ?_)
    · have h := h.1 hc
      refine lv_aload_n hx hb dX7_read_276 rfl (lv_at hl 0 rfl) ?_
      refine lv_iload_n hx hb dX7_read_277 rfl (lv_at hl 1 rfl) ?_
      refine lv_if_eq (tgt := 285) hx hb dX7_read_278 (by decide) (fun hc => ?_) (fun hc => ?_)
      · have h := h.1 hc
        refine lv_iconst (v := (1 : Int32)) hx hb dX7_read_285 (by decide) ?_
        exact sX7_read_286 S hr hlocks hK  v0 (1 : Int32) _ h _ _ _ hw (lv_sub hl [] rfl)
      · have h := h.2 hc
        refine lv_iconst (v := (-1 : Int32)) hx hb dX7_read_281 (by decide) ?_
        refine lv_goto (tgt := 286) hx hb dX7_read_282 (by decide) ?_
        exact sX7_read_286 S hr hlocks hK  v0 (-1 : Int32) _ h _ _ _ hw (lv_sub hl [] rfl)
    · have h := h.2 hc
      refine lv_aload_n hx hb dX7_read_269 rfl (lv_at hl 0 rfl) ?_
      refine lv_iconst (v := (1 : Int32)) hx hb dX7_read_270 (by decide) ?_
      refine zr_p (C := RX7) (T := TX7) (N := 14) (ci := 10) (k := 0) S hK hw zi_X7 tyX7 tyX7_ok nmX7 rfl (by decide) zu_443 rfl rfl rfl dX7_read_271 h (fun M15 H locs hw h => ?_)
      refine lv_iconst (v := (0 : Int32)) hx hb dX7_read_274 (by decide) ?_
      exact zr_ri S hr hlocks hw h dX7_read_275
  · have h := h.2 hc
    refine lv_bipush (v := (-10 : Int32)) hx hb dX7_read_252 (by decide) ?_
    refine lv_aload_n hx hb dX7_read_254 rfl (lv_at hl 0 rfl) ?_
    refine zr_gi (C := RX7) (T := TX7) (N := 14) (ci := 10) (k := 11) S hK hw zi_X7 rfl (by decide) zu_596 dX7_read_255 h (fun place_16 h => ?_)
    refine lv_isub hx hb dX7_read_258 ?_
    exact zr_ri S hr hlocks hw h dX7_read_259
set_option maxHeartbeats 4000000 in
set_option maxRecDepth 100000 in
theorem sX7_read_226 {p : Program} {l : Launch} {e : Env} {s : State} {m : MethodId} {args : Array Value} {below : List Frame} {meth : Method} {c : Code} {lo : Nat} {g : zg} {post : Int32 → zm_M → Prop}  (S : CallFix p m c cX7_read 5 s args zU RX7) (hr : meth.sig.returnType = (some .int)) (hlocks : meth.locks = false) (hK : zk_K zNF zNM g s)  : ∀ (v0 : Nat) (v1 : Int32) (s0 : Int32) (M : zm_M), pX7_read_226 g.2 post  v0 v1 s0 M → ∀ (H : Heap) (locs : List Loc) (ls : Array Slot), zW lo g s H locs M → lv_has ls 5 [(0, .ref v0), (1, .int v1)] → W p l e ({ frames := 6, cells := 0, slots := 0, locals := 155 } : Room) s m args below meth c H locs 0 0 (MQ below (va_Qi post (zc_B lo g) (zA lo)) args s 0 0 (zA lo)) (F0 m 226 ls [.int s0]) := by
  obtain ⟨hx, hb, hml, hown, hts⟩ := id S
  intro v0 v1 s0 M h H locs ls hw hl
  unfold pX7_read_226 at h
  refine lv_istore_n (lv' := [(2, .int s0), (0, .ref v0), (1, .int v1)]) hx hb dX7_read_226 rfl hl (by decide) rfl (fun ls hl => ?_)
  refine lv_iload_n hx hb dX7_read_227 rfl (lv_at hl 0 rfl) ?_
  refine lv_if_eq (tgt := 243) hx hb dX7_read_228 (by decide) (fun hc => ?_) (fun hc => ?_)
  · have h := h.1 hc
    exact sX7_read_243 S hr hlocks hK  v0 v1 s0 _ h _ _ _ hw (lv_sub hl [1, 2, 0] rfl)
  · have h := h.2 hc
    refine lv_aload_n hx hb dX7_read_231 rfl (lv_at hl 1 rfl) ?_
    obtain ⟨ho, h⟩ := h
    refine zr_Vi (As := []) (rest := []) S hK hw (kX7_free l lo g M v0  _ h) (cwV 0 hts (zg_V zu_492 zu_493 zu_494 zu_450 zu_495) rfl rfl rfl (by decide +kernel) ⟨Nat.le_of_ble_eq_true rfl, Nat.le_of_ble_eq_true rfl⟩) (ci := 10) rfl ho rfl hl.1 rfl (Nat.le_of_ble_eq_true rfl) dX7_read_232 ⟨Nat.le_of_ble_eq_true rfl, Nat.le_of_ble_eq_true rfl⟩ (fun r18 M17 H locs hw h => ?_)
    refine lv_bipush (v := (-3 : Int32)) hx hb dX7_read_235 (by decide) ?_
    refine lv_icmp_ne (tgt := 243) hx hb dX7_read_237 (by decide) (fun hc => ?_) (fun hc => ?_)
    · have h := h.1 hc
      exact sX7_read_243 S hr hlocks hK  v0 v1 s0 _ h _ _ _ hw (lv_sub hl [1, 2, 0] rfl)
    · have h := h.2 hc
      refine lv_bipush (v := (-3 : Int32)) hx hb dX7_read_240 (by decide) ?_
      exact zr_ri S hr hlocks hw h dX7_read_242
set_option maxHeartbeats 4000000 in
set_option maxRecDepth 100000 in
theorem sX7_read_225 {p : Program} {l : Launch} {e : Env} {s : State} {m : MethodId} {args : Array Value} {below : List Frame} {meth : Method} {c : Code} {lo : Nat} {g : zg} {post : Int32 → zm_M → Prop}  (S : CallFix p m c cX7_read 5 s args zU RX7) (hr : meth.sig.returnType = (some .int)) (hlocks : meth.locks = false) (hK : zk_K zNF zNM g s)  : ∀ (v0 : Nat) (v1 : Int32) (M : zm_M), pX7_read_225 g.2 post  v0 v1 M → ∀ (H : Heap) (locs : List Loc) (ls : Array Slot), zW lo g s H locs M → lv_has ls 5 [(0, .ref v0), (1, .int v1)] → W p l e ({ frames := 6, cells := 0, slots := 0, locals := 155 } : Room) s m args below meth c H locs 0 0 (MQ below (va_Qi post (zc_B lo g) (zA lo)) args s 0 0 (zA lo)) (F0 m 225 ls []) := by
  obtain ⟨hx, hb, hml, hown, hts⟩ := id S
  intro v0 v1 M h H locs ls hw hl
  unfold pX7_read_225 at h
  refine lv_iconst (v := (0 : Int32)) hx hb dX7_read_225 (by decide) ?_
  exact sX7_read_226 S hr hlocks hK  v0 v1 (0 : Int32) _ h _ _ _ hw (lv_sub hl [0, 1] rfl)
set_option maxHeartbeats 4000000 in
set_option maxRecDepth 100000 in
theorem sX7_read_206 {p : Program} {l : Launch} {e : Env} {s : State} {m : MethodId} {args : Array Value} {below : List Frame} {meth : Method} {c : Code} {lo : Nat} {g : zg} {post : Int32 → zm_M → Prop}  (S : CallFix p m c cX7_read 5 s args zU RX7) (hr : meth.sig.returnType = (some .int)) (hlocks : meth.locks = false) (hK : zk_K zNF zNM g s)  : ∀ (v0 : Nat) (v1 : Int32) (v2 : Int32) (M : zm_M), pX7_read_206 g.2 post  v0 v1 v2 M → ∀ (H : Heap) (locs : List Loc) (ls : Array Slot), zW lo g s H locs M → lv_has ls 5 [(0, .ref v0), (1, .int v1), (2, .int v2)] → W p l e ({ frames := 6, cells := 0, slots := 0, locals := 155 } : Room) s m args below meth c H locs 0 0 (MQ below (va_Qi post (zc_B lo g) (zA lo)) args s 0 0 (zA lo)) (F0 m 206 ls []) := by
  obtain ⟨hx, hb, hml, hown, hts⟩ := id S
  intro v0 v1 v2 M h H locs ls hw hl
  unfold pX7_read_206 at h
  refine lv_iload_n hx hb dX7_read_206 rfl (lv_at hl 2 rfl) ?_
  refine lv_if_eq (tgt := 225) hx hb dX7_read_207 (by decide) (fun hc => ?_) (fun hc => ?_)
  · have h := h.1 hc
    exact sX7_read_225 S hr hlocks hK  v0 v1 _ h _ _ _ hw (lv_sub hl [0, 1] rfl)
  · have h := h.2 hc
    refine lv_aload_n hx hb dX7_read_210 rfl (lv_at hl 0 rfl) ?_
    refine zr_gi (C := RX7) (T := TX7) (N := 14) (ci := 10) (k := 11) S hK hw zi_X7 rfl (by decide) zu_596 dX7_read_211 h (fun place_19 h => ?_)
    refine lv_aload_n hx hb dX7_read_214 rfl (lv_at hl 0 rfl) ?_
    refine zr_gi (C := RX7) (T := TX7) (N := 14) (ci := 10) (k := 6) S hK hw zi_X7 rfl (by decide) zu_594 dX7_read_215 h (fun taped_20 h => ?_)
    refine lv_icmp_ne (tgt := 225) hx hb dX7_read_218 (by decide) (fun hc => ?_) (fun hc => ?_)
    · have h := h.1 hc
      exact sX7_read_225 S hr hlocks hK  v0 v1 _ h _ _ _ hw (lv_sub hl [0, 1] rfl)
    · have h := h.2 hc
      refine lv_iconst (v := (1 : Int32)) hx hb dX7_read_221 (by decide) ?_
      refine lv_goto (tgt := 226) hx hb dX7_read_222 (by decide) ?_
      exact sX7_read_226 S hr hlocks hK  v0 v1 (1 : Int32) _ h _ _ _ hw (lv_sub hl [0, 1] rfl)
set_option maxHeartbeats 4000000 in
set_option maxRecDepth 100000 in
theorem sX7_read_182 {p : Program} {l : Launch} {e : Env} {s : State} {m : MethodId} {args : Array Value} {below : List Frame} {meth : Method} {c : Code} {lo : Nat} {g : zg} {post : Int32 → zm_M → Prop} {k206 : Nat → Int32 → Int32 → zm_M → Prop} (S : CallFix p m c cX7_read 5 s args zU RX7) (hr : meth.sig.returnType = (some .int)) (hlocks : meth.locks = false) (hK : zk_K zNF zNM g s) (hk206 : ∀ (v0 : Nat) (v1 : Int32) (v2 : Int32) (M : zm_M), k206 v0 v1 v2 M → ∀ (H : Heap) (locs : List Loc) (ls : Array Slot), zW lo g s H locs M → lv_has ls 5 [(0, .ref v0), (1, .int v1), (2, .int v2)] → W p l e ({ frames := 6, cells := 0, slots := 0, locals := 155 } : Room) s m args below meth c H locs 0 0 (MQ below (va_Qi post (zc_B lo g) (zA lo)) args s 0 0 (zA lo)) (F0 m 206 ls [])) : ∀ (n : Nat) (v0 : Nat) (v1 : Int32) (v2 : Int32) (v4 : Int32) (M : zm_M), pX7_read_182 g.2 post k206 n v0 v1 v2 v4 M → ∀ (H : Heap) (locs : List Loc) (ls : Array Slot), zW lo g s H locs M → lv_has ls 5 [(0, .ref v0), (1, .int v1), (2, .int v2), (4, .int v4)] → W p l e ({ frames := 6, cells := 0, slots := 0, locals := 155 } : Room) s m args below meth c H locs 0 0 (MQ below (va_Qi post (zc_B lo g) (zA lo)) args s 0 0 (zA lo)) (F0 m 182 ls []) := by
  obtain ⟨hx, hb, hml, hown, hts⟩ := id S
  intro n
  induction n with
  | zero =>
    intro v0 v1 v2 v4 M h
    exact False.elim h
  | succ n182 ih =>
    intro v0 v1 v2 v4 M h H locs ls hw hl
    rw [pX7_read_182] at h
    refine lv_iload hx hb dX7_read_182 (lv_at hl 3 rfl) ?_
    refine lv_aload_n hx hb dX7_read_184 rfl (lv_at hl 0 rfl) ?_
    refine zr_gi (C := RX7) (T := TX7) (N := 14) (ci := 10) (k := 12) S hK hw zi_X7 rfl (by decide) zu_601 dX7_read_185 h (fun figureMany_31 h => ?_)
    refine lv_icmp_ge (tgt := 206) hx hb dX7_read_188 (by decide) (fun hc => ?_) (fun hc => ?_)
    · have h := h.1 hc
      exact hk206 v0 v1 v2 _ h _ _ _ hw (lv_sub hl [0, 1, 2] rfl)
    · have h := h.2 hc
      refine lv_aload_n hx hb dX7_read_191 rfl (lv_at hl 0 rfl) ?_
      refine lv_iconst (v := (1 : Int32)) hx hb dX7_read_192 (by decide) ?_
      refine lv_ldc2 (v := (10 : Int64)) hx hb hown (hts _ zu_602) dX7_read_193 ?_
      refine lv_lconst (v := (0 : Int64)) hx hb dX7_read_196 (by decide) ?_
      obtain ⟨ho, h⟩ := h
      refine zr_Vv (As := [.int (1 : Int32), .long (10 : Int64), .long (0 : Int64)]) (rest := []) S hK hw (kX7_timesSmall l lo g M v0 (1 : Int32) (10 : Int64) (0 : Int64) _ h) (cwV 3 hts (zg_V zu_603 zu_604 zu_605 zu_450 zu_606) rfl rfl rfl (by decide +kernel) ⟨Nat.le_of_ble_eq_true rfl, Nat.le_of_ble_eq_true rfl⟩) (ci := 10) rfl ho rfl hl.1 rfl (Nat.le_of_ble_eq_true rfl) dX7_read_197 ⟨Nat.le_of_ble_eq_true rfl, Nat.le_of_ble_eq_true rfl⟩ (fun M32 H locs hw h => ?_)
      obtain ⟨x33, ex33⟩ : ∃ z : Int32, z = v4 + (1 : Int32) := ⟨_, rfl⟩
      have h := h x33 ex33
      refine lv_iinc (v := x33) (lv' := [(4, .int x33), (0, .ref v0), (1, .int v1), (2, .int v2)]) hx hb dX7_read_200 hl (k := 3) rfl (by rw [ex33]; rfl) (by decide) rfl (fun ls hl => ?_)
      refine lv_goto (tgt := 182) hx hb dX7_read_203 (by decide) ?_
      exact ih v0 v1 v2 x33 _ h _ _ _ hw (lv_sub hl [1, 2, 3, 0] rfl)
set_option maxHeartbeats 4000000 in
set_option maxRecDepth 100000 in
theorem sX7_read_129 {p : Program} {l : Launch} {e : Env} {s : State} {m : MethodId} {args : Array Value} {below : List Frame} {meth : Method} {c : Code} {lo : Nat} {g : zg} {post : Int32 → zm_M → Prop}  (S : CallFix p m c cX7_read 5 s args zU RX7) (hr : meth.sig.returnType = (some .int)) (hlocks : meth.locks = false) (hK : zk_K zNF zNM g s)  : ∀ (v0 : Nat) (v1 : Int32) (v2 : Int32) (M : zm_M), pX7_read_129 g.2 post  v0 v1 v2 M → ∀ (H : Heap) (locs : List Loc) (ls : Array Slot), zW lo g s H locs M → lv_has ls 5 [(0, .ref v0), (1, .int v1), (2, .int v2)] → W p l e ({ frames := 6, cells := 0, slots := 0, locals := 155 } : Room) s m args below meth c H locs 0 0 (MQ below (va_Qi post (zc_B lo g) (zA lo)) args s 0 0 (zA lo)) (F0 m 129 ls []) := by
  obtain ⟨hx, hb, hml, hown, hts⟩ := id S
  intro v0 v1 v2 M h H locs ls hw hl
  unfold pX7_read_129 at h
  refine lv_iload_n hx hb dX7_read_129 rfl (lv_at hl 2 rfl) ?_
  refine lv_if_eq (tgt := 206) hx hb dX7_read_130 (by decide) (fun hc => ?_) (fun hc => ?_)
  · have h := h.1 hc
    exact sX7_read_206 S hr hlocks hK  v0 v1 v2 _ h _ _ _ hw (lv_sub hl [0, 1, 2] rfl)
  · have h := h.2 hc
    refine lv_aload_n hx hb dX7_read_133 rfl (lv_at hl 0 rfl) ?_
    refine zr_gi (C := RX7) (T := TX7) (N := 14) (ci := 10) (k := 11) S hK hw zi_X7 rfl (by decide) zu_596 dX7_read_134 h (fun place_21 h => ?_)
    refine lv_aload_n hx hb dX7_read_137 rfl (lv_at hl 0 rfl) ?_
    refine zr_gi (C := RX7) (T := TX7) (N := 14) (ci := 10) (k := 6) S hK hw zi_X7 rfl (by decide) zu_594 dX7_read_138 h (fun taped_22 h => ?_)
    refine lv_icmp_ge (tgt := 206) hx hb dX7_read_141 (by decide) (fun hc => ?_) (fun hc => ?_)
    · have h := h.1 hc
      exact sX7_read_206 S hr hlocks hK  v0 v1 v2 _ h _ _ _ hw (lv_sub hl [0, 1, 2] rfl)
    · have h := h.2 hc
      refine lv_aload_n hx hb dX7_read_144 rfl (lv_at hl 0 rfl) ?_
      refine zr_ga (C := RX7) (T := TX7) (N := 14) (ci := 10) (k := 5) S hK hw zi_X7 rfl (by decide) zu_595 dX7_read_145 h (fun tape_23 h => ?_)
      refine lv_aload_n hx hb dX7_read_148 rfl (lv_at hl 0 rfl) ?_
      refine zr_gi (C := RX7) (T := TX7) (N := 14) (ci := 10) (k := 11) S hK hw zi_X7 rfl (by decide) zu_596 dX7_read_149 h (fun place_24 h => ?_)
      refine zr_iald S hK hw dX7_read_152 h (fun e25 h => ?_)
      refine lv_bipush (v := (46 : Int32)) hx hb dX7_read_153 (by decide) ?_
      refine lv_icmp_ne (tgt := 206) hx hb dX7_read_155 (by decide) (fun hc => ?_) (fun hc => ?_)
      · have h := h.1 hc
        exact sX7_read_206 S hr hlocks hK  v0 v1 v2 _ h _ _ _ hw (lv_sub hl [0, 1, 2] rfl)
      · have h := h.2 hc
        refine lv_aload_n hx hb dX7_read_158 rfl (lv_at hl 0 rfl) ?_
        refine lv_dup hx hb dX7_read_159 rfl ?_
        refine zr_gi (C := RX7) (T := TX7) (N := 14) (ci := 10) (k := 11) S hK hw zi_X7 rfl (by decide) zu_596 dX7_read_160 h (fun place_26 h => ?_)
        refine lv_iconst (v := (1 : Int32)) hx hb dX7_read_163 (by decide) ?_
        refine lv_iadd hx hb dX7_read_164 ?_
        refine zr_p (C := RX7) (T := TX7) (N := 14) (ci := 10) (k := 11) S hK hw zi_X7 tyX7 tyX7_ok nmX7 rfl (by decide) zu_596 rfl rfl rfl dX7_read_165 h (fun M27 H locs hw h => ?_)
        refine lv_aload_n hx hb dX7_read_168 rfl (lv_at hl 0 rfl) ?_
        refine zr_gi (C := RX7) (T := TX7) (N := 14) (ci := 10) (k := 12) S hK hw zi_X7 rfl (by decide) zu_601 dX7_read_169 h (fun figureMany_28 h => ?_)
        refine lv_istore_n (lv' := [(3, .int figureMany_28), (0, .ref v0), (1, .int v1), (2, .int v2)]) hx hb dX7_read_172 rfl hl (by decide) rfl (fun ls hl => ?_)
        refine lv_aload_n hx hb dX7_read_173 rfl (lv_at hl 1 rfl) ?_
        refine lv_iconst (v := (0 : Int32)) hx hb dX7_read_174 (by decide) ?_
        obtain ⟨ho, h⟩ := h
        refine zr_Vi (As := [.int (0 : Int32)]) (rest := []) S hK hw (kX7_takeFigures l lo g M27 v0 (0 : Int32) _ h) (cwV 1 hts (zg_V zu_607 zu_608 zu_609 zu_450 zu_610) rfl rfl rfl (by decide +kernel) ⟨Nat.le_of_ble_eq_true rfl, Nat.le_of_ble_eq_true rfl⟩) (ci := 10) rfl ho rfl hl.1 rfl (Nat.le_of_ble_eq_true rfl) dX7_read_175 ⟨Nat.le_of_ble_eq_true rfl, Nat.le_of_ble_eq_true rfl⟩ (fun r30 M29 H locs hw h => ?_)
        refine lv_istore_n (lv' := [(2, .int r30), (3, .int figureMany_28), (0, .ref v0), (1, .int v1)]) hx hb dX7_read_178 rfl hl (by decide) rfl (fun ls hl => ?_)
        refine lv_iload_n hx hb dX7_read_179 rfl (lv_at hl 1 rfl) ?_
        refine lv_istore (lv' := [(4, .int figureMany_28), (2, .int r30), (3, .int figureMany_28), (0, .ref v0), (1, .int v1)]) hx hb dX7_read_180 hl (by decide) rfl (fun ls hl => ?_)
        obtain ⟨n182, h⟩ := h
        refine sX7_read_182 S hr hlocks hK (fun w34 w35 w36 M37 h H locs ls hw hl => ?_) n182 v0 v1 r30 figureMany_28 _ h _ _ _ hw (lv_sub hl [3, 4, 1, 0] rfl)
        exact sX7_read_206 S hr hlocks hK  w34 w35 w36 _ h _ _ _ hw (lv_sub hl [0, 1, 2] rfl)
set_option maxHeartbeats 4000000 in
set_option maxRecDepth 100000 in
theorem sX7_read_44 {p : Program} {l : Launch} {e : Env} {s : State} {m : MethodId} {args : Array Value} {below : List Frame} {meth : Method} {c : Code} {lo : Nat} {g : zg} {post : Int32 → zm_M → Prop}  (S : CallFix p m c cX7_read 5 s args zU RX7) (hr : meth.sig.returnType = (some .int)) (hlocks : meth.locks = false) (hK : zk_K zNF zNM g s)  : ∀ (v0 : Nat) (v1 : Int32) (s0 : Nat) (s1 : Int32) (M : zm_M), pX7_read_44 g.2 post  v0 v1 s0 s1 M → ∀ (H : Heap) (locs : List Loc) (ls : Array Slot), zW lo g s H locs M → lv_has ls 5 [(0, .ref v0), (1, .int v1)] → W p l e ({ frames := 6, cells := 0, slots := 0, locals := 155 } : Room) s m args below meth c H locs 0 0 (MQ below (va_Qi post (zc_B lo g) (zA lo)) args s 0 0 (zA lo)) (F0 m 44 ls [.int s1, .ref s0]) := by
  obtain ⟨hx, hb, hml, hown, hts⟩ := id S
  intro v0 v1 s0 s1 M h H locs ls hw hl
  unfold pX7_read_44 at h
  refine zr_p (C := RX7) (T := TX7) (N := 14) (ci := 10) (k := 11) S hK hw zi_X7 tyX7 tyX7_ok nmX7 rfl (by decide) zu_596 rfl rfl rfl dX7_read_44 h (fun M4 H locs hw h => ?_)
  refine lv_aload_n hx hb dX7_read_47 rfl (lv_at hl 0 rfl) ?_
  refine lv_iconst (v := (0 : Int32)) hx hb dX7_read_48 (by decide) ?_
  refine lv_lconst (v := (0 : Int64)) hx hb dX7_read_49 (by decide) ?_
  obtain ⟨ho, h⟩ := h
  refine zr_Vv (As := [.int (0 : Int32), .long (0 : Int64)]) (rest := []) S hK hw (kX7_small l lo g M4 v0 (0 : Int32) (0 : Int64) _ h) (cwV 2 hts (zg_V zu_509 zu_510 zu_511 zu_450 zu_512) rfl rfl rfl (by decide +kernel) ⟨Nat.le_of_ble_eq_true rfl, Nat.le_of_ble_eq_true rfl⟩) (ci := 10) rfl ho rfl hl.1 rfl (Nat.le_of_ble_eq_true rfl) dX7_read_50 ⟨Nat.le_of_ble_eq_true rfl, Nat.le_of_ble_eq_true rfl⟩ (fun M5 H locs hw h => ?_)
  refine lv_aload_n hx hb dX7_read_53 rfl (lv_at hl 0 rfl) ?_
  refine lv_iconst (v := (1 : Int32)) hx hb dX7_read_54 (by decide) ?_
  refine lv_lconst (v := (1 : Int64)) hx hb dX7_read_55 (by decide) ?_
  obtain ⟨ho, h⟩ := h
  refine zr_Vv (As := [.int (1 : Int32), .long (1 : Int64)]) (rest := []) S hK hw (kX7_small l lo g M5 v0 (1 : Int32) (1 : Int64) _ h) (cwV 2 hts (zg_V zu_509 zu_510 zu_511 zu_450 zu_512) rfl rfl rfl (by decide +kernel) ⟨Nat.le_of_ble_eq_true rfl, Nat.le_of_ble_eq_true rfl⟩) (ci := 10) rfl ho rfl hl.1 rfl (Nat.le_of_ble_eq_true rfl) dX7_read_56 ⟨Nat.le_of_ble_eq_true rfl, Nat.le_of_ble_eq_true rfl⟩ (fun M6 H locs hw h => ?_)
  refine lv_aload_n hx hb dX7_read_59 rfl (lv_at hl 0 rfl) ?_
  refine lv_iconst (v := (0 : Int32)) hx hb dX7_read_60 (by decide) ?_
  refine zr_p (C := RX7) (T := TX7) (N := 14) (ci := 10) (k := 12) S hK hw zi_X7 tyX7 tyX7_ok nmX7 rfl (by decide) zu_601 rfl rfl rfl dX7_read_61 h (fun M7 H locs hw h => ?_)
  refine lv_aload_n hx hb dX7_read_64 rfl (lv_at hl 0 rfl) ?_
  refine lv_iconst (v := (0 : Int32)) hx hb dX7_read_65 (by decide) ?_
  obtain ⟨ho, h⟩ := h
  refine zr_Vi (As := [.int (0 : Int32)]) (rest := []) S hK hw (kX7_takeFigures l lo g M7 v0 (0 : Int32) _ h) (cwV 1 hts (zg_V zu_607 zu_608 zu_609 zu_450 zu_610) rfl rfl rfl (by decide +kernel) ⟨Nat.le_of_ble_eq_true rfl, Nat.le_of_ble_eq_true rfl⟩) (ci := 10) rfl ho rfl hl.1 rfl (Nat.le_of_ble_eq_true rfl) dX7_read_66 ⟨Nat.le_of_ble_eq_true rfl, Nat.le_of_ble_eq_true rfl⟩ (fun r9 M8 H locs hw h => ?_)
  refine lv_istore_n (lv' := [(2, .int r9), (0, .ref v0), (1, .int v1)]) hx hb dX7_read_69 rfl hl (by decide) rfl (fun ls hl => ?_)
  refine lv_iload_n hx hb dX7_read_70 rfl (lv_at hl 0 rfl) ?_
  refine lv_if_eq (tgt := 129) hx hb dX7_read_71 (by decide) (fun hc => ?_) (fun hc => ?_)
  · have h := h.1 hc
    exact sX7_read_129 S hr hlocks hK  v0 v1 r9 _ h _ _ _ hw (lv_sub hl [1, 2, 0] rfl)
  · have h := h.2 hc
    refine lv_aload_n hx hb dX7_read_74 rfl (lv_at hl 1 rfl) ?_
    refine zr_gi (C := RX7) (T := TX7) (N := 14) (ci := 10) (k := 11) S hK hw zi_X7 rfl (by decide) zu_596 dX7_read_75 h (fun place_38 h => ?_)
    refine lv_aload_n hx hb dX7_read_78 rfl (lv_at hl 1 rfl) ?_
    refine zr_gi (C := RX7) (T := TX7) (N := 14) (ci := 10) (k := 6) S hK hw zi_X7 rfl (by decide) zu_594 dX7_read_79 h (fun taped_39 h => ?_)
    refine lv_icmp_ge (tgt := 129) hx hb dX7_read_82 (by decide) (fun hc => ?_) (fun hc => ?_)
    · have h := h.1 hc
      exact sX7_read_129 S hr hlocks hK  v0 v1 r9 _ h _ _ _ hw (lv_sub hl [1, 2, 0] rfl)
    · have h := h.2 hc
      refine lv_aload_n hx hb dX7_read_85 rfl (lv_at hl 1 rfl) ?_
      refine zr_ga (C := RX7) (T := TX7) (N := 14) (ci := 10) (k := 5) S hK hw zi_X7 rfl (by decide) zu_595 dX7_read_86 h (fun tape_40 h => ?_)
      refine lv_aload_n hx hb dX7_read_89 rfl (lv_at hl 1 rfl) ?_
      refine zr_gi (C := RX7) (T := TX7) (N := 14) (ci := 10) (k := 11) S hK hw zi_X7 rfl (by decide) zu_596 dX7_read_90 h (fun place_41 h => ?_)
      refine zr_iald S hK hw dX7_read_93 h (fun e42 h => ?_)
      refine lv_bipush (v := (47 : Int32)) hx hb dX7_read_94 (by decide) ?_
      refine lv_icmp_ne (tgt := 129) hx hb dX7_read_96 (by decide) (fun hc => ?_) (fun hc => ?_)
      · have h := h.1 hc
        exact sX7_read_129 S hr hlocks hK  v0 v1 r9 _ h _ _ _ hw (lv_sub hl [1, 2, 0] rfl)
      · have h := h.2 hc
        refine lv_aload_n hx hb dX7_read_99 rfl (lv_at hl 1 rfl) ?_
        refine lv_dup hx hb dX7_read_100 rfl ?_
        refine zr_gi (C := RX7) (T := TX7) (N := 14) (ci := 10) (k := 11) S hK hw zi_X7 rfl (by decide) zu_596 dX7_read_101 h (fun place_43 h => ?_)
        refine lv_iconst (v := (1 : Int32)) hx hb dX7_read_104 (by decide) ?_
        refine lv_iadd hx hb dX7_read_105 ?_
        refine zr_p (C := RX7) (T := TX7) (N := 14) (ci := 10) (k := 11) S hK hw zi_X7 tyX7 tyX7_ok nmX7 rfl (by decide) zu_596 rfl rfl rfl dX7_read_106 h (fun M44 H locs hw h => ?_)
        refine lv_aload_n hx hb dX7_read_109 rfl (lv_at hl 1 rfl) ?_
        refine lv_iconst (v := (1 : Int32)) hx hb dX7_read_110 (by decide) ?_
        refine lv_lconst (v := (0 : Int64)) hx hb dX7_read_111 (by decide) ?_
        obtain ⟨ho, h⟩ := h
        refine zr_Vv (As := [.int (1 : Int32), .long (0 : Int64)]) (rest := []) S hK hw (kX7_small l lo g M44 v0 (1 : Int32) (0 : Int64) _ h) (cwV 2 hts (zg_V zu_509 zu_510 zu_511 zu_450 zu_512) rfl rfl rfl (by decide +kernel) ⟨Nat.le_of_ble_eq_true rfl, Nat.le_of_ble_eq_true rfl⟩) (ci := 10) rfl ho rfl hl.1 rfl (Nat.le_of_ble_eq_true rfl) dX7_read_112 ⟨Nat.le_of_ble_eq_true rfl, Nat.le_of_ble_eq_true rfl⟩ (fun M45 H locs hw h => ?_)
        refine lv_aload_n hx hb dX7_read_115 rfl (lv_at hl 1 rfl) ?_
        refine lv_iconst (v := (0 : Int32)) hx hb dX7_read_116 (by decide) ?_
        refine zr_p (C := RX7) (T := TX7) (N := 14) (ci := 10) (k := 12) S hK hw zi_X7 tyX7 tyX7_ok nmX7 rfl (by decide) zu_601 rfl rfl rfl dX7_read_117 h (fun M46 H locs hw h => ?_)
        refine lv_aload_n hx hb dX7_read_120 rfl (lv_at hl 1 rfl) ?_
        refine lv_iconst (v := (1 : Int32)) hx hb dX7_read_121 (by decide) ?_
        obtain ⟨ho, h⟩ := h
        refine zr_Vi (As := [.int (1 : Int32)]) (rest := []) S hK hw (kX7_takeFigures l lo g M46 v0 (1 : Int32) _ h) (cwV 1 hts (zg_V zu_607 zu_608 zu_609 zu_450 zu_610) rfl rfl rfl (by decide +kernel) ⟨Nat.le_of_ble_eq_true rfl, Nat.le_of_ble_eq_true rfl⟩) (ci := 10) rfl ho rfl hl.1 rfl (Nat.le_of_ble_eq_true rfl) dX7_read_122 ⟨Nat.le_of_ble_eq_true rfl, Nat.le_of_ble_eq_true rfl⟩ (fun r48 M47 H locs hw h => ?_)
        refine lv_istore_n (lv' := [(2, .int r48), (0, .ref v0), (1, .int v1)]) hx hb dX7_read_125 rfl hl (by decide) rfl (fun ls hl => ?_)
        refine lv_goto (tgt := 206) hx hb dX7_read_126 (by decide) ?_
        exact sX7_read_206 S hr hlocks hK  v0 v1 r48 _ h _ _ _ hw (lv_sub hl [1, 2, 0] rfl)
set_option maxHeartbeats 4000000 in
set_option maxRecDepth 100000 in
theorem sX7_read_33 {p : Program} {l : Launch} {e : Env} {s : State} {m : MethodId} {args : Array Value} {below : List Frame} {meth : Method} {c : Code} {lo : Nat} {g : zg} {post : Int32 → zm_M → Prop}  (S : CallFix p m c cX7_read 5 s args zU RX7) (hr : meth.sig.returnType = (some .int)) (hlocks : meth.locks = false) (hK : zk_K zNF zNM g s)  : ∀ (v0 : Nat) (s0 : Int32) (M : zm_M), pX7_read_33 g.2 post  v0 s0 M → ∀ (H : Heap) (locs : List Loc) (ls : Array Slot), zW lo g s H locs M → lv_has ls 5 [(0, .ref v0)] → W p l e ({ frames := 6, cells := 0, slots := 0, locals := 155 } : Room) s m args below meth c H locs 0 0 (MQ below (va_Qi post (zc_B lo g) (zA lo)) args s 0 0 (zA lo)) (F0 m 33 ls [.int s0]) := by
  obtain ⟨hx, hb, hml, hown, hts⟩ := id S
  intro v0 s0 M h H locs ls hw hl
  unfold pX7_read_33 at h
  refine lv_istore_n (lv' := [(1, .int s0), (0, .ref v0)]) hx hb dX7_read_33 rfl hl (by decide) rfl (fun ls hl => ?_)
  refine lv_aload_n hx hb dX7_read_34 rfl (lv_at hl 1 rfl) ?_
  refine lv_iload_n hx hb dX7_read_35 rfl (lv_at hl 0 rfl) ?_
  refine lv_if_eq (tgt := 43) hx hb dX7_read_36 (by decide) (fun hc => ?_) (fun hc => ?_)
  · have h := h.1 hc
    refine lv_iconst (v := (0 : Int32)) hx hb dX7_read_43 (by decide) ?_
    exact sX7_read_44 S hr hlocks hK  v0 s0 v0 (0 : Int32) _ h _ _ _ hw (lv_sub hl [1, 0] rfl)
  · have h := h.2 hc
    refine lv_iconst (v := (1 : Int32)) hx hb dX7_read_39 (by decide) ?_
    refine lv_goto (tgt := 44) hx hb dX7_read_40 (by decide) ?_
    exact sX7_read_44 S hr hlocks hK  v0 s0 v0 (1 : Int32) _ h _ _ _ hw (lv_sub hl [1, 0] rfl)
set_option maxHeartbeats 4000000 in
set_option maxRecDepth 100000 in
theorem sX7_read_32 {p : Program} {l : Launch} {e : Env} {s : State} {m : MethodId} {args : Array Value} {below : List Frame} {meth : Method} {c : Code} {lo : Nat} {g : zg} {post : Int32 → zm_M → Prop}  (S : CallFix p m c cX7_read 5 s args zU RX7) (hr : meth.sig.returnType = (some .int)) (hlocks : meth.locks = false) (hK : zk_K zNF zNM g s)  : ∀ (v0 : Nat) (M : zm_M), pX7_read_32 g.2 post  v0 M → ∀ (H : Heap) (locs : List Loc) (ls : Array Slot), zW lo g s H locs M → lv_has ls 5 [(0, .ref v0)] → W p l e ({ frames := 6, cells := 0, slots := 0, locals := 155 } : Room) s m args below meth c H locs 0 0 (MQ below (va_Qi post (zc_B lo g) (zA lo)) args s 0 0 (zA lo)) (F0 m 32 ls []) := by
  obtain ⟨hx, hb, hml, hown, hts⟩ := id S
  intro v0 M h H locs ls hw hl
  unfold pX7_read_32 at h
  refine lv_iconst (v := (0 : Int32)) hx hb dX7_read_32 (by decide) ?_
  exact sX7_read_33 S hr hlocks hK  v0 (0 : Int32) _ h _ _ _ hw (lv_sub hl [0] rfl)
set_option maxHeartbeats 4000000 in
set_option maxRecDepth 100000 in
theorem kX7_read (l : Launch) (lo : Nat) (g : zg) (M : zm_M) (a0 : Nat) (post : Int32 → zm_M → Prop) (h : pX7_read g.2 a0 post M) : Met l yX7_read (Cond.code yX7_read cX7_read 5 (some .int) :: zU) (({ frames := 6, cells := 0, slots := 0, locals := 155 } : Room)) (zc_P zNF zNM lo g M [.ref a0]) (va_Qi post (zc_B lo g) (zA lo)) 0 0 (zA lo) := by
  refine Met.ofW (cc := cX7_read) (maxL := 5) (ret := (some .int)) (by decide) rfl ?_
  intro p e s m args below meth c s₁ B hml hv
  obtain ⟨rfl, hR, hK⟩ := hv
  have hts := atoms_spec (ws := Cond.code yX7_read cX7_read 5 (some .int) :: zU) B.pre
  have hts : ∀ w ∈ zU, w.before _ s = true := fun w hw => hts w (List.mem_cons_of_mem _ hw)
  have hown : s.vm.findClass RX7 = some m.cls := findClass_of_methodNamed B.named
  have hx := B.exec
  have hb := B.bytes
  have hr := B.returns
  have hlocks := B.notSynchronized
  have S : CallFix p m c cX7_read 5 s ([.ref a0] : List Value).toArray zU RX7 := ⟨hx, hb, hml, hown, hts⟩
  have hw : zW lo g s s.heap [] M := ⟨hR, va_S.rf⟩
  have hl := lv_entry ([.ref a0]) (n := 5) (Nat.le_of_ble_eq_true rfl)
  rw [lg_entry_eq]
  generalize (lg_sl ([.ref a0]) ++ List.replicate (5 - (lg_sl ([.ref a0])).length) Slot.unset).toArray = ls at hl ⊢
  have hl : lv_has ls 5 [(0, .ref a0)] := hl
  unfold pX7_read at h
  refine lv_aload_n hx hb dX7_read_0 rfl (lv_at hl 0 rfl) ?_
  refine lv_iconst (v := (0 : Int32)) hx hb dX7_read_1 (by decide) ?_
  refine zr_p (C := RX7) (T := TX7) (N := 14) (ci := 10) (k := 0) S hK hw zi_X7 tyX7 tyX7_ok nmX7 rfl (by decide) zu_443 rfl rfl rfl dX7_read_2 h (fun M1 H locs hw h => ?_)
  refine lv_aload_n hx hb dX7_read_5 rfl (lv_at hl 0 rfl) ?_
  refine lv_iconst (v := (0 : Int32)) hx hb dX7_read_6 (by decide) ?_
  refine zr_p (C := RX7) (T := TX7) (N := 14) (ci := 10) (k := 11) S hK hw zi_X7 tyX7 tyX7_ok nmX7 rfl (by decide) zu_596 rfl rfl rfl dX7_read_7 h (fun M2 H locs hw h => ?_)
  refine lv_aload_n hx hb dX7_read_10 rfl (lv_at hl 0 rfl) ?_
  refine zr_gi (C := RX7) (T := TX7) (N := 14) (ci := 10) (k := 6) S hK hw zi_X7 rfl (by decide) zu_594 dX7_read_11 h (fun taped_3 h => ?_)
  refine lv_if_le (tgt := 32) hx hb dX7_read_14 (by decide) (fun hc => ?_) (fun hc => ?_)
  · have h := h.1 hc
    exact sX7_read_32 S hr hlocks hK  a0 _ h _ _ _ hw (lv_sub hl [0] rfl)
  · have h := h.2 hc
    refine lv_aload_n hx hb dX7_read_17 rfl (lv_at hl 0 rfl) ?_
    refine zr_ga (C := RX7) (T := TX7) (N := 14) (ci := 10) (k := 5) S hK hw zi_X7 rfl (by decide) zu_595 dX7_read_18 h (fun tape_49 h => ?_)
    refine lv_iconst (v := (0 : Int32)) hx hb dX7_read_21 (by decide) ?_
    refine zr_iald S hK hw dX7_read_22 h (fun e50 h => ?_)
    refine lv_bipush (v := (45 : Int32)) hx hb dX7_read_23 (by decide) ?_
    refine lv_icmp_ne (tgt := 32) hx hb dX7_read_25 (by decide) (fun hc => ?_) (fun hc => ?_)
    · have h := h.1 hc
      exact sX7_read_32 S hr hlocks hK  a0 _ h _ _ _ hw (lv_sub hl [0] rfl)
    · have h := h.2 hc
      refine lv_iconst (v := (1 : Int32)) hx hb dX7_read_28 (by decide) ?_
      refine lv_goto (tgt := 33) hx hb dX7_read_29 (by decide) ?_
      exact sX7_read_33 S hr hlocks hK  a0 (1 : Int32) _ h _ _ _ hw (lv_sub hl [0] rfl)
set_option maxHeartbeats 4000000 in
set_option maxRecDepth 100000 in
theorem kX7_say (l : Launch) (lo : Nat) (g : zg) (M : zm_M) (a0 : Nat) (a1 : Int32) (post : zm_M → Prop) (h : pX7_say g.2 a0 a1 post M) : Met l yX7_say (Cond.code yX7_say cX7_say 2 none :: zU) (({ frames := 1, cells := 0, slots := 0, locals := 40 } : Room)) (zc_P zNF zNM lo g M [.ref a0, .int a1]) (va_Qv post (zc_B lo g) (zA lo)) 0 0 (zA lo) := by
  refine Met.ofW (cc := cX7_say) (maxL := 2) (ret := none) (by decide) rfl ?_
  intro p e s m args below meth c s₁ B hml hv
  obtain ⟨rfl, hR, hK⟩ := hv
  have hts := atoms_spec (ws := Cond.code yX7_say cX7_say 2 none :: zU) B.pre
  have hts : ∀ w ∈ zU, w.before _ s = true := fun w hw => hts w (List.mem_cons_of_mem _ hw)
  have hown : s.vm.findClass RX7 = some m.cls := findClass_of_methodNamed B.named
  have hx := B.exec
  have hb := B.bytes
  have hr := B.returns
  have hlocks := B.notSynchronized
  have S : CallFix p m c cX7_say 2 s ([.ref a0, .int a1] : List Value).toArray zU RX7 := ⟨hx, hb, hml, hown, hts⟩
  have hw : zW lo g s s.heap [] M := ⟨hR, va_S.rf⟩
  have hl := lv_entry ([.ref a0, .int a1]) (n := 2) (Nat.le_of_ble_eq_true rfl)
  rw [lg_entry_eq]
  generalize (lg_sl ([.ref a0, .int a1]) ++ List.replicate (2 - (lg_sl ([.ref a0, .int a1])).length) Slot.unset).toArray = ls at hl ⊢
  have hl : lv_has ls 2 [(0, .ref a0), (1, .int a1)] := hl
  unfold pX7_say at h
  refine lv_aload_n hx hb dX7_say_0 rfl (lv_at hl 0 rfl) ?_
  refine zr_ga (C := RX7) (T := TX7) (N := 14) (ci := 10) (k := 7) S hK hw zi_X7 rfl (by decide) zu_611 dX7_say_1 h (fun out_1 h => ?_)
  refine lv_aload_n hx hb dX7_say_4 rfl (lv_at hl 0 rfl) ?_
  refine zr_gi (C := RX7) (T := TX7) (N := 14) (ci := 10) (k := 8) S hK hw zi_X7 rfl (by decide) zu_612 dX7_say_5 h (fun outMany_2 h => ?_)
  refine lv_iload_n hx hb dX7_say_8 rfl (lv_at hl 1 rfl) ?_
  refine zr_iast S hK hw dX7_say_9 h (fun M3 H locs hw h => ?_)
  refine lv_aload_n hx hb dX7_say_10 rfl (lv_at hl 0 rfl) ?_
  refine lv_dup hx hb dX7_say_11 rfl ?_
  refine zr_gi (C := RX7) (T := TX7) (N := 14) (ci := 10) (k := 8) S hK hw zi_X7 rfl (by decide) zu_612 dX7_say_12 h (fun outMany_4 h => ?_)
  refine lv_iconst (v := (1 : Int32)) hx hb dX7_say_15 (by decide) ?_
  refine lv_iadd hx hb dX7_say_16 ?_
  refine zr_p (C := RX7) (T := TX7) (N := 14) (ci := 10) (k := 8) S hK hw zi_X7 tyX7 tyX7_ok nmX7 rfl (by decide) zu_612 rfl rfl rfl dX7_say_17 h (fun M5 H locs hw h => ?_)
  exact zr_rv S hr hlocks hw h dX7_say_20
