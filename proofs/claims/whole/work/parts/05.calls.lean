/-! CALLS, RETURNS, the JDK's small ones -/
def zb (v : Int32) : Prop := narrow .boolean (.int v) = .int v
theorem zb_0 : zb 0 := rfl
theorem zb_1 : zb 1 := rfl
theorem zc_lt {x y : Int64} : lg_cmp x y < 0 ↔ x < y := by
  unfold lg_cmp
  by_cases h1 : x > y
  · rw [if_pos h1]
    exact ⟨fun h => absurd h (by decide), fun h => absurd (Int64.lt_iff_toInt_lt.mp h) (by have := Int64.lt_iff_toInt_lt.mp h1; omega)⟩
  · rw [if_neg h1]
    by_cases h2 : x = y
    · rw [if_pos h2]
      exact ⟨fun h => absurd h (by decide), fun h => absurd (Int64.lt_iff_toInt_lt.mp h) (by rw [h2]; omega)⟩
    · rw [if_neg h2]
      refine ⟨fun _ => ?_, fun _ => by decide⟩
      have h3 : ¬ y.toInt < x.toInt := fun q => h1 (Int64.lt_iff_toInt_lt.mpr q)
      have h4 : x.toInt ≠ y.toInt := fun q => h2 (Int64.toInt_inj.mp q)
      exact Int64.lt_iff_toInt_lt.mpr (by omega)
theorem zc_eq {x y : Int64} : lg_cmp x y = 0 ↔ x = y := by
  unfold lg_cmp
  by_cases h1 : x > y
  · rw [if_pos h1]
    exact ⟨fun h => absurd h (by decide), fun h => absurd (Int64.lt_iff_toInt_lt.mp h1) (by rw [h]; omega)⟩
  · rw [if_neg h1]
    by_cases h2 : x = y
    · rw [if_pos h2]
      exact ⟨fun _ => h2, fun _ => rfl⟩
    · rw [if_neg h2]
      exact ⟨fun h => absurd h (by decide), fun h => absurd h h2⟩
theorem zc_gt {x y : Int64} : 0 < lg_cmp x y ↔ y < x := by
  unfold lg_cmp
  by_cases h1 : x > y
  · rw [if_pos h1]
    exact ⟨fun _ => h1, fun _ => by decide⟩
  · rw [if_neg h1]
    have h9 : ¬ y < x := h1
    by_cases h2 : x = y
    · rw [if_pos h2]
      exact ⟨fun h => absurd h (by decide), fun h => absurd h h9⟩
    · rw [if_neg h2]
      exact ⟨fun h => absurd h (by decide), fun h => absurd h h9⟩
theorem zc_le {x y : Int64} : lg_cmp x y ≤ 0 ↔ x ≤ y := by
  rw [← Int32.not_lt, ← Int64.not_lt]
  exact not_congr zc_gt
theorem zc_ge {x y : Int64} : 0 ≤ lg_cmp x y ↔ y ≤ x := by
  rw [← Int32.not_lt, ← Int64.not_lt]
  exact not_congr zc_lt
theorem zc_Bof {lo : Nat} {g : zg} {M : zm_M} {t : State} {H : Heap} (ht : t.heap = H) (h : zm_R lo g H M) : zc_B lo g M t := by
  unfold zc_B
  rw [ht]
  exact h
section ZRC
variable {p : Program} {l : Launch} {e : Env} {R : Room} {s : State} {m : MethodId} {args : Array Value} {below : List Frame} {meth : Method} {c : Code} {H : Heap} {locs : List Loc} {cells slots : Nat} {Q : State → Prop}
variable {cc : ByteArray} {pc : Nat} {ls : Array Slot} {rest st0 : List Value} {lo : Nat} {g : zg} {M : zm_M} {Ts : List Cond} {own : String} {nL : Nat} {NF : List zn_T} {NM : List (String × Nat × MethodName × String)}
variable {y : MethodName} {bytes : ByteArray} {maxL mc ms n index : Nat} {ret : Option FieldType} {ws : List Cond} {rm : Room} {As : List Value} {C : String} {b : Nat}
theorem zr_pre {av : List Value} (hK : zk_K NF NM g s) (hw : zW lo g s H locs M) : ∀ U : State, U.heap = H → s.WarmedH U.vm → zc_P NF NM lo g M av av.toArray U := fun U hU hW => ⟨rfl, by rw [hU]; exact hw.1, hK.warm hW⟩
theorem zr_recv {T : u_T} {N ci : Nat} (hK : zk_K NF NM g s) (hw : zW lo g s H locs M) (hc : vwCl[ci]? = some (C, T, N)) (ho : zw_ob M b ci) : ∃ cellB : Cell, H[b]? = some cellB ∧ cellB.vm.isStatics = false ∧ s.vm.findClass C = some cellB.cls := by
  obtain ⟨fs, h⟩ := ho
  exact va_recv hK.1 (hw.one h) (ci := ci) (q0 := 0) hc rfl
theorem zr_Vi {T : u_T} {N ci : Nat} {post : Int32 → zm_M → Prop} (S : CallFix p m c cc nL s args Ts own) (hK : zk_K NF NM g s) (hw : zW lo g s H locs M) (hM : Met l y ws rm (zc_P NF NM lo g M (.ref b :: As)) (va_Qi post (zc_B lo g) (zA lo)) mc ms (zA lo)) (cw : CallW R s args own C index y bytes maxL ret ws rm mc ms n) (hc : vwCl[ci]? = some (C, T, N)) (ho : zw_ob M b ci) (hn : As.length = n) (hsize : ls.size = nL) (hst : st0 = As.reverse ++ .ref b :: rest) (hrm : (rest.map fun v => v.category).sum ≤ 8) (hdg : decode cc pc = .ok (.invokevirtual index, 3)) (hf : cells + mc ≤ R.cells ∧ slots + ms ≤ R.slots)
    (kk : ∀ (r : Int32) (M1 : zm_M) (H1 : Heap) (locs1 : List Loc), zW lo g s H1 locs1 M1 → post r M1 → W p l e R s m args below meth c H1 locs1 (cells + mc) (slots + ms) Q (F0 m (pc + 3) ls (.int r :: rest))) : W p l e R s m args below meth c H locs cells slots Q (F0 m pc ls st0) :=
  va_calli (va_runV S hM cw ⟨zc_blind, zr_recv hK hw hc ho, zr_pre hK hw⟩ rfl hn hsize hst (lv_room hrm) hdg hf) hw.2 (fun _ _ h => h) (fun _ h => h) (fun r u t H1 locs1 ht hvm hq hB hz1 hk1 hS => kk r u H1 locs1 ⟨ht ▸ hB, hS⟩ hq)
theorem zr_Vl {T : u_T} {N ci : Nat} {post : Int64 → zm_M → Prop} (S : CallFix p m c cc nL s args Ts own) (hK : zk_K NF NM g s) (hw : zW lo g s H locs M) (hM : Met l y ws rm (zc_P NF NM lo g M (.ref b :: As)) (va_Ql post (zc_B lo g) (zA lo)) mc ms (zA lo)) (cw : CallW R s args own C index y bytes maxL ret ws rm mc ms n) (hc : vwCl[ci]? = some (C, T, N)) (ho : zw_ob M b ci) (hn : As.length = n) (hsize : ls.size = nL) (hst : st0 = As.reverse ++ .ref b :: rest) (hrm : (rest.map fun v => v.category).sum ≤ 8) (hdg : decode cc pc = .ok (.invokevirtual index, 3)) (hf : cells + mc ≤ R.cells ∧ slots + ms ≤ R.slots)
    (kk : ∀ (r : Int64) (M1 : zm_M) (H1 : Heap) (locs1 : List Loc), zW lo g s H1 locs1 M1 → post r M1 → W p l e R s m args below meth c H1 locs1 (cells + mc) (slots + ms) Q (F0 m (pc + 3) ls (.long r :: rest))) : W p l e R s m args below meth c H locs cells slots Q (F0 m pc ls st0) :=
  va_calll (va_runV S hM cw ⟨zc_blind, zr_recv hK hw hc ho, zr_pre hK hw⟩ rfl hn hsize hst (lv_room hrm) hdg hf) hw.2 (fun _ _ h => h) (fun _ h => h) (fun r u t H1 locs1 ht hvm hq hB hz1 hk1 hS => kk r u H1 locs1 ⟨ht ▸ hB, hS⟩ hq)
theorem zr_Vq {T : u_T} {N ci : Nat} {post : Option Nat → zm_M → Prop} (S : CallFix p m c cc nL s args Ts own) (hK : zk_K NF NM g s) (hw : zW lo g s H locs M) (hM : Met l y ws rm (zc_P NF NM lo g M (.ref b :: As)) (va_Qq post (zc_B lo g) (zA lo)) mc ms (zA lo)) (cw : CallW R s args own C index y bytes maxL ret ws rm mc ms n) (hc : vwCl[ci]? = some (C, T, N)) (ho : zw_ob M b ci) (hn : As.length = n) (hsize : ls.size = nL) (hst : st0 = As.reverse ++ .ref b :: rest) (hrm : (rest.map fun v => v.category).sum ≤ 8) (hdg : decode cc pc = .ok (.invokevirtual index, 3)) (hf : cells + mc ≤ R.cells ∧ slots + ms ≤ R.slots)
    (kk : ∀ (r : Option Nat) (M1 : zm_M) (H1 : Heap) (locs1 : List Loc), zW lo g s H1 locs1 M1 → post r M1 → W p l e R s m args below meth c H1 locs1 (cells + mc) (slots + ms) Q (F0 m (pc + 3) ls (va_rf r :: rest))) : W p l e R s m args below meth c H locs cells slots Q (F0 m pc ls st0) :=
  va_callq (va_runV S hM cw ⟨zc_blind, zr_recv hK hw hc ho, zr_pre hK hw⟩ rfl hn hsize hst (lv_room hrm) hdg hf) hw.2 (fun _ _ h => h) (fun _ h => h) (fun r u t H1 locs1 ht hvm hq hB hz1 hk1 hS => kk r u H1 locs1 ⟨ht ▸ hB, hS⟩ hq)
theorem zr_Vv {T : u_T} {N ci : Nat} {post : zm_M → Prop} (S : CallFix p m c cc nL s args Ts own) (hK : zk_K NF NM g s) (hw : zW lo g s H locs M) (hM : Met l y ws rm (zc_P NF NM lo g M (.ref b :: As)) (va_Qv post (zc_B lo g) (zA lo)) mc ms (zA lo)) (cw : CallW R s args own C index y bytes maxL ret ws rm mc ms n) (hc : vwCl[ci]? = some (C, T, N)) (ho : zw_ob M b ci) (hn : As.length = n) (hsize : ls.size = nL) (hst : st0 = As.reverse ++ .ref b :: rest) (hrm : (rest.map fun v => v.category).sum ≤ 8) (hdg : decode cc pc = .ok (.invokevirtual index, 3)) (hf : cells + mc ≤ R.cells ∧ slots + ms ≤ R.slots)
    (kk : ∀ (M1 : zm_M) (H1 : Heap) (locs1 : List Loc), zW lo g s H1 locs1 M1 → post M1 → W p l e R s m args below meth c H1 locs1 (cells + mc) (slots + ms) Q (F0 m (pc + 3) ls rest)) : W p l e R s m args below meth c H locs cells slots Q (F0 m pc ls st0) :=
  va_callv (va_runV S hM cw ⟨zc_blind, zr_recv hK hw hc ho, zr_pre hK hw⟩ rfl hn hsize hst (lv_room hrm) hdg hf) hw.2 (fun _ _ h => h) (fun _ h => h) (fun u t H1 locs1 ht hvm hq hB hz1 hk1 hS => kk u H1 locs1 ⟨ht ▸ hB, hS⟩ hq)
theorem zr_Si {post : Int32 → zm_M → Prop} (S : CallFix p m c cc nL s args Ts own) (hK : zk_K NF NM g s) (hw : zW lo g s H locs M) (hM : Met l y ws rm (zc_P NF NM lo g M As) (va_Qi post (zc_B lo g) (zA lo)) mc ms (zA lo)) (cw : CallB R s args own index y bytes maxL ret ws rm mc ms n ∧ (Cond.static y).before args s = true) (hn : As.length = n) (hsize : ls.size = nL) (hst : st0 = As.reverse ++ rest) (hrm : (rest.map fun v => v.category).sum ≤ 8) (hdg : decode cc pc = .ok (.invokestatic index, 3)) (hf : cells + mc ≤ R.cells ∧ slots + ms ≤ R.slots)
    (kk : ∀ (r : Int32) (M1 : zm_M) (H1 : Heap) (locs1 : List Loc), zW lo g s H1 locs1 M1 → post r M1 → W p l e R s m args below meth c H1 locs1 (cells + mc) (slots + ms) Q (F0 m (pc + 3) ls (.int r :: rest))) : W p l e R s m args below meth c H locs cells slots Q (F0 m pc ls st0) :=
  va_calli (va_runS S hM cw ⟨zc_blind, zr_pre hK hw⟩ rfl hn hsize hst (lv_room hrm) hdg hf) hw.2 (fun _ _ h => h) (fun _ h => h) (fun r u t H1 locs1 ht hvm hq hB hz1 hk1 hS => kk r u H1 locs1 ⟨ht ▸ hB, hS⟩ hq)
theorem zr_Sl {post : Int64 → zm_M → Prop} (S : CallFix p m c cc nL s args Ts own) (hK : zk_K NF NM g s) (hw : zW lo g s H locs M) (hM : Met l y ws rm (zc_P NF NM lo g M As) (va_Ql post (zc_B lo g) (zA lo)) mc ms (zA lo)) (cw : CallB R s args own index y bytes maxL ret ws rm mc ms n ∧ (Cond.static y).before args s = true) (hn : As.length = n) (hsize : ls.size = nL) (hst : st0 = As.reverse ++ rest) (hrm : (rest.map fun v => v.category).sum ≤ 8) (hdg : decode cc pc = .ok (.invokestatic index, 3)) (hf : cells + mc ≤ R.cells ∧ slots + ms ≤ R.slots)
    (kk : ∀ (r : Int64) (M1 : zm_M) (H1 : Heap) (locs1 : List Loc), zW lo g s H1 locs1 M1 → post r M1 → W p l e R s m args below meth c H1 locs1 (cells + mc) (slots + ms) Q (F0 m (pc + 3) ls (.long r :: rest))) : W p l e R s m args below meth c H locs cells slots Q (F0 m pc ls st0) :=
  va_calll (va_runS S hM cw ⟨zc_blind, zr_pre hK hw⟩ rfl hn hsize hst (lv_room hrm) hdg hf) hw.2 (fun _ _ h => h) (fun _ h => h) (fun r u t H1 locs1 ht hvm hq hB hz1 hk1 hS => kk r u H1 locs1 ⟨ht ▸ hB, hS⟩ hq)
/-! returns -/
theorem zr_ri {post : Int32 → zm_M → Prop} {v : Int32} (S : CallFix p m c cc nL s args Ts own) (hr : meth.sig.returnType = some .int) (hlocks : meth.locks = false) (hw : zW lo g s H locs M) (h : post v M) (hdg : decode cc pc = .ok (.ireturn, 1)) : W p l e R s m args below meth c H locs cells slots (MQ below (va_Qi post (zc_B lo g) (zA lo)) args s cells slots (zA lo)) (F0 m pc ls [.int v]) :=
  W.iret S.1 S.2.1 hr (fun t ht hW => ⟨⟨v, M, rfl, h, zc_Bof ht hw.1⟩, hw.2.F ht⟩) hw.2.2.2 hdg (hlocks := hlocks)
theorem zr_rz {post : Int32 → zm_M → Prop} {v : Int32} (S : CallFix p m c cc nL s args Ts own) (hr : meth.sig.returnType = some .boolean) (hlocks : meth.locks = false) (hw : zW lo g s H locs M) (h : zb v ∧ post v M) (hdg : decode cc pc = .ok (.ireturn, 1)) : W p l e R s m args below meth c H locs cells slots (MQ below (va_Qi post (zc_B lo g) (zA lo)) args s cells slots (zA lo)) (F0 m pc ls [.int v]) :=
  W.zret S.1 S.2.1 hr h.1 (fun t ht hW => ⟨⟨v, M, rfl, h.2, zc_Bof ht hw.1⟩, hw.2.F ht⟩) hw.2.2.2 hdg (hlocks := hlocks)
theorem zr_rl {post : Int64 → zm_M → Prop} {v : Int64} (S : CallFix p m c cc nL s args Ts own) (hr : meth.sig.returnType = some .long) (hlocks : meth.locks = false) (hw : zW lo g s H locs M) (h : post v M) (hdg : decode cc pc = .ok (.lreturn, 1)) : W p l e R s m args below meth c H locs cells slots (MQ below (va_Ql post (zc_B lo g) (zA lo)) args s cells slots (zA lo)) (F0 m pc ls [.long v]) :=
  W.lret S.1 S.2.1 hr (fun t ht hW => ⟨⟨v, M, rfl, h, zc_Bof ht hw.1⟩, hw.2.F ht⟩) hw.2.2.2 hdg (hlocks := hlocks)
theorem zr_rv {post : zm_M → Prop} (S : CallFix p m c cc nL s args Ts own) (hr : meth.sig.returnType = none) (hlocks : meth.locks = false) (hw : zW lo g s H locs M) (h : post M) (hdg : decode cc pc = .ok (.return_, 1)) : W p l e R s m args below meth c H locs cells slots (MQ below (va_Qv post (zc_B lo g) (zA lo)) args s cells slots (zA lo)) (F0 m pc ls []) :=
  W.vret S.1 S.2.1 hr (fun t ht hW => ⟨⟨M, rfl, h, zc_Bof ht hw.1⟩, hw.2.F ht⟩) hw.2.2.2 hdg (hlocks := hlocks)
theorem zr_rq {post : Option Nat → zm_M → Prop} {v : Option Nat} {nm : String} (S : CallFix p m c cc nL s args Ts own) (hr : meth.sig.returnType = some (.object nm)) (hlocks : meth.locks = false) (hw : zW lo g s H locs M) (h : post v M) (hdg : decode cc pc = .ok (.areturn, 1)) : W p l e R s m args below meth c H locs cells slots (MQ below (va_Qq post (zc_B lo g) (zA lo)) args s cells slots (zA lo)) (F0 m pc ls [va_rf v]) :=
  W.aret S.1 S.2.1 hr (Or.inl ⟨nm, rfl⟩) (va_rf_or v) (fun t ht hW => ⟨⟨v, M, rfl, h, zc_Bof ht hw.1⟩, hw.2.F ht⟩) hw.2.2.2 hdg (hlocks := hlocks)
/-! the JDK's small ones -/
theorem zr_max (S : CallFix p m c cc nL s args Ts own) (hl1 : ls.size = nL) (h1 : Cond.methodLink own index Lib.Math.max.name ∈ Ts) (h2 : Cond.static Lib.Math.max.name ∈ Ts) (h3 : Cond.initialized "java/lang/Math" ∈ Ts) (h4 : Cond.code Lib.Math.max.name Lib.Math.max.code 2 (some .int) ∈ Ts) (hfr : 1 ≤ R.frames) (hlo : (rest.map fun v => v.category).sum + 13 ≤ R.locals) (hc : cells ≤ R.cells) (hs : slots ≤ R.slots) {x z : Int32} (hdg : decode cc pc = .ok (.invokestatic index, 3))
    (kk : W p l e R s m args below meth c H locs cells slots Q (F0 m (pc + 3) ls (.int (if x < z then z else x) :: rest))) : W p l e R s m args below meth c H locs cells slots Q (F0 m pc ls (.int z :: .int x :: rest)) :=
  va_mmax S.1 S.2.1 (S.2.2.1.trans hl1.symm) S.2.2.2.1 (S.2.2.2.2 _ h1) (S.2.2.2.2 _ h2) (S.2.2.2.2 _ h3) (S.2.2.2.2 _ h4) hfr hlo hc hs hdg kk
theorem zr_min (S : CallFix p m c cc nL s args Ts own) (hl1 : ls.size = nL) (h1 : Cond.methodLink own index Lib.Math.min.name ∈ Ts) (h2 : Cond.static Lib.Math.min.name ∈ Ts) (h3 : Cond.initialized "java/lang/Math" ∈ Ts) (h4 : Cond.code Lib.Math.min.name Lib.Math.min.code 2 (some .int) ∈ Ts) (hfr : 1 ≤ R.frames) (hlo : (rest.map fun v => v.category).sum + 13 ≤ R.locals) (hc : cells ≤ R.cells) (hs : slots ≤ R.slots) {x z : Int32} (hdg : decode cc pc = .ok (.invokestatic index, 3))
    (kk : W p l e R s m args below meth c H locs cells slots Q (F0 m (pc + 3) ls (.int (if z < x then z else x) :: rest))) : W p l e R s m args below meth c H locs cells slots Q (F0 m pc ls (.int z :: .int x :: rest)) :=
  va_mmin S.1 S.2.1 (S.2.2.1.trans hl1.symm) S.2.2.2.1 (S.2.2.2.2 _ h1) (S.2.2.2.2 _ h2) (S.2.2.2.2 _ h3) (S.2.2.2.2 _ h4) hfr hlo hc hs hdg kk
theorem zr_abs (S : CallFix p m c cc nL s args Ts own) (hl1 : ls.size = nL) (h1 : Cond.methodLink own index Lib.Math.abs.name ∈ Ts) (h2 : Cond.static Lib.Math.abs.name ∈ Ts) (h3 : Cond.initialized "java/lang/Math" ∈ Ts) (h4 : Cond.code Lib.Math.abs.name Lib.Math.abs.code 1 (some .int) ∈ Ts) (hfr : 1 ≤ R.frames) (hlo : (rest.map fun v => v.category).sum + 13 ≤ R.locals) (hc : cells ≤ R.cells) (hs : slots ≤ R.slots) {x : Int32} (hdg : decode cc pc = .ok (.invokestatic index, 3))
    (kk : W p l e R s m args below meth c H locs cells slots Q (F0 m (pc + 3) ls (.int (if 0 ≤ x then x else 0 - x) :: rest))) : W p l e R s m args below meth c H locs cells slots Q (F0 m pc ls (.int x :: rest)) :=
  va_mabs S.1 S.2.1 (S.2.2.1.trans hl1.symm) S.2.2.2.1 (S.2.2.2.2 _ h1) (S.2.2.2.2 _ h2) (S.2.2.2.2 _ h3) (S.2.2.2.2 _ h4) hfr hlo hc hs hdg kk
theorem zr_minl (S : CallFix p m c cc nL s args Ts own) (hl1 : ls.size = nL) (h1 : Cond.methodLink own index Lib.MathLoose.min_long.x ∈ Ts) (h2 : Cond.static Lib.MathLoose.min_long.x ∈ Ts) (h3 : Cond.initialized "java/lang/Math" ∈ Ts) (h4 : Cond.code Lib.MathLoose.min_long.x Lib.MathLoose.min_long.code 4 (some .long) ∈ Ts) (hfr : 1 ≤ R.frames) (hlo : (rest.map fun v => v.category).sum + 15 ≤ R.locals) (hc : cells ≤ R.cells) (hs : slots ≤ R.slots) {x z : Int64} (hdg : decode cc pc = .ok (.invokestatic index, 3))
    (kk : W p l e R s m args below meth c H locs cells slots Q (F0 m (pc + 3) ls (.long (if z < x then z else x) :: rest))) : W p l e R s m args below meth c H locs cells slots Q (F0 m pc ls (.long z :: .long x :: rest)) :=
  va_mmin_long S.1 S.2.1 (S.2.2.1.trans hl1.symm) S.2.2.2.1 (S.2.2.2.2 _ h1) (S.2.2.2.2 _ h2) (S.2.2.2.2 _ h3) (S.2.2.2.2 _ h4) hfr hlo hc hs hdg kk
theorem zr_cpy (S : CallFix p m c cc nL s args Ts own) (hK : zk_K NF NM g s) (hw : zW lo g s H locs M) (hl1 : ls.size = nL) (g1 : Cond.methodLink own index arraycopyName ∈ Ts) (g2 : Cond.native arraycopyName ∈ Ts) (g3 : Cond.static arraycopyName ∈ Ts) (g4 : Cond.initialized "java/lang/System" ∈ Ts) (hfr : 1 ≤ R.frames) (hlo : (rest.map fun v => v.category).sum + (nativeFrameWords "java/lang/System" "arraycopy" 5 + 11) ≤ R.locals) (hdg : decode cc pc = .ok (.invokestatic index, 3)) {a0 a : Nat} {sp dp n : Int32} {K : zm_M → Prop} (h : zw_cpy (g.2 0) M a0 sp a dp n K)
    (kk : ∀ (M1 : zm_M) (H1 : Heap) (locs1 : List Loc), zW lo g s H1 locs1 M1 → K M1 → W p l e R s m args below meth c H1 locs1 cells slots Q (F0 m (pc + 3) ls rest)) : W p l e R s m args below meth c H locs cells slots Q (F0 m pc ls (.int n :: .int dp :: .ref a :: .int sp :: .ref a0 :: rest)) := by
  obtain ⟨n0, n1, f, f1, ha0, ha1, h1, h2, h3, h4, h5, h6⟩ := h
  have nn : ∀ z : Int32, ¬ z < 0 → z.toInt = (z.toNatClampNeg : Int) := by
    intro z hz
    have hz0 : (0 : Int) ≤ z.toInt := by
      have := Int32.not_lt.mp hz
      simpa using Int32.le_iff_toInt_le.mp this
    show z.toInt = ((z.toInt.toNat : Nat) : Int)
    omega
  intro T hT X
  have hc0 : H[a0]? = some (vp_cell (g.2 0) (n0, .inl f)) := (hw.1.2.2 a0 _ ha0).2
  have hc1 : H[a]? = some (vp_cell (g.2 0) (n1, .inl f1)) := (hw.1.2.2 a _ ha1).2
  obtain ⟨-, k0, hk0, cm0, hkk0⟩ := (hK.1.2 0 _ rfl).1 n0 (fun j => .int (f j))
  obtain ⟨-, k1, hk1, cm1, hkk1⟩ := (hK.1.2 0 _ rfl).1 n1 (fun j => .int (f1 j))
  obtain ⟨vm', X', step⟩ := X.arraycopy S.1 S.2.2.2.1 (S.2.2.2.2 _ g1) (S.2.2.2.2 _ g2) (S.2.2.2.2 _ g3) (S.2.2.2.2 _ g4) (src := a0) (dst := a) (cs := vp_cell (g.2 0) (n0, .inl f)) (cd := vp_cell (g.2 0) (n1, .inl f1)) (srcPos := sp) (destPos := dp) (n := n) (by rw [hT]; exact hc0) (by rw [hT]; exact hc1)
    (fun _ h => by cases h) (fun _ h => by cases h) (fun h => by cases h) (fun h => by cases h) hk0 hk1 hkk0 hkk1 (by simp [refKind]) h1 h2 h3
    (by rw [nn sp h1, nn n h3]; show ¬ _ > ((arrV (g.2 0) n0 (fun j => .int (f j))).slots.size : Int); rw [arrV_size]; omega)
    (by rw [nn dp h2, nn n h3]; show ¬ _ > ((arrV (g.2 0) n1 (fun j => .int (f1 j))).slots.size : Int); rw [arrV_size]; omega)
    (fun vm₁ _ i hi => by
      have e : (vp_cell (g.2 0) (n0, .inl f)).slots.getD (sp.toNatClampNeg + i) .null = .int (f (sp.toNatClampNeg + i)) := by
        show (arrV (g.2 0) n0 (fun j => .int (f j))).slots.getD _ _ = _
        rw [Array.getD_eq_getD_getElem?, arrV_read _ _ (by omega)]
        rfl
      refine ⟨?_, ?_⟩
      · rw [e]
        rfl
      · rw [e]
        exact trivial)
    (g := F0 m pc ls (.int n :: .int dp :: .ref a :: .int sp :: .ref a0 :: rest)) rfl (by rw [S.2.2.1]; exact hl1) (rest := rest) rfl (by rw [S.2.1]; exact hdg) hfr (by show 2 * 0 + _ + _ ≤ _; omega)
  have e1 : copied (vp_cell (g.2 0) (n0, .inl f)) (vp_cell (g.2 0) (n1, .inl f1)) sp dp n = vp_cell (g.2 0) (n1, .inl (va_cpy f f1 sp.toNatClampNeg dp.toNatClampNeg n.toNatClampNeg)) := va_copied (fun z => .int z) (g.2 0) (g.2 0) f f1 h4
  rw [e1] at X' step
  have hl : a < H.size := (Array.getElem?_eq_some_iff.mp hc1).1
  have hheap : ((T.setVm vm').setCell a (vp_cell (g.2 0) (n1, .inl (va_cpy f f1 sp.toNatClampNeg dp.toNatClampNeg n.toNatClampNeg)))).heap = H.setIfInBounds a (vp_cell (g.2 0) (n1, .inl (va_cpy f f1 sp.toNatClampNeg dp.toNatClampNeg n.toNatClampNeg))) := by rw [← hT]; rfl
  have oq : ∀ q : Nat, q ≠ a → (H.setIfInBounds a (vp_cell (g.2 0) (n1, .inl (va_cpy f f1 sp.toNatClampNeg dp.toNatClampNeg n.toNatClampNeg))))[q]? = H[q]? := fun q hq => by simp [Array.getElem?_setIfInBounds, Ne.symm hq]
  have hz : (H.setIfInBounds a (vp_cell (g.2 0) (n1, .inl (va_cpy f f1 sp.toNatClampNeg dp.toNatClampNeg n.toNatClampNeg)))).size = H.size := by simp
  have hA : zA lo a := (hw.1.2.2 a _ ha1).1
  obtain ⟨hR1, hS1⟩ := hw.st (k := 0) (e := .inl (g.2 0, (n1, .inl (va_cpy f f1 sp.toNatClampNeg dp.toNatClampNeg n.toNatClampNeg)))) ha1 hz oq (by show (H.setIfInBounds a (vp_cell (g.2 0) (n1, .inl (va_cpy f f1 sp.toNatClampNeg dp.toNatClampNeg n.toNatClampNeg))))[a]? = some _; simp [Array.getElem?_setIfInBounds, hl])
  obtain ⟨t, a1, b1⟩ := kk _ _ _ ⟨hR1, hS1.1, hS1.2.1, fun q hq => by
      rcases List.mem_append.mp hq with h | h
      · exact hw.2.2.2 q h
      · obtain ⟨z, -, hz⟩ := List.mem_map.mp h
        rw [← hz]
        exact hA⟩ h6 _ hheap X'
  exact ⟨t, step t a1, b1⟩
end ZRC
