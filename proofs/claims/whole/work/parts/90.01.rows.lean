/-! ROWS OF A THROW, OF A CALL THAT MAY THROW, OF A CATCH -/
section Rows9
variable {p : Program} {l : Launch} {e : Env} {R : Room} {s : State} {m : MethodId} {args : Array Value} {below : List Frame} {meth : Method} {c : Code} {H : Heap} {locs : List Loc} {cells slots : Nat} {Q : State → Prop}
variable {mc ms : Nat} {free : Addr → Prop} {A0 A1 : Nat → Prop} {H0 : Heap} {a : Array Value} {pc : Nat} {ls : Array Slot} {st0 rest : List Value}
/-- the search takes the first row that covers the place and names a class that takes the object; the pool's entry is noted -/
theorem vx_fnd {f : JFrame} {q : Addr} {T : State} {x : ExceptionTableEntry} {suf : List ExceptionTableEntry} {cT : ClassId} {ce : Cell} (hx : covers x f.pc = true) (h0 : x.catchType ≠ 0) (hl : T.vm.ClassLinks e.platform f.method.cls x.catchType cT) (hcell : T.heap[q]? = some ce) (hv : ce.vm = .none) {k1 k2 : Class} (hk1 : T.vm.classes[ce.cls]? = some k1) (hk2 : T.vm.classes[cT]? = some k2) (hfit : T.vm.assignable ce.cls cT = true) (P : Handler → Pre) (E : CtlPost) (d : Bool) (acts : List Action) : wp (findHandler.go f q (x :: suf)) P E e d acts T ↔ P (.found x.handlerPc) d acts (T.setVm (T.vm.noted f.method.cls x.catchType (.cls cT))) := by
  have hal : T.vm.Alike (T.vm.noted f.method.cls x.catchType (.cls cT)) := (Vm.Alike.refl T.vm).noted _ _ _
  obtain ⟨r1, r2⟩ := (resolveClass_links e.toSetting hl).op (op := VmOp.resolveClass f.method.cls x.catchType) rfl
  obtain ⟨j1, hj1, -⟩ := hal.2.2 _ _ hk1
  obtain ⟨j2, hj2, -⟩ := hal.2.2 _ _ hk2
  have hf2 : (T.vm.noted f.method.cls x.catchType (.cls cT)).assignable ce.cls cT = true := by rw [hal.assignable]; exact hfit
  have hs : ∀ k, ce.vm ≠ .statics k := fun k h => by rw [hv] at h; cases h
  simp only [covers] at hx
  simp [findHandler.go, hx, h0, r1, r2, hcell, hs, hj1, hj2, hf2, VmOp.dirties, VmOp.acts]
/-- caught by the row x of this method's table; the rows ahead don't cover the place -/
theorem vx_catch {own name : String} {E : String} {ce : Cell} {q : Addr} (hown : s.vm.findClass own = some m.cls) (pre : List ExceptionTableEntry) (x : ExceptionTableEntry) (suf : List ExceptionTableEntry) (hsplit : c.exceptionTable.toList = pre ++ x :: suf)
    (hpass : ∀ z ∈ pre, covers z pc = false) (hx : covers x pc = true) (h0 : x.catchType ≠ 0)
    (hlink : (Cond.classLink own x.catchType name).before args s = true) (hcast : (Cond.castable E name).before args s = true) (hcell : H[q]? = some ce) (hv : ce.vm = .none) (hcl : s.vm.findClass E = some ce.cls)
    (kk : W p l e R s m args below meth c H locs cells slots Q (F0 m x.handlerPc ls [.ref q])) : vx_W p l e R s m args below meth c H locs cells slots Q (F0 m pc ls rest) q := by
  intro T hT X
  have hpl : e.platform.magicAccessors = ({} : Platform).magicAccessors := by rw [X.admits.platform]
  obtain ⟨c3, c4, hc3, hc4, hasg⟩ := Cond.castable_spec hcast
  cases Option.some.inj (hc3.symm.trans hcl)
  obtain ⟨c5, hc5, hcl5⟩ := Cond.classLink_spec hown hlink e.platform hpl
  cases Option.some.inj (hc4.symm.trans hc5)
  obtain ⟨dk, _, _, kt, hd, _, _, _, _, hkt, _, hopen⟩ := hcl5.here
  obtain ⟨k9, h9, -⟩ := Vm.findClass_spec hcl
  have hal := X.warmed.alike
  obtain ⟨j1, hj1, -⟩ := hal.2.2 _ _ h9
  obtain ⟨j2, hj2, -⟩ := hal.2.2 _ _ hkt
  have hW' : s.WarmedH (T.vm.noted m.cls x.catchType (.cls c4)) := X.warmed.noted hd hopen (State.rightAt_cls hcl5)
  obtain ⟨t, a1, b1⟩ := kk (T.setVm (T.vm.noted m.cls x.catchType (.cls c4))) hT (X.noted hW')
  refine ⟨t, ?_, b1⟩
  have hgo : ∀ (P : Handler → Pre) (E : CtlPost) (d : Bool) (acts : List Action), wp (findHandler (F0 m pc ls rest) q) P E e d acts ((T.setTop (F0 m pc ls rest)).pushFrame (.throwing q)) ↔ P (.found x.handlerPc) d acts (((T.setTop (F0 m pc ls rest)).pushFrame (.throwing q)).setVm (T.vm.noted m.cls x.catchType (.cls c4))) := by
    intro P E d acts
    rw [W.findHandler_eq (meth := meth) (code := c) X.method' X.code, hsplit]
    clear hsplit
    induction pre with
    | nil => exact vx_fnd (f := F0 m pc ls rest) (T := (T.setTop (F0 m pc ls rest)).pushFrame (.throwing q)) hx h0 (X.warmed.classLinks hcl5) (by rw [show ((T.setTop (F0 m pc ls rest)).pushFrame (.throwing q)).heap = T.heap from rfl, hT]; exact hcell) hv hj1 hj2 (by show T.vm.assignable _ _ = true; rw [hal.assignable]; exact hasg) P E d acts
    | cons z zs ih =>
      rw [List.cons_append, W.findHandler_go_skip (hpass z List.mem_cons_self)]
      exact ih (fun y hy => hpass y (List.mem_cons_of_mem _ hy))
  obtain ⟨hgo1, hgo2⟩ := At.throwing (g := F0 m pc ls rest) X.here q
  refine Steps.head hgo1 hgo2 ?_
  have hstep : (stepThrowing e ((T.setTop (F0 m pc ls rest)).pushFrame (.throwing q)) q (.java (F0 m pc ls rest) :: T.frames.tail)).Is ((((T.setTop (F0 m pc ls rest)).pushFrame (.throwing q)).setVm (T.vm.noted m.cls x.catchType (.cls c4))).setFrames (.java (F0 m x.handlerPc ls [.ref q]) :: T.frames.tail)) [] := by
    simp only [stepThrowing, searchFrame, vmDo]
    generalize hr : Sem.go _ e false [] ((T.setTop (F0 m pc ls rest)).pushFrame (.throwing q)) = res
    obtain ⟨as, rfl, ha⟩ := Sem.eq_ok_of hr (a := Handler.found x.handlerPc) (s' := ((T.setTop (F0 m pc ls rest)).pushFrame (.throwing q)).setVm (T.vm.noted m.cls x.catchType (.cls c4))) (acts' := []) (by simp [hgo _ _ _ _])
    exact ⟨rfl, ha⟩
  obtain ⟨g0, hg0⟩ := X.frames_eq
  have hg1 : (T.setVm (T.vm.noted m.cls x.catchType (.cls c4))).frames = .java g0 :: below := hg0
  rw [stepThread_throwing (frames_entered X.here.top _), hstep.1]
  rw [State.setTop_of_frames _ hg1] at a1
  have he : (((T.setTop (F0 m pc ls rest)).pushFrame (.throwing q)).setVm (T.vm.noted m.cls x.catchType (.cls c4))).setFrames (.java (F0 m x.handlerPc ls [.ref q]) :: T.frames.tail) = (T.setVm (T.vm.noted m.cls x.catchType (.cls c4))).setFrames (.java (F0 m x.handlerPc ls [.ref q]) :: below) := by
    have hcol : ∀ (u : State) (v : Vm) (F F' : List Frame), ((u.setFrames F).setVm v).setFrames F' = (u.setVm v).setFrames F' := fun u v F F' => by
      rw [show (u.setFrames F).setVm v = (u.setVm v).setFrames F from rfl, State.setFrames_setFrames]
    rw [hg0, List.tail_cons, State.pushFrame, State.setTop_of_frames _ hg0, hcol, hcol]
  rw [he]
  exact a1
end Rows9
section ZX
variable {p : Program} {l : Launch} {e : Env} {R : Room} {s : State} {m : MethodId} {args : Array Value} {below : List Frame} {meth : Method} {c : Code} {H : Heap} {locs : List Loc} {cells slots : Nat} {Q : State → Prop}
variable {cc : ByteArray} {pc : Nat} {ls : Array Slot} {rest st0 : List Value} {lo : Nat} {g : zg} {M : zm_M} {Ts : List Cond} {own : String} {nL : Nat} {NF : List zn_T} {NM : List (String × Nat × MethodName × String)}
variable {y : MethodName} {bytes : ByteArray} {maxL mc ms n index : Nat} {ret : Option FieldType} {ws : List Cond} {rm : Room} {As : List Value} {C : String} {b : Nat} {Qc : Array Value → State → Outcome → State → Prop} {px : zm_M → Prop}
theorem zx_pre {av : List Value} (hK : zk_K NF NM g s) (hX : zx_K lo g s s.heap) (hw : zW lo g s H locs M) : ∀ U : State, U.heap = H → s.WarmedH U.vm → zx_P NF NM lo g M av av.toArray U := fun U hU hW => ⟨rfl, by rw [hU]; exact hw.1, hK.warm hW, by rw [hU]; exact hX.at hw.2.2.1 hW⟩
theorem zr_thr {cls text : String} {names : List String} {ik is ic : Nat} (S : CallFix p m c cc nL s args zU RX6) (hl9 : l.stackTraces = false) (hno : ∀ x ∈ c.exceptionTable.toList, False) (hlocks : meth.locks = false) (hX : zx_K lo g s s.heap) (hw : zW lo g s H locs M) (hsz : ls.size = nL)
    (hcls : Bundle.fit cls = true) (hnames : ∀ n ∈ names, Bundle.fit n = true) (hk : Cond.classLink RX6 ik cls ∈ zU) (hini : Cond.initialized cls ∈ zU) (hst : (is, text) ∈ zxS) (hat : ∀ w ∈ vx_atS RX6 ic cls names, w.before args s = true) (hgood : ∀ w ∈ Cond.classLink RX6 ik cls :: Cond.initialized cls :: vx_atS RX6 ic cls names, vx_ot w = true)
    (d0 : decode cc pc = .ok (.new ik, 3)) (d3 : decode cc (pc + 3) = .ok (.dup, 1)) (d4 : decode cc (pc + 4) = .ok (.ldc is, 2)) (d6 : decode cc (pc + 6) = .ok (.invokespecial ic, 3)) (d9 : decode cc (pc + 9) = .ok (.athrow, 1))
    (hR1 : names.length + 3 < R.frames) (hR2 : (rest.map fun v => v.category).sum + (13 * (names.length + 1) + 43) ≤ R.locals) (hR3 : 0 + 1 ≤ R.cells) (hR4 : 0 + 6 ≤ R.slots) (h : px M) :
    W p l e R s m args below meth c H locs 0 0 (vx_MQ below Qc (vx_X px (zx_B lo g cls) (zA lo)) args s 1 6 (zA lo)) (F0 m pc ls rest) := by
  obtain ⟨sa, hs⟩ := hX.1 _ hst
  have hS := hw.2
  exact vx_throwS (own := RX6) (cls := cls) (names := names) (A := zA lo) S.1 S.2.1 hl9 S.2.2.2.1 hcls hnames (S.2.2.2.2 _ hk) (S.2.2.2.2 _ hini) hs hat hgood hX.2.2.2.1 hX.2.2.2.2.1 hS (hsz.trans S.2.2.1.symm) d0 d3 d4 d6 d9 (fun x hx => (hno x hx).elim) hR1 hR2 hR3 hR4 hlocks
    (fun t ha hsz hk => ⟨M, h, ⟨rfl, by have := hw.1.1; omega, hw.1.up hsz hk⟩, Nat.le_trans hS.1 hsz, fun q h1 h2 => (hk q (Nat.lt_of_lt_of_le h1 hS.1)).trans (hS.2.1 q h1 h2)⟩) hS.2.2 (by decide) (by decide)
theorem zx_h1 (S : CallFix p m c cc nL s args zU RX6) (hX : zx_K lo g s s.heap) : ∀ w ∈ vx_atS RX6 97 zxE1 zxN1, w.before args s = true := vx_hat (L := vx_atS RX6 97 zxE1 zxN1) (B := [.castable zxE1 zxE1, .declares (zxI "java/lang/RuntimeException"), .declares (zxI "java/lang/Exception"), .declares (zxI "java/lang/Throwable")]) (fun w hw => S.2.2.2.2 w (List.mem_filter.mpr ⟨zx_w1 w hw, (List.mem_filter.mp hw).2⟩)) (by decide +kernel) (vx_c (va_Nw.use rfl (hX.2.1 _ (by decide))) (vx_c (va_Nw.use rfl (hX.2.2.1 _ (by decide))) (vx_c (va_Nw.use rfl (hX.2.2.1 _ (by decide))) (vx_c (va_Nw.use rfl (hX.2.2.1 _ (by decide))) vx_n))))
theorem zx_h2 (S : CallFix p m c cc nL s args zU RX6) (hX : zx_K lo g s s.heap) : ∀ w ∈ vx_atS RX6 74 zxE2 zxN1, w.before args s = true := vx_hat (L := vx_atS RX6 74 zxE2 zxN1) (B := [.castable zxE2 zxE2, .declares (zxI "java/lang/RuntimeException"), .declares (zxI "java/lang/Exception"), .declares (zxI "java/lang/Throwable")]) (fun w hw => S.2.2.2.2 w (List.mem_filter.mpr ⟨zx_w2 w hw, (List.mem_filter.mp hw).2⟩)) (by decide +kernel) (vx_c (va_Nw.use rfl (hX.2.1 _ (by decide))) (vx_c (va_Nw.use rfl (hX.2.2.1 _ (by decide))) (vx_c (va_Nw.use rfl (hX.2.2.1 _ (by decide))) (vx_c (va_Nw.use rfl (hX.2.2.1 _ (by decide))) vx_n))))
theorem zx_h3 (S : CallFix p m c cc nL s args zU RX6) (hX : zx_K lo g s s.heap) : ∀ w ∈ vx_atS RX6 151 zxE3 zxN3, w.before args s = true := vx_hat (L := vx_atS RX6 151 zxE3 zxN3) (B := [.castable zxE3 zxE3, .declares (zxI "java/lang/IndexOutOfBoundsException"), .declares (zxI "java/lang/RuntimeException"), .declares (zxI "java/lang/Exception"), .declares (zxI "java/lang/Throwable")]) (fun w hw => S.2.2.2.2 w (List.mem_filter.mpr ⟨zx_w3 w hw, (List.mem_filter.mp hw).2⟩)) (by decide +kernel) (vx_c (va_Nw.use rfl (hX.2.1 _ (by decide))) (vx_c (va_Nw.use rfl (hX.2.2.1 _ (by decide))) (vx_c (va_Nw.use rfl (hX.2.2.1 _ (by decide))) (vx_c (va_Nw.use rfl (hX.2.2.1 _ (by decide))) (vx_c (va_Nw.use rfl (hX.2.2.1 _ (by decide))) vx_n)))))
theorem zx_g1 : ∀ w ∈ Cond.classLink RX6 93 zxE1 :: Cond.initialized zxE1 :: vx_atS RX6 97 zxE1 zxN1, vx_ot w = true := by decide +kernel
theorem zx_g2 : ∀ w ∈ Cond.classLink RX6 70 zxE2 :: Cond.initialized zxE2 :: vx_atS RX6 74 zxE2 zxN1, vx_ot w = true := by decide +kernel
theorem zx_g3 : ∀ w ∈ Cond.classLink RX6 147 zxE3 :: Cond.initialized zxE3 :: vx_atS RX6 151 zxE3 zxN3, vx_ot w = true := by decide +kernel
theorem zr_VXi {T : u_T} {N ci : Nat} {E0 : String} {post : Int32 → zm_M → Prop} (S : CallFix p m c cc nL s args Ts own) (hK : zk_K NF NM g s) (hX : zx_K lo g s s.heap) (hw : zW lo g s H locs M) (hM : vx_Met l y ws rm (zx_P NF NM lo g M (.ref b :: As)) (va_Qi post (zc_B lo g) (zA lo)) (vx_X px (zx_B lo g E0) (zA lo)) mc ms (zA lo)) (cw : CallW R s args own C index y bytes maxL ret ws rm mc ms n) (hc : vwCl[ci]? = some (C, T, N)) (ho : zw_ob M b ci) (hn : As.length = n) (hsize : ls.size = nL) (hst : st0 = As.reverse ++ .ref b :: rest) (hrm : (rest.map fun v => v.category).sum ≤ 8) (hdg : decode cc pc = .ok (.invokevirtual index, 3)) (hf : cells + mc ≤ R.cells ∧ slots + ms ≤ R.slots)
    (kx : ∀ (ce : Cell) (q9 : Addr) (u : zm_M) (H1 : Heap) (locs1 : List Loc), px u → u.1 ≤ H1.size → zW lo g s H1 locs1 (H1.size, u.2) → H1[q9]? = some ce → ce.vm = .none → s.vm.findClass E0 = some ce.cls → vx_W p l e R s m args below meth c H1 locs1 (cells + mc) (slots + ms) Q (F0 m pc ls rest) q9)
    (kk : ∀ (r : Int32) (M1 : zm_M) (H1 : Heap) (locs1 : List Loc), zW lo g s H1 locs1 M1 → post r M1 → W p l e R s m args below meth c H1 locs1 (cells + mc) (slots + ms) Q (F0 m (pc + 3) ls (.int r :: rest))) : W p l e R s m args below meth c H locs cells slots Q (F0 m pc ls st0) :=
  vx_calli (vx_runV S hM cw ⟨zx_blind, zr_recv hK hw hc ho, zx_pre hK hX hw⟩ rfl hn hsize hst (lv_room hrm) hdg hf) hw.2 (fun _ _ h => h) (fun _ h => h) (fun _ _ h => h) (fun E ce q9 u t H1 locs1 ht hvm hp hB hz hk hS hce hcv hcl => by
    obtain ⟨rfl, h1, h2⟩ := hB
    rw [ht] at h1 h2
    exact kx ce q9 u H1 locs1 hp h1 ⟨h2, hS⟩ hce hcv hcl) (fun r u t H1 locs1 ht hvm hq hB hz1 hk1 hS => kk r u H1 locs1 ⟨ht ▸ hB, hS⟩ hq)
theorem zr_VXl {T : u_T} {N ci : Nat} {E0 : String} {post : Int64 → zm_M → Prop} (S : CallFix p m c cc nL s args Ts own) (hK : zk_K NF NM g s) (hX : zx_K lo g s s.heap) (hw : zW lo g s H locs M) (hM : vx_Met l y ws rm (zx_P NF NM lo g M (.ref b :: As)) (va_Ql post (zc_B lo g) (zA lo)) (vx_X px (zx_B lo g E0) (zA lo)) mc ms (zA lo)) (cw : CallW R s args own C index y bytes maxL ret ws rm mc ms n) (hc : vwCl[ci]? = some (C, T, N)) (ho : zw_ob M b ci) (hn : As.length = n) (hsize : ls.size = nL) (hst : st0 = As.reverse ++ .ref b :: rest) (hrm : (rest.map fun v => v.category).sum ≤ 8) (hdg : decode cc pc = .ok (.invokevirtual index, 3)) (hf : cells + mc ≤ R.cells ∧ slots + ms ≤ R.slots)
    (kx : ∀ (ce : Cell) (q9 : Addr) (u : zm_M) (H1 : Heap) (locs1 : List Loc), px u → u.1 ≤ H1.size → zW lo g s H1 locs1 (H1.size, u.2) → H1[q9]? = some ce → ce.vm = .none → s.vm.findClass E0 = some ce.cls → vx_W p l e R s m args below meth c H1 locs1 (cells + mc) (slots + ms) Q (F0 m pc ls rest) q9)
    (kk : ∀ (r : Int64) (M1 : zm_M) (H1 : Heap) (locs1 : List Loc), zW lo g s H1 locs1 M1 → post r M1 → W p l e R s m args below meth c H1 locs1 (cells + mc) (slots + ms) Q (F0 m (pc + 3) ls (.long r :: rest))) : W p l e R s m args below meth c H locs cells slots Q (F0 m pc ls st0) :=
  vx_calll (vx_runV S hM cw ⟨zx_blind, zr_recv hK hw hc ho, zx_pre hK hX hw⟩ rfl hn hsize hst (lv_room hrm) hdg hf) hw.2 (fun _ _ h => h) (fun _ h => h) (fun _ _ h => h) (fun E ce q9 u t H1 locs1 ht hvm hp hB hz hk hS hce hcv hcl => by
    obtain ⟨rfl, h1, h2⟩ := hB
    rw [ht] at h1 h2
    exact kx ce q9 u H1 locs1 hp h1 ⟨h2, hS⟩ hce hcv hcl) (fun r u t H1 locs1 ht hvm hq hB hz1 hk1 hS => kk r u H1 locs1 ⟨ht ▸ hB, hS⟩ hq)
/-! the lanes' rows -/
theorem zr_gs {n : String} {f : Nat → Int64} {t : Nat} (S : CallFix p m c cc nL s args Ts RX6) (hX : zx_A lo g n f t s s.heap) (hw : zW lo g s H locs M) (hlink : Cond.fieldLink RX6 index RX6 n "[J" ∈ Ts) (hdg : decode cc pc = .ok (.getstatic index, 3))
    (kk : W p l e R s m args below meth c H locs cells slots Q (F0 m (pc + 3) ls (.ref t :: rest))) : W p l e R s m args below meth c H locs cells slots Q (F0 m pc ls rest) :=
  va_gets S.1 S.2.1 hX.1 hw.2 S.2.2.2.1 (S.2.2.2.2 _ hlink) (fun _ h => h) hdg kk
theorem zr_gl {n : String} {f : Nat → Int64} {t : Nat} (S : CallFix p m c cc nL s args Ts RX6) (hK : zk_K NF NM g s) (hX : zx_A lo g n f t s s.heap) (hw : zW lo g s H locs M) (hdg : decode cc pc = .ok (.arraylength, 1))
    (kk : W p l e R s m args below meth c H locs cells slots Q (F0 m (pc + 1) ls (.int (nI 5) :: rest))) : W p l e R s m args below meth c H locs cells slots Q (F0 m pc ls (.ref t :: rest)) :=
  va_tlen S.1 S.2.1 hX.2 hw.2 rfl hdg kk
theorem zr_gx {n : String} {f : Nat → Int64} {t : Nat} {i : Int32} (S : CallFix p m c cc nL s args Ts RX6) (hK : zk_K NF NM g s) (hX : zx_A lo g n f t s s.heap) (hw : zW lo g s H locs M) (hdg : decode cc pc = .ok (.laload, 1)) (hin : vp_in i 5)
    (kk : W p l e R s m args below meth c H locs cells slots Q (F0 m (pc + 1) ls (.long (f i.toNatClampNeg) :: rest))) : W p l e R s m args below meth c H locs cells slots Q (F0 m pc ls (.int i :: .ref t :: rest)) :=
  va_tl S.1 S.2.1 hX.2 hw.2 hin rfl hdg kk
end ZX
