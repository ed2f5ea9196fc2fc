/-! ROWS THAT MAKE CELLS, and constructors. bc, bs: how many cells, slots a method may make; cells, slots: how many it has made -/
def zw_na (bc bs c s : Nat) (M : zm_M) (n : Int32) (kb : Nat) (e : Nat → va_E) (K : zm_M → Prop) : Prop := ¬ n < 0 ∧ n.toNatClampNeg * kb ≤ 536870912 ∧ c + 1 ≤ bc ∧ s + n.toNatClampNeg ≤ bs ∧ K (zm_new M (e n.toNatClampNeg))
def zw_no (bc bs c s : Nat) (M : zm_M) (ci N : Nat) (fs : List Value) (K : zm_M → Prop) : Prop := c + 1 ≤ bc ∧ s + N ≤ bs ∧ K (zm_new M (.inr (ci, fs)))
section ZRA
variable {p : Program} {l : Launch} {e : Env} {R : Room} {s : State} {m : MethodId} {args : Array Value} {below : List Frame} {meth : Method} {c : Code} {H : Heap} {locs : List Loc} {cells slots : Nat} {Q : State → Prop}
variable {cc : ByteArray} {pc : Nat} {ls : Array Slot} {rest st0 : List Value} {lo : Nat} {g : zg} {M : zm_M} {Ts : List Cond} {own : String} {nL : Nat} {NF : List zn_T} {NM : List (String × Nat × MethodName × String)}
variable {y : MethodName} {bytes : ByteArray} {maxL mc ms n index : Nat} {ret : Option FieldType} {ws : List Cond} {rm : Room} {As : List Value} {C : String} {b : Nat}
theorem zr_na {atype : ArrayType} {ty : FieldType} {t0 kb : Nat} {a0 : Nat → vp_A} (S : CallFix p m c cc nL s args Ts own) (hK : zk_K NF NM g s) (hw : zW lo g s H locs M) (hty : newarray.typeOf atype = ty) (harr : Cond.arrayClass ty ∈ Ts) (ht : (zg_t g)[t0]? = some (g.2 t0, ty)) (hra : va_RA s (g.2 t0) ty → s.vm.findClass ("[" ++ ty.toString) = some (g.2 t0)) (ha : ∀ (cA : ClassId) (N : Nat), vp_cell cA (a0 N) = arrV cA N (fun _ => defaultValue ty)) (hkb : componentBytes ty = kb) {n : Int32} (hdg : decode cc pc = .ok (.newarray atype, 2)) {K : zm_M → Prop} (h : zw_na R.cells R.slots cells slots M n kb (fun N => .inl (g.2 t0, a0 N)) K)
    (kk : ∀ (M1 : zm_M) (H1 : Heap), zW lo g s H1 locs M1 → K M1 → W p l e R s m args below meth c H1 locs (cells + 1) (slots + n.toNatClampNeg) Q (F0 m (pc + 2) ls (.ref M.1 :: rest))) : W p l e R s m args below meth c H locs cells slots Q (F0 m pc ls (.int n :: rest)) := by
  subst hty
  subst hkb
  obtain ⟨h1, h2, h3, h4, h5⟩ := h
  refine va_newaK S.1 S.2.1 (S.2.2.2.2 _ harr) rfl hdg rfl h1 rfl h2 h3 h4 hw.1.1 fun H1 cA e1 z1 o1 hAr hNm => ?_
  have hcA : cA = g.2 t0 := Option.some.inj (hNm.symm.trans (hra (hK.1.2 t0 _ ht).2))
  subst hcA
  refine kk _ H1 (hw.nw (by rw [z1, hw.1.1]) (fun q hq => o1 q (by rw [← hw.1.1]; exact hq)) ?_) h5
  show H1[M.1]? = some (vp_cell _ _)
  rw [ha]
  exact e1
theorem zr_aq {C : String} {t0 : Nat} (hC : C = "LeastTerms$Ratio") (S : CallFix p m c cc nL s args Ts own) (hK : zk_K NF NM g s) (hw : zW lo g s H locs M) (hcl : Cond.classLink own index C ∈ Ts) (ht : (zg_t g)[t0]? = some (g.2 t0, .object C)) {n : Int32} (hdg : decode cc pc = .ok (.anewarray index, 3)) {K : zm_M → Prop} (h : zw_na R.cells R.slots cells slots M n 4 (fun N => .inl (g.2 t0, (N, .inr (.inr (.inr (.inr (fun _ => none))))))) K)
    (kk : ∀ (M1 : zm_M) (H1 : Heap), zW lo g s H1 locs M1 → K M1 → W p l e R s m args below meth c H1 locs (cells + 1) (slots + n.toNatClampNeg) Q (F0 m (pc + 3) ls (.ref M.1 :: rest))) : W p l e R s m args below meth c H locs cells slots Q (F0 m pc ls (.int n :: rest)) := by
  subst hC
  obtain ⟨h1, h2, h3, h4, h5⟩ := h
  refine W.anew S.1 S.2.1 S.2.2.2.1 (S.2.2.2.2 _ hcl) (va_AO.use hK.2.2.2) rfl hdg rfl h1 h2 h3 h4 fun cA kA comp f1 f2 f3 f4 => ?_
  generalize hH1 : H.push ({ cls := cA, slots := Array.replicate n.toNatClampNeg .null, vm := .none } : Cell) = H1
  have z1 : H1.size = H.size + 1 := by rw [← hH1, Array.size_push]
  have e1 : H1[H.size]? = some (arrV cA n.toNatClampNeg (fun _ => .null)) := by rw [← hH1, Array.getElem?_push_size, ← arrV_new]
  have o1 : ∀ q : Nat, q < H.size → H1[q]? = H[q]? := fun q hq => by rw [← hH1, Array.getElem?_push, if_neg (Nat.ne_of_lt hq)]
  obtain ⟨kA', comp', k1, k2, k3, k4⟩ := (hK.1.2 t0 _ ht).2
  have hcA : cA = g.2 t0 := Option.some.inj (f1.symm.trans k4)
  subst hcA
  have hh : H.size = M.1 := hw.1.1
  rw [hh] at e1 ⊢
  refine kk _ H1 (hw.nw z1 o1 ?_) h5
  show H1[M.1]? = some (vp_cell _ _)
  rw [vp_cell_q]
  exact e1
theorem zr_new {T : u_T} {N ci : Nat} (S : CallFix p m c cc nL s args Ts own) (hK : zk_K NF NM g s) (hw : zW lo g s H locs M) (hin : ∀ w ∈ u_ws C T N, w ∈ Ts) (ty : Nat → FieldType) (hty : ∀ k, k < N → parseFieldDescriptor (T k).2.2.1 = some (ty k)) (hcl : Cond.classLink own index C ∈ Ts) (hinst : Cond.instantiable C N ∈ Ts) (hini : Cond.initialized C ∈ Ts) (hc : vwCl[ci]? = some (C, T, N)) {fs : List Value} (hfs : ∀ j, j < N → defaultValue (ty j) = vp_V fs j) (hdg : decode cc pc = .ok (.new index, 3)) {K : zm_M → Prop} (h : zw_no R.cells R.slots cells slots M ci N fs K)
    (kk : ∀ (M1 : zm_M) (H1 : Heap), zW lo g s H1 locs M1 → K M1 → W p l e R s m args below meth c H1 locs (cells + 1) (slots + N) Q (F0 m (pc + 3) ls (.ref M.1 :: rest))) : W p l e R s m args below meth c H locs cells slots Q (F0 m pc ls rest) := by
  obtain ⟨h3, h4, h5⟩ := h
  have hKn := hK.1.1 ci _ hc
  have hts := S.2.2.2.2
  refine W.newcK S.1 S.2.1 S.2.2.2.1 (hts _ hcl) (hts _ hinst) (hts _ hini) rfl hdg h3 h4 hKn.2.1 hw.1.1 fun H1 kC hkC e1 z1 o1 => ?_
  refine kk _ H1 (hw.nw (by rw [z1, hw.1.1]) (fun q hq => o1 q (by rw [← hw.1.1]; exact hq)) ?_) h5
  exact ⟨_, hc, (u_born ty hts hin hKn hkC e1 hty).to hfs⟩
theorem zr_oi (S : CallFix p m c cc nL s args Ts own) (hl1 : ls.size = nL) (h1 : Cond.methodLink own index Lib.objectInit ∈ Ts) (h2 : Cond.instanceMethod Lib.objectInit ∈ Ts) (h3 : Cond.code Lib.objectInit ⟨#[0xb1]⟩ 1 none ∈ Ts) (hfr : 1 ≤ R.frames) (hlo : (rest.map fun v => v.category).sum + 12 ≤ R.locals) {a : Nat} (hdg : decode cc pc = .ok (.invokespecial index, 3))
    (kk : W p l e R s m args below meth c H locs cells slots Q (F0 m (pc + 3) ls rest)) : W p l e R s m args below meth c H locs cells slots Q (F0 m pc ls (.ref a :: rest)) :=
  W.objInit S.1 S.2.1 S.2.2.2.1 (S.2.2.2.2 _ h1) (S.2.2.2.2 _ h2) (S.2.2.2.2 _ h3) rfl (by rw [S.2.2.1]; exact hl1) rfl hdg hfr (by show 2 * 0 + _ + _ ≤ _; omega) kk
theorem zr_pF {T : u_T} {N ci k : Nat} (S : CallFix p m c cc nL s args Ts own) (hK : zk_K NF NM g s) (hw : zW lo g s H locs M) (hin2 : meth.name = "<init>") (hin : ∀ w ∈ u_ws C T N, w ∈ Ts) (ty0 : Nat → FieldType) (hty : ∀ k, k < N → parseFieldDescriptor (T k).2.2.1 = some (ty0 k)) (hnm : ∀ a, a < N → ∀ b, b < N → a ≠ b → (T a).2.1 ≠ (T b).2.1) (hc : vwCl[ci]? = some (C, T, N)) (hk : k < N) (hlink : Cond.fieldLink own index (T k).1 (T k).2.1 (T k).2.2.1 ∈ Ts) (hfin : (T k).2.2.2 = true) (hdecl : (T k).1 = own) {v : Value} (hn : narrow (ty0 k) v = v) (hfit : fits (ty0 k) v = true) (hdg : decode cc pc = .ok (.putfield index, 3)) {a : Nat} {K : zm_M → Prop} (h : zw_p M a ci k v K)
    (kk : ∀ (M1 : zm_M) (H1 : Heap) (locs1 : List Loc), zW lo g s H1 locs1 M1 → K M1 → W p l e R s m args below meth c H1 locs1 cells slots Q (F0 m (pc + 3) ls rest)) : W p l e R s m args below meth c H locs cells slots Q (F0 m pc ls (v :: .ref a :: rest)) := by
  obtain ⟨fs, ha, hl, h3⟩ := h
  have hts := S.2.2.2.2
  have hown := S.2.2.2.1
  have hap := va_apart (own := own) hts hin ty0 hty hnm hK.1 hc
  obtain ⟨r, h1, cell, q1, q2, q3, q4⟩ := (hw.1.2.2 a _ ha).2
  have hr : r = (C, T, N) := Option.some.inj (h1.symm.trans hc)
  subst hr
  obtain ⟨hS, hfc, kC, hkC, hkind⟩ := hK.1.1 ci _ hc
  obtain ⟨cf, kf, fi, f, hi, hsl⟩ := hS k hk
  have hlay := hts _ (hin _ (u_in_lay hk))
  unfold u_lay at hlay
  rw [if_pos hfin] at hlay
  have hst := (u_facts hfc hkC (u_lays hts hin hk) hi).1
  have hcf : m.cls = cf := by
    obtain ⟨_, _, c', _, _, _, -, -, hf', -, -, -, hown2, -⟩ := Cond.laysFinal_spec hlay
    have e1 : c' = cf := by have := hi.symm.trans hf'; simp at this; exact this.1.symm
    rw [hdecl] at hown2
    rw [← e1]; exact Option.some.inj (hown.symm.trans hown2)
  have h6 := u_fits hfc hkC hkind (Or.inr hlay) hi (hty k hk) hn hfit
  refine W.putFinK S.1 S.2.1 hown (hts _ hlink) hi hst hcf hin2 (by rw [q2]; exact h6) q1 q3 (by rw [hsl]; exact k2_hasslot (q4 k hk)) rfl rfl hdg fun H' e1 e2 e3 => ?_
  rw [hsl] at e1 ⊢
  exact kk _ H' _ (hw.st ha e2 e3 (zr_cell hc hap hk hl q2 q3 q4 e1)) h3
theorem zr_Iv {post : zm_M → Prop} (S : CallFix p m c cc nL s args Ts own) (hK : zk_K NF NM g s) (hw : zW lo g s H locs M) (hM : Met l y ws rm (zc_P NF NM lo g M (.ref b :: As)) (va_Qv post (zc_B lo g) (zA lo)) mc ms (zA lo)) (cw : CallB R s args own index y bytes maxL none ws rm mc ms n ∧ y.name = "<init>" ∧ (Cond.instanceMethod y).before args s = true) (hn : As.length = n) (hsize : ls.size = nL) (hst : st0 = As.reverse ++ .ref b :: rest) (hrm : (rest.map fun v => v.category).sum ≤ 8) (hdg : decode cc pc = .ok (.invokespecial index, 3)) (hf : cells + mc ≤ R.cells ∧ slots + ms ≤ R.slots)
    (kk : ∀ (M1 : zm_M) (H1 : Heap) (locs1 : List Loc), zW lo g s H1 locs1 M1 → post M1 → W p l e R s m args below meth c H1 locs1 (cells + mc) (slots + ms) Q (F0 m (pc + 3) ls rest)) : W p l e R s m args below meth c H locs cells slots Q (F0 m pc ls st0) :=
  va_callv (va_runI S hM cw ⟨zc_blind, zr_pre hK hw⟩ rfl hn hsize hst (lv_room hrm) hdg hf) hw.2 (fun _ _ h => h) (fun _ h => h) (fun u t H1 locs1 ht hvm hq hB hz1 hk1 hS => kk u H1 locs1 ⟨ht ▸ hB, hS⟩ hq)
theorem zr_IvN {host : String} {post : zm_M → Prop} (S : CallFix p m c cc nL s args Ts own) (hK : zk_K NF NM g s) (hw : zW lo g s H locs M) (hM : Met l y ws rm (zc_P NF NM lo g M (.ref b :: As)) (va_Qv post (zc_B lo g) (zA lo)) mc ms (zA lo)) (cw : va_CN R s args own index y host bytes maxL none ws rm mc ms n ∧ y.name = "<init>" ∧ (Cond.instanceMethod y).before args s = true) (hn : As.length = n) (hsize : ls.size = nL) (hst : st0 = As.reverse ++ .ref b :: rest) (hrm : (rest.map fun v => v.category).sum ≤ 8) (hdg : decode cc pc = .ok (.invokespecial index, 3)) (hf : cells + mc ≤ R.cells ∧ slots + ms ≤ R.slots)
    (kk : ∀ (M1 : zm_M) (H1 : Heap) (locs1 : List Loc), zW lo g s H1 locs1 M1 → post M1 → W p l e R s m args below meth c H1 locs1 (cells + mc) (slots + ms) Q (F0 m (pc + 3) ls rest)) : W p l e R s m args below meth c H locs cells slots Q (F0 m pc ls st0) :=
  va_callv (va_runIN S hM cw ⟨zc_blind, zr_pre hK hw⟩ rfl hn hsize hst (lv_room hrm) hdg hf) hw.2 (fun _ _ h => h) (fun _ h => h) (fun u t H1 locs1 ht hvm hq hB hz1 hk1 hS => kk u H1 locs1 ⟨ht ▸ hB, hS⟩ hq)
end ZRA
