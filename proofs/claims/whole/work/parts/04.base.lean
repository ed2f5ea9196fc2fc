/-! THE BASE: the memory as a map of addresses to cells; what a step asks of it (zw_), and the rows that walk (zr_). -/
abbrev zm_M : Type := Nat × (Nat → Option va_E)
abbrev zg : Type := va_G × (Nat → ClassId)
/-- the array classes: ints, booleans, bytes, longs, Ratios -/
def zg_t (g : zg) : List (ClassId × FieldType) := [(g.2 0, .int), (g.2 1, .boolean), (g.2 2, .byte), (g.2 3, .long), (g.2 4, .object "LeastTerms$Ratio")]
def zm_set (M : zm_M) (a : Nat) (e : va_E) : zm_M := (M.1, fun q => if q = a then some e else M.2 q)
def zm_new (M : zm_M) (e : va_E) : zm_M := (M.1 + 1, fun q => if q = M.1 then some e else M.2 q)
theorem zm_set_s (M : zm_M) (a : Nat) (e : va_E) : (zm_set M a e).2 a = some e := by simp [zm_set]
theorem zm_set_n (M : zm_M) {a b : Nat} (e : va_E) (h : b ≠ a) : (zm_set M a e).2 b = M.2 b := by simp [zm_set, h]
theorem zm_new_s (M : zm_M) (e : va_E) : (zm_new M e).2 M.1 = some e := by simp [zm_new]
theorem zm_new_n (M : zm_M) {b : Nat} (e : va_E) (h : b ≠ M.1) : (zm_new M e).2 b = M.2 b := by simp [zm_new, h]
/-- the heap holds the map; all its cells were made since the law began -/
def zm_R (lo : Nat) (g : zg) (H : Heap) (M : zm_M) : Prop := H.size = M.1 ∧ lo ≤ M.1 ∧ ∀ (a : Nat) (e : va_E), M.2 a = some e → lo ≤ a ∧ va_at g.1 vwCl (a, e) H
def zA (lo : Nat) : Nat → Prop := fun q => lo ≤ q
def zW (lo : Nat) (g : zg) (s : State) (H : Heap) (locs : List Loc) (M : zm_M) : Prop := zm_R lo g H M ∧ va_S (zA lo) s.heap H locs
theorem zW.one {lo : Nat} {g : zg} {s : State} {H : Heap} {locs : List Loc} {M : zm_M} (hw : zW lo g s H locs M) {a : Nat} {e : va_E} (h : M.2 a = some e) : va_P g.1 vwCl [(a, e)] H := by
  intro k q hk
  match k, hk with
  | 0, hk => cases hk; exact (hw.1.2.2 a e h).2
  | k + 1, hk => simp at hk
theorem zW.st {lo : Nat} {g : zg} {s : State} {H H1 : Heap} {locs : List Loc} {M : zm_M} (hw : zW lo g s H locs M) {a k : Nat} {e0 e : va_E} (ha : M.2 a = some e0) (hz : H1.size = H.size) (ho : ∀ q : Nat, q ≠ a → H1[q]? = H[q]?) (hat : va_at g.1 vwCl (a, e) H1) : zW lo g s H1 (locs ++ [⟨a, k⟩]) (zm_set M a e) := by
  refine ⟨⟨hz.trans hw.1.1, hw.1.2.1, fun q e' hq => ?_⟩, hw.2.put hz ho (hw.1.2.2 a e0 ha).1⟩
  by_cases hqa : q = a
  · subst hqa
    rw [zm_set_s] at hq
    cases hq
    exact ⟨(hw.1.2.2 q e0 ha).1, hat⟩
  · rw [zm_set_n _ _ hqa] at hq
    obtain ⟨h1, h2⟩ := hw.1.2.2 q e' hq
    exact ⟨h1, h2.kept (ho q hqa)⟩
theorem zW.nw {lo : Nat} {g : zg} {s : State} {H H1 : Heap} {locs : List Loc} {M : zm_M} (hw : zW lo g s H locs M) {e : va_E} (hz : H1.size = H.size + 1) (ho : ∀ q : Nat, q < H.size → H1[q]? = H[q]?) (hat : va_at g.1 vwCl (M.1, e) H1) : zW lo g s H1 locs (zm_new M e) := by
  refine ⟨⟨by rw [hz, hw.1.1]; rfl, Nat.le_succ_of_le hw.1.2.1, fun q e' hq => ?_⟩, by rw [hz]; exact Nat.le_succ_of_le hw.2.1, fun q h1 h2 => ?_, hw.2.2.2⟩
  · by_cases hqa : q = M.1
    · subst hqa
      rw [zm_new_s] at hq
      cases hq
      exact ⟨hw.1.2.1, hat⟩
    · rw [zm_new_n _ _ hqa] at hq
      obtain ⟨h1, h2⟩ := hw.1.2.2 q e' hq
      exact ⟨h1, h2.kept (ho q h2.lt)⟩
  · rw [ho q (Nat.lt_of_lt_of_le h1 hw.2.1)]
    exact hw.2.2.1 q h1 h2
/-- the links of nest mates' private members (they are no words of the tables' good ones): fields, methods -/
abbrev zn_T : Type := String × Nat × String × String × String × String
def zk_K (NF : List zn_T) (NM : List (String × Nat × MethodName × String)) (g : zg) (U : State) : Prop := va_K g.1 vwCl (zg_t g) U ∧ (∀ x ∈ NF, va_Nw (.fieldLinkNest x.1 x.2.1 x.2.2.1 x.2.2.2.1 x.2.2.2.2.1 x.2.2.2.2.2) U) ∧ (∀ x ∈ NM, va_Nw (.methodLinkNest x.1 x.2.1 x.2.2.1 x.2.2.2) U) ∧ va_AO "LeastTerms$Ratio" U
theorem zk_K.warm {NF : List zn_T} {NM : List (String × Nat × MethodName × String)} {g : zg} {s U : State} (h : zk_K NF NM g s) (hW : s.WarmedH U.vm) : zk_K NF NM g U := ⟨va_K.moved hW.alike h.1, fun x hx => va_Nw.warmF hW (h.2.1 x hx), fun x hx => va_Nw.warmM hW (h.2.2.1 x hx), h.2.2.2.moved hW.alike⟩
theorem zk_K.same {NF : List zn_T} {NM : List (String × Nat × MethodName × String)} {g : zg} {s U : State} (h : zk_K NF NM g s) (hv : s.vm = U.vm) : zk_K NF NM g U := ⟨va_K.moved (by rw [hv]; exact Vm.Alike.refl U.vm) h.1, fun x hx => va_Nw.same rfl hv (h.2.1 x hx), fun x hx => va_Nw.same rfl hv (h.2.2.1 x hx), h.2.2.2.moved (by rw [hv]; exact Vm.Alike.refl U.vm)⟩
/-- a contract's start and the world behind it -/
def zc_P (NF : List zn_T) (NM : List (String × Nat × MethodName × String)) (lo : Nat) (g : zg) (M : zm_M) (av : List Value) : Array Value → State → Prop := va_Pc av (fun U => zm_R lo g U.heap M ∧ zk_K NF NM g U)
def zc_B (lo : Nat) (g : zg) : zm_M → State → Prop := fun u t => zm_R lo g t.heap u
theorem zc_blind {NF : List zn_T} {NM : List (String × Nat × MethodName × String)} {lo : Nat} {g : zg} {M : zm_M} {av : List Value} : FrameBlind (zc_P NF NM lo g M av) := fun a U f mk q => ⟨q.1, q.2.1, q.2.2.same (s := U) rfl⟩
/-! what a step asks -/
def zw_ob (M : zm_M) (a ci : Nat) : Prop := ∃ fs : List Value, M.2 a = some (.inr (ci, fs))
def zw_gi (M : zm_M) (a ci k : Nat) (K : Int32 → Prop) : Prop := ∃ (fs : List Value) (x : Int32), M.2 a = some (.inr (ci, fs)) ∧ fs[k]? = some (.int x) ∧ K x
def zw_ga (M : zm_M) (a ci k : Nat) (K : Nat → Prop) : Prop := ∃ (fs : List Value) (b : Nat), M.2 a = some (.inr (ci, fs)) ∧ fs[k]? = some (.ref b) ∧ K b
def zw_p (M : zm_M) (a ci k : Nat) (v : Value) (K : zm_M → Prop) : Prop := ∃ fs : List Value, M.2 a = some (.inr (ci, fs)) ∧ k < fs.length ∧ K (zm_set M a (.inr (ci, fs.set k v)))
def zw_li (cA : ClassId) (M : zm_M) (a : Nat) (i : Int32) (K : Int32 → Prop) : Prop := ∃ (n : Nat) (f : Nat → Int32), M.2 a = some (.inl (cA, (n, .inl f))) ∧ vp_in i n ∧ K (f i.toNatClampNeg)
def zw_si (cA : ClassId) (M : zm_M) (a : Nat) (i x : Int32) (K : zm_M → Prop) : Prop := ∃ (n : Nat) (f : Nat → Int32), M.2 a = some (.inl (cA, (n, .inl f))) ∧ vp_in i n ∧ K (zm_set M a (.inl (cA, (n, .inl (upd f i.toNatClampNeg x)))))
def zw_ll (cA : ClassId) (M : zm_M) (a : Nat) (i : Int32) (K : Int64 → Prop) : Prop := ∃ (n : Nat) (f : Nat → Int64), M.2 a = some (.inl (cA, (n, .inr (.inl f)))) ∧ vp_in i n ∧ K (f i.toNatClampNeg)
def zw_sl (cA : ClassId) (M : zm_M) (a : Nat) (i : Int32) (x : Int64) (K : zm_M → Prop) : Prop := ∃ (n : Nat) (f : Nat → Int64), M.2 a = some (.inl (cA, (n, .inr (.inl f)))) ∧ vp_in i n ∧ K (zm_set M a (.inl (cA, (n, .inr (.inl (vp_updL f i.toNatClampNeg x))))))
def zw_la (cA : ClassId) (M : zm_M) (a : Nat) (i : Int32) (K : Nat → Prop) : Prop := ∃ (n : Nat) (f : Nat → Option Nat) (b : Nat), M.2 a = some (.inl (cA, (n, .inr (.inr (.inr (.inr f)))))) ∧ vp_in i n ∧ f i.toNatClampNeg = some b ∧ K b
def zw_sa (cA : ClassId) (M : zm_M) (a : Nat) (i : Int32) (v ci : Nat) (K : zm_M → Prop) : Prop := ∃ (n : Nat) (f : Nat → Option Nat), M.2 a = some (.inl (cA, (n, .inr (.inr (.inr (.inr f)))))) ∧ zw_ob M v ci ∧ vp_in i n ∧ K (zm_set M a (.inl (cA, (n, .inr (.inr (.inr (.inr (va_up f i.toNatClampNeg (some v)))))))))
def zw_len (cA : ClassId) (M : zm_M) (a : Nat) (K : Int32 → Prop) : Prop := ∃ x : vp_A, M.2 a = some (.inl (cA, x)) ∧ K (nI x.1)
def zw_cpy (cA : ClassId) (M : zm_M) (a0 : Nat) (sp : Int32) (a : Nat) (dp n : Int32) (K : zm_M → Prop) : Prop := ∃ (n0 n1 : Nat) (f h : Nat → Int32), M.2 a0 = some (.inl (cA, (n0, .inl f))) ∧ M.2 a = some (.inl (cA, (n1, .inl h))) ∧ ¬ sp < 0 ∧ ¬ dp < 0 ∧ ¬ n < 0 ∧ sp.toNatClampNeg + n.toNatClampNeg ≤ n0 ∧ dp.toNatClampNeg + n.toNatClampNeg ≤ n1 ∧ K (zm_set M a (.inl (cA, (n1, .inl (va_cpy f h sp.toNatClampNeg dp.toNatClampNeg n.toNatClampNeg)))))
section ZR
variable {p : Program} {l : Launch} {e : Env} {R : Room} {s : State} {m : MethodId} {args : Array Value} {below : List Frame} {meth : Method} {c : Code} {H : Heap} {locs : List Loc} {cells slots : Nat} {Q : State → Prop}
variable {cc : ByteArray} {pc : Nat} {ls : Array Slot} {rest : List Value} {lo : Nat} {g : zg} {M : zm_M} {Ts : List Cond} {own : String} {nL : Nat} {NF : List zn_T} {NM : List (String × Nat × MethodName × String)}
theorem zr_gi {C : String} {T : u_T} {N ci k index : Nat} (S : CallFix p m c cc nL s args Ts own) (hK : zk_K NF NM g s) (hw : zW lo g s H locs M) (hin : ∀ w ∈ u_ws C T N, w ∈ Ts) (hc : vwCl[ci]? = some (C, T, N)) (hk : k < N) (hlink : Cond.fieldLink own index (T k).1 (T k).2.1 (T k).2.2.1 ∈ Ts) (hdg : decode cc pc = .ok (.getfield index, 3)) {a : Nat} {K : Int32 → Prop} (h : zw_gi M a ci k K)
    (kk : ∀ x : Int32, K x → W p l e R s m args below meth c H locs cells slots Q (F0 m (pc + 3) ls (.int x :: rest))) : W p l e R s m args below meth c H locs cells slots Q (F0 m pc ls (.ref a :: rest)) := by
  obtain ⟨fs, x, h1, h2, h3⟩ := h
  exact va_get S.1 S.2.1 S.2.2.2.2 hin S.2.2.2.1 hK.1 (hw.one h1) 0 rfl hc k hk (S.2.2.2.2 _ hlink) (fun _ h9 => h9) h2 hdg (kk x h3)
theorem zr_ga {C : String} {T : u_T} {N ci k index : Nat} (S : CallFix p m c cc nL s args Ts own) (hK : zk_K NF NM g s) (hw : zW lo g s H locs M) (hin : ∀ w ∈ u_ws C T N, w ∈ Ts) (hc : vwCl[ci]? = some (C, T, N)) (hk : k < N) (hlink : Cond.fieldLink own index (T k).1 (T k).2.1 (T k).2.2.1 ∈ Ts) (hdg : decode cc pc = .ok (.getfield index, 3)) {a : Nat} {K : Nat → Prop} (h : zw_ga M a ci k K)
    (kk : ∀ x : Nat, K x → W p l e R s m args below meth c H locs cells slots Q (F0 m (pc + 3) ls (.ref x :: rest))) : W p l e R s m args below meth c H locs cells slots Q (F0 m pc ls (.ref a :: rest)) := by
  obtain ⟨fs, x, h1, h2, h3⟩ := h
  exact va_get S.1 S.2.1 S.2.2.2.2 hin S.2.2.2.1 hK.1 (hw.one h1) 0 rfl hc k hk (S.2.2.2.2 _ hlink) (fun _ h9 => h9) h2 hdg (kk x h3)
theorem zr_giN {C host : String} {T : u_T} {N ci k index : Nat} (S : CallFix p m c cc nL s args Ts own) (hK : zk_K NF NM g s) (hw : zW lo g s H locs M) (hin : ∀ w ∈ u_ws C T N, w ∈ Ts) (hc : vwCl[ci]? = some (C, T, N)) (hk : k < N) (hlink : (own, index, (T k).1, (T k).2.1, (T k).2.2.1, host) ∈ NF) (hdg : decode cc pc = .ok (.getfield index, 3)) {a : Nat} {K : Int32 → Prop} (h : zw_gi M a ci k K)
    (kk : ∀ x : Int32, K x → W p l e R s m args below meth c H locs cells slots Q (F0 m (pc + 3) ls (.int x :: rest))) : W p l e R s m args below meth c H locs cells slots Q (F0 m pc ls (.ref a :: rest)) := by
  obtain ⟨fs, x, h1, h2, h3⟩ := h
  exact va_getN S.1 S.2.1 S.2.2.2.2 hin S.2.2.2.1 hK.1 (hw.one h1) 0 rfl hc k hk (va_Nw.use rfl (hK.2.1 _ hlink)) (fun _ h9 => h9) h2 hdg (kk x h3)
theorem zr_gaN {C host : String} {T : u_T} {N ci k index : Nat} (S : CallFix p m c cc nL s args Ts own) (hK : zk_K NF NM g s) (hw : zW lo g s H locs M) (hin : ∀ w ∈ u_ws C T N, w ∈ Ts) (hc : vwCl[ci]? = some (C, T, N)) (hk : k < N) (hlink : (own, index, (T k).1, (T k).2.1, (T k).2.2.1, host) ∈ NF) (hdg : decode cc pc = .ok (.getfield index, 3)) {a : Nat} {K : Nat → Prop} (h : zw_ga M a ci k K)
    (kk : ∀ x : Nat, K x → W p l e R s m args below meth c H locs cells slots Q (F0 m (pc + 3) ls (.ref x :: rest))) : W p l e R s m args below meth c H locs cells slots Q (F0 m pc ls (.ref a :: rest)) := by
  obtain ⟨fs, x, h1, h2, h3⟩ := h
  exact va_getN S.1 S.2.1 S.2.2.2.2 hin S.2.2.2.1 hK.1 (hw.one h1) 0 rfl hc k hk (va_Nw.use rfl (hK.2.1 _ hlink)) (fun _ h9 => h9) h2 hdg (kk x h3)
/-- what a store of a field does to the cell -/
theorem zr_cell {C : String} {T : u_T} {N ci k : Nat} {fs : List Value} {v : Value} {a : Nat} {H1 : Heap} {cell : Cell} (hc : vwCl[ci]? = some (C, T, N)) (hap : ∀ x y, x < N → y < N → x ≠ y → (g.1.2 ci) x ≠ (g.1.2 ci) y) (hk : k < N) (hl : k < fs.length) (q2 : cell.cls = g.1.1 ci) (q3 : cell.vm = .none) (q4 : ∀ j, j < N → cell.slots[g.1.2 ci j]? = some (vp_V fs j)) (e1 : H1[a]? = some (cell.setSlot (g.1.2 ci k) v)) : va_at g.1 vwCl (a, .inr (ci, fs.set k v)) H1 :=
  ⟨_, hc, t_OB.to (V := updV (vp_V fs) k v) ⟨_, e1, q2, q3, t_set q4 hap hk v⟩ (fun j _ => vp_updV_set hl v j)⟩
theorem zr_p {C : String} {T : u_T} {N ci k index : Nat} (S : CallFix p m c cc nL s args Ts own) (hK : zk_K NF NM g s) (hw : zW lo g s H locs M) (hin : ∀ w ∈ u_ws C T N, w ∈ Ts) (ty0 : Nat → FieldType) (hty : ∀ k, k < N → parseFieldDescriptor (T k).2.2.1 = some (ty0 k)) (hnm : ∀ a, a < N → ∀ b, b < N → a ≠ b → (T a).2.1 ≠ (T b).2.1) (hc : vwCl[ci]? = some (C, T, N)) (hk : k < N) (hlink : Cond.fieldLink own index (T k).1 (T k).2.1 (T k).2.2.1 ∈ Ts) (hfin : (T k).2.2.2 = false) {v : Value} (hn : narrow (ty0 k) v = v) (hfit : fits (ty0 k) v = true) (hdg : decode cc pc = .ok (.putfield index, 3)) {a : Nat} {K : zm_M → Prop} (h : zw_p M a ci k v K)
    (kk : ∀ (M1 : zm_M) (H1 : Heap) (locs1 : List Loc), zW lo g s H1 locs1 M1 → K M1 → W p l e R s m args below meth c H1 locs1 cells slots Q (F0 m (pc + 3) ls rest)) : W p l e R s m args below meth c H locs cells slots Q (F0 m pc ls (v :: .ref a :: rest)) := by
  obtain ⟨fs, ha, hl, h3⟩ := h
  have hts := S.2.2.2.2
  have hap := va_apart (own := own) hts hin ty0 hty hnm hK.1 hc
  obtain ⟨r, h1, cell, q1, q2, q3, q4⟩ := (hw.1.2.2 a _ ha).2
  have hr : r = (C, T, N) := Option.some.inj (h1.symm.trans hc)
  subst hr
  obtain ⟨hS, hfc, kC, hkC, hkind⟩ := hK.1.1 ci _ hc
  obtain ⟨cf, kf, fi, f, hi, hsl⟩ := hS k hk
  have hlay := hts _ (hin _ (u_in_lay hk))
  unfold u_lay at hlay
  rw [if_neg (by rw [hfin]; decide)] at hlay
  have hst := (u_facts hfc hkC (u_lays hts hin hk) hi).1
  have h6 := u_store hfc hkC hkind hlay hi (hty k hk) hn hfit
  refine W.putK S.1 S.2.1 (f := f) ⟨S.2.2.2.1, hts _ hlink, ⟨_, _, _, hi⟩, hst⟩ (by rw [q2]; exact h6) q1 q3 (by rw [hsl]; exact k2_hasslot (q4 k hk)) rfl rfl hdg fun H' e1 e2 e3 => ?_
  rw [hsl] at e1 ⊢
  exact kk _ H' _ (hw.st ha e2 e3 (zr_cell hc hap hk hl q2 q3 q4 e1)) h3
theorem zr_pN {C host : String} {T : u_T} {N ci k index : Nat} (S : CallFix p m c cc nL s args Ts own) (hK : zk_K NF NM g s) (hw : zW lo g s H locs M) (hin : ∀ w ∈ u_ws C T N, w ∈ Ts) (ty0 : Nat → FieldType) (hty : ∀ k, k < N → parseFieldDescriptor (T k).2.2.1 = some (ty0 k)) (hnm : ∀ a, a < N → ∀ b, b < N → a ≠ b → (T a).2.1 ≠ (T b).2.1) (hc : vwCl[ci]? = some (C, T, N)) (hk : k < N) (hlink : (own, index, (T k).1, (T k).2.1, (T k).2.2.1, host) ∈ NF) (hfin : (T k).2.2.2 = false) {v : Value} (hn : narrow (ty0 k) v = v) (hfit : fits (ty0 k) v = true) (hdg : decode cc pc = .ok (.putfield index, 3)) {a : Nat} {K : zm_M → Prop} (h : zw_p M a ci k v K)
    (kk : ∀ (M1 : zm_M) (H1 : Heap) (locs1 : List Loc), zW lo g s H1 locs1 M1 → K M1 → W p l e R s m args below meth c H1 locs1 cells slots Q (F0 m (pc + 3) ls rest)) : W p l e R s m args below meth c H locs cells slots Q (F0 m pc ls (v :: .ref a :: rest)) := by
  obtain ⟨fs, ha, hl, h3⟩ := h
  have hts := S.2.2.2.2
  have hap := va_apart (own := own) hts hin ty0 hty hnm hK.1 hc
  obtain ⟨r, h1, cell, q1, q2, q3, q4⟩ := (hw.1.2.2 a _ ha).2
  have hr : r = (C, T, N) := Option.some.inj (h1.symm.trans hc)
  subst hr
  obtain ⟨hS, hfc, kC, hkC, hkind⟩ := hK.1.1 ci _ hc
  obtain ⟨cf, kf, fi, f, hi, hsl⟩ := hS k hk
  have hlay := hts _ (hin _ (u_in_lay hk))
  unfold u_lay at hlay
  rw [if_neg (by rw [hfin]; decide)] at hlay
  have hst := (u_facts hfc hkC (u_lays hts hin hk) hi).1
  have h6 := u_store hfc hkC hkind hlay hi (hty k hk) hn hfit
  refine va_WputK S.1 S.2.1 (f := f) S.2.2.2.1 (va_Nw.use rfl (hK.2.1 _ hlink)) hi hst (by rw [q2]; exact h6) q1 q3 (by rw [hsl]; exact k2_hasslot (q4 k hk)) rfl rfl hdg fun H' e1 e2 e3 => ?_
  rw [hsl] at e1 ⊢
  exact kk _ H' _ (hw.st ha e2 e3 (zr_cell hc hap hk hl q2 q3 q4 e1)) h3
/-! arrays -/
theorem zr_iald (S : CallFix p m c cc nL s args Ts own) (hK : zk_K NF NM g s) (hw : zW lo g s H locs M) (hdg : decode cc pc = .ok (.iaload, 1)) {a : Nat} {i : Int32} {K : Int32 → Prop} (h : zw_li (g.2 0) M a i K)
    (kk : ∀ x : Int32, K x → W p l e R s m args below meth c H locs cells slots Q (F0 m (pc + 1) ls (.int x :: rest))) : W p l e R s m args below meth c H locs cells slots Q (F0 m pc ls (.int i :: .ref a :: rest)) := by
  obtain ⟨n, f, h1, h2, h3⟩ := h
  exact va_iald S.1 S.2.1 hK.1 (hw.one h1) 0 0 rfl rfl h2 hdg (kk _ h3)
theorem zr_zald (S : CallFix p m c cc nL s args Ts own) (hK : zk_K NF NM g s) (hw : zW lo g s H locs M) (hdg : decode cc pc = .ok (.baload, 1)) {a : Nat} {i : Int32} {K : Int32 → Prop} (h : zw_li (g.2 1) M a i K)
    (kk : ∀ x : Int32, K x → W p l e R s m args below meth c H locs cells slots Q (F0 m (pc + 1) ls (.int x :: rest))) : W p l e R s m args below meth c H locs cells slots Q (F0 m pc ls (.int i :: .ref a :: rest)) := by
  obtain ⟨n, f, h1, h2, h3⟩ := h
  exact va_zald S.1 S.2.1 hK.1 (hw.one h1) 0 1 rfl rfl h2 hdg (kk _ h3)
theorem zr_bald (S : CallFix p m c cc nL s args Ts own) (hK : zk_K NF NM g s) (hw : zW lo g s H locs M) (hdg : decode cc pc = .ok (.baload, 1)) {a : Nat} {i : Int32} {K : Int32 → Prop} (h : zw_li (g.2 2) M a i K)
    (kk : ∀ x : Int32, K x → W p l e R s m args below meth c H locs cells slots Q (F0 m (pc + 1) ls (.int x :: rest))) : W p l e R s m args below meth c H locs cells slots Q (F0 m pc ls (.int i :: .ref a :: rest)) := by
  obtain ⟨n, f, h1, h2, h3⟩ := h
  exact va_bald S.1 S.2.1 hK.1 (hw.one h1) 0 2 rfl rfl h2 hdg (kk _ h3)
theorem zr_lald (S : CallFix p m c cc nL s args Ts own) (hK : zk_K NF NM g s) (hw : zW lo g s H locs M) (hdg : decode cc pc = .ok (.laload, 1)) {a : Nat} {i : Int32} {K : Int64 → Prop} (h : zw_ll (g.2 3) M a i K)
    (kk : ∀ x : Int64, K x → W p l e R s m args below meth c H locs cells slots Q (F0 m (pc + 1) ls (.long x :: rest))) : W p l e R s m args below meth c H locs cells slots Q (F0 m pc ls (.int i :: .ref a :: rest)) := by
  obtain ⟨n, f, h1, h2, h3⟩ := h
  exact va_lald S.1 S.2.1 hK.1 (hw.one h1) 0 3 rfl rfl h2 hdg (kk _ h3)
theorem zr_aald (S : CallFix p m c cc nL s args Ts own) (hK : zk_K NF NM g s) (hw : zW lo g s H locs M) (hdg : decode cc pc = .ok (.aaload, 1)) {a : Nat} {i : Int32} {K : Nat → Prop} (h : zw_la (g.2 4) M a i K)
    (kk : ∀ x : Nat, K x → W p l e R s m args below meth c H locs cells slots Q (F0 m (pc + 1) ls (.ref x :: rest))) : W p l e R s m args below meth c H locs cells slots Q (F0 m pc ls (.int i :: .ref a :: rest)) := by
  obtain ⟨n, f, b, h1, h2, h3, h4⟩ := h
  refine va_aldq S.1 S.2.1 hK.1 (hw.one h1) 0 4 rfl rfl h2 hdg ?_
  rw [h3]
  exact kk b h4
theorem zr_len {t0 : Nat} {ty : FieldType} (S : CallFix p m c cc nL s args Ts own) (hK : zk_K NF NM g s) (hw : zW lo g s H locs M) (ht : (zg_t g)[t0]? = some (g.2 t0, ty)) (hdg : decode cc pc = .ok (.arraylength, 1)) {a : Nat} {K : Int32 → Prop} (h : zw_len (g.2 t0) M a K)
    (kk : ∀ x : Int32, K x → W p l e R s m args below meth c H locs cells slots Q (F0 m (pc + 1) ls (.int x :: rest))) : W p l e R s m args below meth c H locs cells slots Q (F0 m pc ls (.ref a :: rest)) := by
  obtain ⟨x, h1, h2⟩ := h
  exact va_alen S.1 S.2.1 hK.1 (hw.one h1) 0 t0 rfl ht rfl hdg (kk _ h2)
theorem zr_iast (S : CallFix p m c cc nL s args Ts own) (hK : zk_K NF NM g s) (hw : zW lo g s H locs M) (hdg : decode cc pc = .ok (.iastore, 1)) {a : Nat} {i x : Int32} {K : zm_M → Prop} (h : zw_si (g.2 0) M a i x K)
    (kk : ∀ (M1 : zm_M) (H1 : Heap) (locs1 : List Loc), zW lo g s H1 locs1 M1 → K M1 → W p l e R s m args below meth c H1 locs1 cells slots Q (F0 m (pc + 1) ls rest)) : W p l e R s m args below meth c H locs cells slots Q (F0 m pc ls (.int x :: .int i :: .ref a :: rest)) := by
  obtain ⟨n, f, ha, hin, h3⟩ := h
  refine W.iast S.1 S.2.1 (hw.1.2.2 a _ ha).2 ((hK.1.2 0 _ rfl).1 n (fun j => .int (f j))) (fun q => by cases q) (by show ¬ (i < 0 ∨ (arrV _ _ _).slots.size ≤ _); rw [arrV_size]; exact hin) rfl rfl hdg fun H1 e z oq => ?_
  refine kk _ H1 _ (hw.st ha z oq ?_) h3
  show H1[a]? = some (vp_cell _ _)
  rw [e, vp_cell_i, vp_cell_i, arrV_store]
  congr 2
  funext q
  by_cases hq : q = i.toNatClampNeg
  · subst hq; simp [updV, upd]
  · simp [updV, upd, hq]
theorem zr_bast (S : CallFix p m c cc nL s args Ts own) (hK : zk_K NF NM g s) (hw : zW lo g s H locs M) (hdg : decode cc pc = .ok (.bastore, 1)) {a : Nat} {i x : Int32} {K : zm_M → Prop} (h : zw_si (g.2 2) M a i (vp_nar .byte x) K)
    (kk : ∀ (M1 : zm_M) (H1 : Heap) (locs1 : List Loc), zW lo g s H1 locs1 M1 → K M1 → W p l e R s m args below meth c H1 locs1 cells slots Q (F0 m (pc + 1) ls rest)) : W p l e R s m args below meth c H locs cells slots Q (F0 m pc ls (.int x :: .int i :: .ref a :: rest)) := by
  obtain ⟨n, f, ha, hin, h3⟩ := h
  refine W.bast S.1 S.2.1 (hw.1.2.2 a _ ha).2 ((hK.1.2 2 _ rfl).1 n (fun j => .int (f j))) (fun q => by cases q) (by show ¬ (i < 0 ∨ (arrV _ _ _).slots.size ≤ _); rw [arrV_size]; exact hin) rfl rfl hdg fun H1 e z oq => ?_
  refine kk _ H1 _ (hw.st ha z oq ?_) h3
  show H1[a]? = some (vp_cell _ _)
  rw [e, vp_cell_i, vp_cell_i, arrV_store]
  congr 2
  funext q
  by_cases hq : q = i.toNatClampNeg
  · subst hq; simp [updV, upd, vp_nar]; try rfl
  · simp [updV, upd, hq]
theorem zr_zast (S : CallFix p m c cc nL s args Ts own) (hK : zk_K NF NM g s) (hw : zW lo g s H locs M) (hdg : decode cc pc = .ok (.bastore, 1)) {a : Nat} {i x : Int32} {K : zm_M → Prop} (h : zw_si (g.2 1) M a i (vp_nar .boolean x) K)
    (kk : ∀ (M1 : zm_M) (H1 : Heap) (locs1 : List Loc), zW lo g s H1 locs1 M1 → K M1 → W p l e R s m args below meth c H1 locs1 cells slots Q (F0 m (pc + 1) ls rest)) : W p l e R s m args below meth c H locs cells slots Q (F0 m pc ls (.int x :: .int i :: .ref a :: rest)) := by
  obtain ⟨n, f, ha, hin, h3⟩ := h
  refine W.zast S.1 S.2.1 (hw.1.2.2 a _ ha).2 ((hK.1.2 1 _ rfl).1 n (fun j => .int (f j))) (fun q => by cases q) (by show ¬ (i < 0 ∨ (arrV _ _ _).slots.size ≤ _); rw [arrV_size]; exact hin) rfl rfl hdg fun H1 e z oq => ?_
  refine kk _ H1 _ (hw.st ha z oq ?_) h3
  show H1[a]? = some (vp_cell _ _)
  rw [e, vp_cell_i, vp_cell_i, arrV_store]
  congr 2
  funext q
  by_cases hq : q = i.toNatClampNeg
  · subst hq; simp [updV, upd, vp_nar]; try rfl
  · simp [updV, upd, hq]
theorem zr_last (S : CallFix p m c cc nL s args Ts own) (hK : zk_K NF NM g s) (hw : zW lo g s H locs M) (hdg : decode cc pc = .ok (.lastore, 1)) {a : Nat} {i : Int32} {x : Int64} {K : zm_M → Prop} (h : zw_sl (g.2 3) M a i x K)
    (kk : ∀ (M1 : zm_M) (H1 : Heap) (locs1 : List Loc), zW lo g s H1 locs1 M1 → K M1 → W p l e R s m args below meth c H1 locs1 cells slots Q (F0 m (pc + 1) ls rest)) : W p l e R s m args below meth c H locs cells slots Q (F0 m pc ls (.long x :: .int i :: .ref a :: rest)) := by
  obtain ⟨n, f, ha, hin, h3⟩ := h
  refine W.last S.1 S.2.1 (hw.1.2.2 a _ ha).2 ((hK.1.2 3 _ rfl).1 n (fun j => .long (f j))) (fun q => by cases q) (by show ¬ (i < 0 ∨ (arrV _ _ _).slots.size ≤ _); rw [arrV_size]; exact hin) rfl rfl hdg fun H1 e z oq => ?_
  refine kk _ H1 _ (hw.st ha z oq ?_) h3
  show H1[a]? = some (vp_cell _ _)
  rw [e, vp_cell_l, vp_cell_l, arrV_store]
  congr 2
  funext q
  by_cases hq : q = i.toNatClampNeg
  · subst hq; simp [updV, vp_updL]
  · simp [updV, vp_updL, hq]
theorem zr_aast {ci : Nat} (hc : vwCl[ci]? = some (RX2, TX2, 3)) (S : CallFix p m c cc nL s args Ts own) (hK : zk_K NF NM g s) (hw : zW lo g s H locs M) (hdg : decode cc pc = .ok (.aastore, 1)) {a v : Nat} {i : Int32} {K : zm_M → Prop} (h : zw_sa (g.2 4) M a i v ci K)
    (kk : ∀ (M1 : zm_M) (H1 : Heap) (locs1 : List Loc), zW lo g s H1 locs1 M1 → K M1 → W p l e R s m args below meth c H1 locs1 cells slots Q (F0 m (pc + 1) ls rest)) : W p l e R s m args below meth c H locs cells slots Q (F0 m pc ls (.ref v :: .int i :: .ref a :: rest)) := by
  obtain ⟨n, f, ha, ⟨fs, hv⟩, hin, h3⟩ := h
  have hlt : i.toNatClampNeg < n := Nat.not_le.mp fun q => hin (Or.inr q)
  have h0 : ¬ i < 0 := fun q => hin (Or.inl q)
  obtain ⟨r', hr', cellV, g1, g2, g3, -⟩ := (hw.1.2.2 v _ hv).2
  have hcls := (hK.1.1 ci _ hc).2
  obtain ⟨kA, comp, k1, k2, k3, -⟩ := (hK.1.2 4 _ rfl).2
  have hcomp : comp = g.1.1 ci := Option.some.inj (k3.symm.trans hcls.1)
  subst hcomp
  obtain ⟨kC, hkC, -⟩ := hcls.2
  refine W.aast S.1 S.2.1 (hw.1.2.2 a _ ha).2 (fun q h => by cases h) (fun h => by cases h) k1 k2 rfl hkC ⟨h0, by show _ < (arrV _ _ _).slots.size; rw [arrV_size]; exact hlt⟩ g1 (fun q h => by rw [g3] at h; cases h) (by rw [g2]; exact hkC) (by rw [g2]; exact va_assign hcls) rfl rfl hdg fun H1 e z oq => ?_
  refine kk _ H1 _ (hw.st ha z oq ?_) h3
  show H1[a]? = some (vp_cell _ _)
  rw [e, vp_cell_q, vp_cell_q, arrV_store]
  congr 2
  funext q
  by_cases hq : q = i.toNatClampNeg
  · subst hq; simp [updV, va_up, va_rf]
  · simp [updV, va_up, hq]
end ZR
