/-! THE LAW FROM ITS ENTRY, AND THE CLAIM -/
set_option maxHeartbeats 4000000 in
set_option maxRecDepth 100000 in
theorem whole_start {p : Program} {e : Env} {s : State} {m : MethodId} {below : List Frame} {meth : Method} {c : Code} (l : Launch) (hl9 : l.stackTraces = false) {b L : Nat} {xs : Nat → Int32} (hL : L ≤ 2048) (C0 : lw_At p s m meth c b L xs) : W p l e room_1 s m #[Value.ref b] below meth c s.heap [] 0 0 (lw_Z below #[Value.ref b] s) (entryFrame m ([Value.ref b] : List Value).toArray 8) := by
  obtain ⟨hx, hb, hr, hml, hown, hts0, hXs, hbl, hlocks, hgv⟩ := id C0
  have hown : s.vm.findClass RL = some m.cls := hown
  obtain ⟨g, hK⟩ := zk_start hts0
  have hX := zx_start g hts0 hgv
  have hts : ∀ w ∈ zU, w.before #[Value.ref b] s = true := fun w hw => hts0 w (List.mem_filter.mp hw).1
  have Sx : CallFix p m c cL_law 8 s #[Value.ref b] zU RL := ⟨hx, hb, hml, hown, hts⟩
  obtain ⟨B, hB⟩ : ∃ B, B = s.heap.size := ⟨_, rfl⟩
  have hw : zW s.heap.size g s s.heap [] (B, fun _ => none) := ⟨⟨hB.symm, by show s.heap.size ≤ B; omega, fun a e h => nomatch h⟩, va_S.rf⟩
  have hl := lv_entry ([.ref b]) (n := 8) (Nat.le_of_ble_eq_true rfl)
  rw [lg_entry_eq]
  generalize (lg_sl ([.ref b]) ++ List.replicate (8 - (lg_sl ([.ref b])).length) Slot.unset).toArray = ls at hl ⊢
  have hl : lv_has ls 8 [(0, .ref b)] := hl
  refine zr_new (C := RX6) (T := TX6) (N := 7) (ci := 9) (fs := [.null, .null, .int 0, .null, .null, .null, .null]) (K := fun N => N = zm_new (B, fun _ => none) (.inr (9, [.null, .null, .int 0, .null, .null, .null, .null]))) Sx hK hw zi_X6 tyX6 tyX6_ok zy_206 zy_207 zu_303 rfl (fun j hj => by match j, hj with | 0, _ => rfl | 1, _ => rfl | 2, _ => rfl | 3, _ => rfl | 4, _ => rfl | 5, _ => rfl | 6, _ => rfl | j + 7, hj => exact absurd hj (by omega)) dL_law_0 ⟨by show _ ≤ 603072; decide, by show _ ≤ 7223402; decide, rfl⟩ (fun M1 H hw h => ?_)
  subst h
  refine lv_dup hx hb dL_law_3 rfl ?_
  refine zr_Iv (As := []) (rest := [.ref B]) Sx hK hw (kX6_init l s.heap.size g _ B 167 2455 (fun M' => M'.1 = B + 168 ∧ zRC g.2 B M' M' zS0) (i6 rfl (zm_new_s _ _) (fun M' h1 h2 h3 => ⟨h1, h2⟩))) (cwI 0 hts (zg_I zy_212) rfl rfl rfl (hts _ zu_303) (hts _ zy_210) (hts _ zy_211) rfl (by decide +kernel) ⟨Nat.le_of_ble_eq_true rfl, Nat.le_of_ble_eq_true rfl⟩) rfl hl.1 rfl (Nat.le_of_ble_eq_true rfl) dL_law_4 ⟨by show _ ≤ 603072; decide, by show _ ≤ 7223402; decide⟩ (fun M2 H locs hw h => ?_)
  obtain ⟨a1, a2⟩ := h
  refine lv_astore_n (lv' := [(1, .ref B), (0, .ref b)]) hx hb dL_law_7 rfl hl (by decide) rfl (fun ls hl => ?_)
  refine zr_new (C := RX7) (T := TX7) (N := 14) (ci := 10) (fs := [.int 0, .null, .null, .null, .null, .null, .int 0, .null, .int 0, .null, .null, .int 0, .int 0, .null]) (K := fun N => N.1 = M2.1 + 1 ∧ N.2 M2.1 = some (.inr (10, [.int 0, .null, .null, .null, .null, .null, .int 0, .null, .int 0, .null, .null, .int 0, .int 0, .null])) ∧ ∀ q, q ≠ M2.1 → N.2 q = M2.2 q) Sx hK hw zi_X7 tyX7 tyX7_ok zy_208 zy_209 zu_450 rfl (fun j hj => by match j, hj with | 0, _ => rfl | 1, _ => rfl | 2, _ => rfl | 3, _ => rfl | 4, _ => rfl | 5, _ => rfl | 6, _ => rfl | 7, _ => rfl | 8, _ => rfl | 9, _ => rfl | 10, _ => rfl | 11, _ => rfl | 12, _ => rfl | 13, _ => rfl | j + 14, hj => exact absurd hj (by omega)) dL_law_8 ⟨by show _ ≤ 603072; decide, by show _ ≤ 7223402; decide, rfl, zm_new_s _ _, fun q hq => zm_new_n _ _ hq⟩ (fun M3 H hw h => ?_)
  rw [a1] at h ⊢
  obtain ⟨b1, b2, b3⟩ := h
  refine lv_dup hx hb dL_law_11 rfl ?_
  refine zr_Iv (As := []) (rest := [.ref (B + 168)]) Sx hK hw (kX7_init l s.heap.size g M3 (B + 168) 9 4216 (fun M' => M'.1 = B + 168 + 10 ∧ zRM g.2 (B + 168) M' M' zS0 0 ∧ ∀ q, q < B + 168 → M'.2 q = M3.2 q) (i7 b1 b2 (fun M' h1 h2 h3 => ⟨h1, h2, h3⟩))) (cwI 0 hts (zg_I zy_215) rfl rfl rfl (hts _ zu_450) (hts _ zy_213) (hts _ zy_214) rfl (by decide +kernel) ⟨Nat.le_of_ble_eq_true rfl, Nat.le_of_ble_eq_true rfl⟩) rfl hl.1 rfl (Nat.le_of_ble_eq_true rfl) dL_law_12 ⟨by show _ ≤ 603072; decide, by show _ ≤ 7223402; decide⟩ (fun M4 H locs hw h => ?_)
  obtain ⟨c1, c2, c3⟩ := h
  refine lv_astore_n (lv' := [(2, .ref (B + 168)), (1, .ref B), (0, .ref b)]) hx hb dL_law_15 rfl hl (by decide) rfl (fun ls hl => ?_)
  refine lv_iconst (v := (1 : Int32)) hx hb dL_law_16 (by decide) ?_
  refine zr_na (ty := .long) (t0 := 3) (kb := 8) (a0 := fun N => (N, .inr (.inl (fun _ => 0)))) (K := fun N => N.2 M4.1 = some (.inl (g.2 3, (1, .inr (.inl (fun _ => 0))))) ∧ ∀ q, q ≠ M4.1 → N.2 q = M4.2 q) Sx hK hw rfl zu_676 rfl (fun h => h) (fun _ _ => rfl) rfl dL_law_17 (iA 1 (by decide) (by decide) (by decide) (by show _ ≤ 603072; decide) (by show _ ≤ 7223402; decide) (fun N h1 h2 h3 => ⟨h2, h3⟩)) (fun M5 H hw h => ?_)
  have c1 : M4.1 = B + 178 := c1
  rw [c1] at h ⊢
  obtain ⟨d1, d2⟩ := h
  refine lv_astore_n (lv' := [(3, .ref (B + 178)), (2, .ref (B + 168)), (1, .ref B), (0, .ref b)]) hx hb dL_law_19 rfl hl (by decide) rfl (fun ls hl => ?_)
  refine lv_iconst (v := (0 : Int32)) hx hb dL_law_20 (by decide) ?_
  refine lv_istore (lv' := [(4, .int 0), (3, .ref (B + 178)), (2, .ref (B + 168)), (1, .ref B), (0, .ref b)]) hx hb dL_law_21 hl (by decide) rfl (fun ls hl => ?_)
  refine W.widen (k := 200 + 0) (n := 20000 + 6 * 0) (by decide) (by decide) ?_
  refine zL_loop hL hl9 C0 hK hX (L + 1) 0 0 zS0 M5 _ _ ls rfl (Nat.zero_le L) (by omega) hw ⟨zRC_mv a2 (fun q q1 q2 => ?_), ⟨0, zRM_mv c2 (fun q q1 q2 => d2 q (by omega))⟩, _, d1⟩ (lv_sub hl [4, 3, 2, 1, 0] rfl)
  rw [d2 q (by omega), c3 q q2, b3 q (by omega)]
set_option maxHeartbeats 4000000 in
theorem lw_walk (l : Launch) (hl9 : l.stackTraces = false) (b : Addr) (xs : List Int32) : MetFree l x (headSpec (Jvm.Cond.code x code maxLocals ret :: tables_1) room_1) (lw_P b xs) (fun _ _ _ _ _ => True) lw_Q := by
  refine MetFree.of_bodyS (code := code) (maxLocals := maxLocals) (ret := ret) (by decide) ?_ ?_
  · intro args s m h hn
    obtain ⟨meth, c, h1, h2, h3, h4, h5, h6, -, -⟩ := Cond.code_spec hn (atoms_spec (ws := Jvm.Cond.code x code maxLocals ret :: tables_1) h _ List.mem_cons_self)
    exact ⟨meth, c, h1, h2, h3, h4, h5, h6⟩
  · intro p e s m args below meth c s₁ B hml0 hP _
    obtain ⟨rfl, hx, hbd, hgv⟩ := hP
    obtain ⟨scr, harrAt, hlist, hof, hsmall⟩ := hx
    obtain ⟨hcb, hkn, -, -⟩ := State.arrayAt?_spec harrAt
    have hown : s.vm.findClass R_law = some m.cls := findClass_of_methodNamed B.named
    have hts0 : ∀ c ∈ (Jvm.Cond.code x code maxLocals ret :: tables_1), c.before #[Value.ref b] s = true := atoms_spec (ws := Jvm.Cond.code x code maxLocals ret :: tables_1) B.pre
    have hts : ∀ w ∈ lw_tbl, w.before #[Value.ref b] s = true := k2_hts_sels lw_privs (fun w hw => hts0 w (List.mem_cons_of_mem _ hw)) lw_privs_ok
    have hml : c.maxLocals = 8 := B.maxLocals_eq (hts0 _ List.mem_cons_self)
    have X₀ : Stand p l e room_1 s m #[Value.ref b] below meth c s₁ [] 0 0 := Stand.of_body B
    have hh0 : s₁.heap = s.heap := by rw [B.state]; rfl
    have hsz : scr.slots.size = xs.length := by rw [← Array.length_toList, hlist, List.length_map]
    have hval : ∀ j : Nat, j < xs.length → scr.slots[j]? = some (.int (xs.getD j 0)) := fun j hj => by
      rw [← Array.getElem?_toList, hlist]
      simp [hj]
    have hbl : b < s.heap.size := (Array.getElem?_eq_some_iff.mp hcb).1
    have hX : va_X b xs.length (fun j => xs.getD j 0) s s.heap := ⟨scr, hcb, hof, hkn, hsz, hval⟩
    have K : W p l e room_1 s m #[Value.ref b] below meth c s₁.heap [] 0 0 (lw_Z below #[Value.ref b] s) (entryFrame m ([Value.ref b] : List Value).toArray 8) := by
      rw [hh0]
      exact whole_start l hl9 hbd ⟨B.exec, B.bytes, B.returns, hml, hown, hts, hX, hbl, B.notSynchronized, hgv⟩
    obtain ⟨t, a1, o, b1, b2, b3⟩ := K s₁ rfl X₀
    exact ⟨t, o, a1, b1, b2, b3⟩
theorem lw_pre_spec {args : Array Value} {s : State} (h : (Jvm.Cond.and given_1 narrow_1).before args s = true) (hr : rest_1_c.before args s = true) : ∃ (b : Addr) (xs : List Int32), lw_P b xs args s := by
  have hs := flat_of_before _ h
  have hq := flat_of_before _ hr
  have hc : (Cond.count 1).before args s = true := hs _ (by decide +kernel)
  have harr : (Cond.arrayOf (.arg 0) .int).before args s = true := hs _ (by decide +kernel)
  have hle : (Cond.le (.length (.arg 0)) (.int 2048)).before args s = true := hs _ (by decide +kernel)
  have hlen : (Cond.isInt (.length (.arg 0))).before args s = true := hq _ (by decide +kernel)
  have hall : (Cond.all (.arg 0) (.isInt (.elem (.arg 0) (.index 0)))).before args s = true := hq _ (by decide +kernel)
  obtain ⟨b, xs, hb, hx⟩ := State.ints_of_pre rfl harr hlen hall
  have hsm : xs.length < 2 ^ 31 := hx.choose_spec.2.2.2
  have hev : (Term.length (.arg 0)).eval args s none [] s = some (.int xs.length.toInt32) := hx.length_eval hb
  have hv := Cond.le_ints hev (show (Term.int 2048).eval args s none [] s = some (.int 2048) from rfl)
  have hd : xs.length.toInt32 ≤ 2048 := by
    simpa [Cond.before, Cond.holds, hv] using hle
  have hN : xs.length ≤ 2048 := (Int32.ofNat_le_ofNat hsm (by decide)).mp (show Int32.ofNat xs.length ≤ Int32.ofNat 2048 from hd)
  exact ⟨b, xs, Cond.one_arg hc (show args[0]? = some (.ref b) from hb), hx, hN, h⟩
theorem lw_comes (l : Launch) (hl9 : l.stackTraces = false) : Comes l x (Jvm.Cond.code x code maxLocals ret :: tables_1) room_1 (fun tb e args s => Calls_1 tb e args s ∧ rest_1 tb e args s ∧ Pre_1 tb e args s)
    (fun _ _ args s o t => lw_Q args s o t) := by
  intro p e ha hc hk s m args below hf hfit hheap happ hpre
  obtain ⟨b, xs, hP⟩ := lw_pre_spec hpre.2.2 hpre.2.1
  obtain ⟨k, o, h1, h2, h3, hQ⟩ := lw_walk l hl9 b xs p e ha hc hk s m args below hf ((Spec.applies_iff_loose hf).mp happ).1 hP trivial
  exact ⟨k, o, h1, h2, h3, hQ⟩
theorem lw_frame {s t : State} {o : Outcome} {args : Array Value} (h : Framed s o t [] 603072 7223402) :
    Framed s o t (fieldLocs frame_1_writes args s ++ arrayLocs frame_1_arrays args s ++ staticLocs frame_1_statics s) 603072 7223402 := h
theorem lw_limb (L : Cond) (hL : ∀ (args : Array Value) (s t : State), L.after args s (.returned (some (.int 1))) t = true) :
    ArmFor flags0 classFile x code maxLocals ret World_1 tables_1 room_1 Calls_1 rest_1 Pre_1
      (fun tb e a s o t => postC L tb e a s o t ∧ Framed s o t (fieldLocs frame_1_writes a s ++ arrayLocs frame_1_arrays a s ++ staticLocs frame_1_statics s) 603072 7223402) := by
  intro l hfl _ _ p e ha hc hk s m args below hf hfit hheap happ hpre
  have hl9 : l.stackTraces = false := by
    unfold Launch.stackTraces
    rw [hfl]
    decide
  obtain ⟨k, o, h1, h2, h3, rfl, hF⟩ := lw_comes l hl9 p e ha hc hk s m args below hf hfit hheap happ hpre
  exact ⟨k, _, h1, h2, h3, hL args s _, lw_frame hF⟩
theorem i_vc : Claimed_1_1 ∧ Claimed_1_2 := ⟨lw_limb limb_1_1 (fun args s t => by simp [limb_1_1, Cond.after, Cond.holds, Cond.value]), lw_limb limb_1_2 (fun args s t => Cond.after_iff.mpr (by
  first | (rw [show limb_1_2 = Cond.eq .result (.int 1) from rfl, Cond.eq_ints (x := 1) (y := 1) rfl rfl]; simp; done) | (simp [limb_1_2, Cond.value, Term.eval]; done)))⟩
