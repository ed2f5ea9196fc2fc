/-! THE LAW'S HELPERS: what each asks, and its contract (by program: wip/whole/tools/help.py) -/
theorem zv_690 : Cond.methodLink RL 7 yX6_shifted ∈ zU := zt_3 208 (by decide +kernel) (by decide +kernel)
theorem zv_691 : Cond.instanceMethod yX6_shifted ∈ zU := zt_3 209 (by decide +kernel) (by decide +kernel)
theorem zv_692 : Cond.selects RX6 yX6_shifted yX6_shifted ∈ zU := zt_3 210 (by decide +kernel) (by decide +kernel)
theorem zv_693 : Cond.code yX6_shifted cX6_shifted 2 (some .int) ∈ zU := zt_3 211 (by decide +kernel) (by decide +kernel)
theorem zv_694 : Cond.classLink RL 13 zxE2 ∈ zU := zt_3 138 (by decide +kernel) (by decide +kernel)
theorem zv_695 : Cond.methodLink RL 15 yX6_over ∈ zU := zt_3 233 (by decide +kernel) (by decide +kernel)
theorem zv_696 : Cond.instanceMethod yX6_over ∈ zU := zt_3 234 (by decide +kernel) (by decide +kernel)
theorem zv_697 : Cond.selects RX6 yX6_over yX6_over ∈ zU := zt_3 235 (by decide +kernel) (by decide +kernel)
theorem zv_698 : Cond.code yX6_over cX6_over 5 (some .int) ∈ zU := zt_3 236 (by decide +kernel) (by decide +kernel)
theorem zv_699 : Cond.classLink RL 19 zxE1 ∈ zU := zt_3 219 (by decide +kernel) (by decide +kernel)
theorem zv_700 : Cond.methodLink RL 21 yX6_apply ∈ zU := zt_4 7 (by decide +kernel) (by decide +kernel)
theorem zv_701 : Cond.instanceMethod yX6_apply ∈ zU := zt_4 8 (by decide +kernel) (by decide +kernel)
theorem zv_702 : Cond.selects RX6 yX6_apply yX6_apply ∈ zU := zt_4 9 (by decide +kernel) (by decide +kernel)
theorem zv_703 : Cond.code yX6_apply cX6_apply 6 (some .int) ∈ zU := zt_4 10 (by decide +kernel) (by decide +kernel)
theorem zv_704 : Cond.methodLink RL 25 yX6_power ∈ zU := zt_4 29 (by decide +kernel) (by decide +kernel)
theorem zv_705 : Cond.instanceMethod yX6_power ∈ zU := zt_4 30 (by decide +kernel) (by decide +kernel)
theorem zv_706 : Cond.selects RX6 yX6_power yX6_power ∈ zU := zt_4 31 (by decide +kernel) (by decide +kernel)
theorem zv_707 : Cond.code yX6_power cX6_power 4 (some .int) ∈ zU := zt_4 32 (by decide +kernel) (by decide +kernel)
theorem zv_708 : Cond.methodLink RL 28 yX6_limb ∈ zU := zt_4 71 (by decide +kernel) (by decide +kernel)
theorem zv_709 : Cond.instanceMethod yX6_limb ∈ zU := zt_4 72 (by decide +kernel) (by decide +kernel)
theorem zv_710 : Cond.selects RX6 yX6_limb yX6_limb ∈ zU := zt_4 73 (by decide +kernel) (by decide +kernel)
theorem zv_711 : Cond.code yX6_limb cX6_limb 6 (some .int) ∈ zU := zt_4 74 (by decide +kernel) (by decide +kernel)
theorem zv_712 : Cond.classLink RL 31 zxE3 ∈ zU := zt_4 52 (by decide +kernel) (by decide +kernel)
theorem zv_713 : Cond.methodLink RL 33 yX6_exact ∈ zU := zt_4 82 (by decide +kernel) (by decide +kernel)
theorem zv_714 : Cond.instanceMethod yX6_exact ∈ zU := zt_4 83 (by decide +kernel) (by decide +kernel)
theorem zv_715 : Cond.selects RX6 yX6_exact yX6_exact ∈ zU := zt_4 84 (by decide +kernel) (by decide +kernel)
theorem zv_716 : Cond.code yX6_exact cX6_exact 6 (some .long) ∈ zU := zt_4 85 (by decide +kernel) (by decide +kernel)
theorem zv_717 : Cond.methodLink RL 37 yX6_ofReal ∈ zU := zt_4 101 (by decide +kernel) (by decide +kernel)
theorem zv_718 : Cond.instanceMethod yX6_ofReal ∈ zU := zt_4 102 (by decide +kernel) (by decide +kernel)
theorem zv_719 : Cond.selects RX6 yX6_ofReal yX6_ofReal ∈ zU := zt_4 103 (by decide +kernel) (by decide +kernel)
theorem zv_720 : Cond.code yX6_ofReal cX6_ofReal 9 (some .int) ∈ zU := zt_4 104 (by decide +kernel) (by decide +kernel)
theorem zv_721 : Cond.methodLink RL 41 yX6_read ∈ zU := zt_4 111 (by decide +kernel) (by decide +kernel)
theorem zv_722 : Cond.instanceMethod yX6_read ∈ zU := zt_4 112 (by decide +kernel) (by decide +kernel)
theorem zv_723 : Cond.selects RX6 yX6_read yX6_read ∈ zU := zt_4 113 (by decide +kernel) (by decide +kernel)
theorem zv_724 : Cond.code yX6_read cX6_read 2 (some .int) ∈ zU := zt_4 114 (by decide +kernel) (by decide +kernel)
def pL_shifted (G : Nat → ClassId) (a0 : Nat) (a1 : Int32) (a2 : Nat) (post : Int32 → zm_M → Prop) (M : zm_M) : Prop := zw_ob M a0 9 ∧ pX6_shifted G a0 a1 (fun r M1 => zw_sl (G 3) M1 a2 (0 : Int32) r.toInt64 (fun M2 => post (0 : Int32) M2)) (fun M1 => ∀ k : Nat, M1.1 ≤ k → post (1 : Int32) (k, M1.2)) M
def pL_over (G : Nat → ClassId) (a0 : Nat) (a1 : Int32) (a2 : Int32) (a3 : Nat) (post : Int32 → zm_M → Prop) (M : zm_M) : Prop := zw_ob M a0 9 ∧ pX6_over G a0 a1 a2 (fun r M1 => zw_sl (G 3) M1 a3 (0 : Int32) r.toInt64 (fun M2 => post (0 : Int32) M2)) (fun M1 => ∀ k : Nat, M1.1 ≤ k → post (1 : Int32) (k, M1.2)) M
def pL_apply (G : Nat → ClassId) (a0 : Nat) (a1 : Int32) (a2 : Int32) (a3 : Int32) (a4 : Nat) (post : Int32 → zm_M → Prop) (M : zm_M) : Prop := zw_ob M a0 9 ∧ pX6_apply G a0 a1 a2 a3 (fun r M1 => zw_sl (G 3) M1 a4 (0 : Int32) r.toInt64 (fun M2 => post (0 : Int32) M2)) (fun M1 => ∀ k : Nat, M1.1 ≤ k → post (1 : Int32) (k, M1.2)) M
def pL_power (G : Nat → ClassId) (a0 : Nat) (a1 : Int32) (a2 : Int32) (a3 : Nat) (post : Int32 → zm_M → Prop) (M : zm_M) : Prop := zw_ob M a0 9 ∧ pX6_power G a0 a1 a2 (fun r M1 => zw_sl (G 3) M1 a3 (0 : Int32) r.toInt64 (fun M2 => post (0 : Int32) M2)) (fun M1 => ∀ k : Nat, M1.1 ≤ k → post (1 : Int32) (k, M1.2)) M
def pL_limb (G : Nat → ClassId) (a0 : Nat) (a1 : Int32) (a2 : Int32) (a3 : Int32) (a4 : Nat) (post : Int32 → zm_M → Prop) (M : zm_M) : Prop := zw_ob M a0 9 ∧ pX6_limb G a0 a1 a2 a3 (fun r M1 => zw_sl (G 3) M1 a4 (0 : Int32) r.toInt64 (fun M2 => post (0 : Int32) M2)) (fun M1 => ∀ k : Nat, M1.1 ≤ k → post (1 : Int32) (k, M1.2)) M
def pL_exact (G : Nat → ClassId) (a0 : Nat) (a1 : Int32) (a2 : Int32) (a3 : Nat) (post : Int32 → zm_M → Prop) (M : zm_M) : Prop := zw_ob M a0 9 ∧ pX6_exact G a0 a1 a2 (fun r M1 => zw_sl (G 3) M1 a3 (0 : Int32) r (fun M2 => post (0 : Int32) M2)) (fun M1 => ∀ k : Nat, M1.1 ≤ k → post (1 : Int32) (k, M1.2)) M
def pL_ofReal (G : Nat → ClassId) (a0 : Nat) (a1 : Int64) (a3 : Nat) (post : Int32 → zm_M → Prop) (M : zm_M) : Prop := zw_ob M a0 9 ∧ pX6_ofReal G a0 a1 (fun r M1 => zw_sl (G 3) M1 a3 (0 : Int32) r.toInt64 (fun M2 => post (0 : Int32) M2)) (fun M1 => ∀ k : Nat, M1.1 ≤ k → post (1 : Int32) (k, M1.2)) M
def pL_read (G : Nat → ClassId) (a0 : Nat) (a1 : Nat) (post : Int32 → zm_M → Prop) (M : zm_M) : Prop := zw_ob M a0 9 ∧ pX6_read G a0  (fun r M1 => zw_sl (G 3) M1 a1 (0 : Int32) r.toInt64 (fun M2 => post (0 : Int32) M2)) (fun M1 => ∀ k : Nat, M1.1 ≤ k → post (1 : Int32) (k, M1.2)) M
set_option maxHeartbeats 4000000 in
set_option maxRecDepth 100000 in
theorem kL_shifted (l : Launch) (hl9 : l.stackTraces = false) (lo : Nat) (g : zg) (M : zm_M) (a0 : Nat) (a1 : Int32) (a2 : Nat) (post : Int32 → zm_M → Prop) (h : pL_shifted g.2 a0 a1 a2 post M) : vx_Met l yL_shifted (Cond.codeWith yL_shifted cL_shifted 4 (some .int) [(0, 9, 12, 13)] :: zU) (({ frames := 9, cells := 1, slots := 6, locals := 218 } : Room)) (zx_P zNF zNM lo g M [.ref a0, .int a1, .ref a2]) (va_Qi post (zc_B lo g) (zA lo)) (fun _ _ _ => False) 1 6 (zA lo) := by
  refine vx_ofWH (cc := cL_shifted) (maxL := 4) (ret := some .int) (hh := [(0, 9, 12, 13)]) (by decide) rfl ?_
  intro p e s m args below meth c s₁ B hml hv
  obtain ⟨rfl, hR, hK, hX⟩ := hv
  have hts := atoms_spec (ws := Cond.codeWith yL_shifted cL_shifted 4 (some .int) [(0, 9, 12, 13)] :: zU) B.pre
  have hTab := vx_table (x := yL_shifted) B (hts _ List.mem_cons_self)
  have hts : ∀ w ∈ zU, w.before _ s = true := fun w hw => hts w (List.mem_cons_of_mem _ hw)
  have hown : s.vm.findClass RL = some m.cls := findClass_of_methodNamed B.named
  have hx := B.exec
  have hb := B.bytes
  have hr := B.returns
  have hlocks := B.notSynchronized
  have S : CallFix p m c cL_shifted 4 s ([.ref a0, .int a1, .ref a2] : List Value).toArray zU RL := ⟨hx, hb, hml, hown, hts⟩
  have hw : zW lo g s s.heap [] M := ⟨hR, va_S.rf⟩
  have hl := lv_entry ([.ref a0, .int a1, .ref a2]) (n := 4) (Nat.le_of_ble_eq_true rfl)
  rw [lg_entry_eq]
  generalize (lg_sl ([.ref a0, .int a1, .ref a2]) ++ List.replicate (4 - (lg_sl ([.ref a0, .int a1, .ref a2])).length) Slot.unset).toArray = ls at hl ⊢
  have hl : lv_has ls 4 [(0, .ref a0), (1, .int a1), (2, .ref a2)] := hl
  unfold pL_shifted at h
  refine lv_aload_n hx hb dL_shifted_0 rfl (lv_at hl 2 rfl) ?_
  refine lv_iconst (v := (0 : Int32)) hx hb dL_shifted_1 (by decide) ?_
  refine lv_aload_n hx hb dL_shifted_2 rfl (lv_at hl 0 rfl) ?_
  refine lv_iload_n hx hb dL_shifted_3 rfl (lv_at hl 1 rfl) ?_
  obtain ⟨ho, h⟩ := h
  refine zr_VXi (As := [.int a1]) (rest := [.int (0 : Int32), .ref a2]) S hK hX hw (kX6_shifted l hl9 lo g M a0 a1 _ _ h) (cwV 1 hts (zg_V zv_690 zv_691 zv_692 zu_303 zv_693) rfl rfl rfl (by decide +kernel) ⟨Nat.le_of_ble_eq_true rfl, Nat.le_of_ble_eq_true rfl⟩) (ci := 9) rfl ho rfl hl.1 rfl (Nat.le_of_ble_eq_true rfl) dL_shifted_4 ⟨Nat.le_of_ble_eq_true rfl, Nat.le_of_ble_eq_true rfl⟩ (fun ce q9 u H locs hpx hz hw hce hcv hcl => ?_) (fun r M1 H locs hw h => ?_)
  · refine vx_catch (own := RL) (name := zxE2) (E := zxE2) hown [] ⟨0, 9, 12, 13⟩ [] (by rw [hTab]; rfl) (fun z hz => nomatch hz) (by decide) (by decide) (hts _ zv_694) (va_Nw.use rfl (hX.2.1 _ (by decide))) hce hcv hcl ?_
    refine lv_astore_n (lv' := [(3, .ref q9), (0, .ref a0), (1, .int a1), (2, .ref a2)]) hx hb dL_shifted_12 rfl hl (by decide) rfl (fun ls hl => ?_)
    refine lv_iconst (v := (1 : Int32)) hx hb dL_shifted_13 (by decide) ?_
    exact vx_ret (zr_ri (post := post) (v := (1 : Int32)) S hr hlocks hw (hpx _ hz) dL_shifted_14)
  · refine lv_i2l hx hb dL_shifted_7 rfl ?_
    refine zr_last S hK hw dL_shifted_8 h (fun M2 H locs hw h => ?_)
    refine lv_goto (tgt := 15) hx hb dL_shifted_9 (by decide) ?_
    refine lv_iconst (v := (0 : Int32)) hx hb dL_shifted_15 (by decide) ?_
    exact vx_ret (zr_ri (post := post) (v := (0 : Int32)) S hr hlocks hw h dL_shifted_16)
set_option maxHeartbeats 4000000 in
set_option maxRecDepth 100000 in
theorem kL_over (l : Launch) (hl9 : l.stackTraces = false) (lo : Nat) (g : zg) (M : zm_M) (a0 : Nat) (a1 : Int32) (a2 : Int32) (a3 : Nat) (post : Int32 → zm_M → Prop) (h : pL_over g.2 a0 a1 a2 a3 post M) : vx_Met l yL_over (Cond.codeWith yL_over cL_over 5 (some .int) [(0, 10, 13, 19)] :: zU) (({ frames := 9, cells := 1, slots := 6, locals := 221 } : Room)) (zx_P zNF zNM lo g M [.ref a0, .int a1, .int a2, .ref a3]) (va_Qi post (zc_B lo g) (zA lo)) (fun _ _ _ => False) 1 6 (zA lo) := by
  refine vx_ofWH (cc := cL_over) (maxL := 5) (ret := some .int) (hh := [(0, 10, 13, 19)]) (by decide) rfl ?_
  intro p e s m args below meth c s₁ B hml hv
  obtain ⟨rfl, hR, hK, hX⟩ := hv
  have hts := atoms_spec (ws := Cond.codeWith yL_over cL_over 5 (some .int) [(0, 10, 13, 19)] :: zU) B.pre
  have hTab := vx_table (x := yL_over) B (hts _ List.mem_cons_self)
  have hts : ∀ w ∈ zU, w.before _ s = true := fun w hw => hts w (List.mem_cons_of_mem _ hw)
  have hown : s.vm.findClass RL = some m.cls := findClass_of_methodNamed B.named
  have hx := B.exec
  have hb := B.bytes
  have hr := B.returns
  have hlocks := B.notSynchronized
  have S : CallFix p m c cL_over 5 s ([.ref a0, .int a1, .int a2, .ref a3] : List Value).toArray zU RL := ⟨hx, hb, hml, hown, hts⟩
  have hw : zW lo g s s.heap [] M := ⟨hR, va_S.rf⟩
  have hl := lv_entry ([.ref a0, .int a1, .int a2, .ref a3]) (n := 5) (Nat.le_of_ble_eq_true rfl)
  rw [lg_entry_eq]
  generalize (lg_sl ([.ref a0, .int a1, .int a2, .ref a3]) ++ List.replicate (5 - (lg_sl ([.ref a0, .int a1, .int a2, .ref a3])).length) Slot.unset).toArray = ls at hl ⊢
  have hl : lv_has ls 5 [(0, .ref a0), (1, .int a1), (2, .int a2), (3, .ref a3)] := hl
  unfold pL_over at h
  refine lv_aload_n hx hb dL_over_0 rfl (lv_at hl 3 rfl) ?_
  refine lv_iconst (v := (0 : Int32)) hx hb dL_over_1 (by decide) ?_
  refine lv_aload_n hx hb dL_over_2 rfl (lv_at hl 0 rfl) ?_
  refine lv_iload_n hx hb dL_over_3 rfl (lv_at hl 1 rfl) ?_
  refine lv_iload_n hx hb dL_over_4 rfl (lv_at hl 2 rfl) ?_
  obtain ⟨ho, h⟩ := h
  refine zr_VXi (As := [.int a1, .int a2]) (rest := [.int (0 : Int32), .ref a3]) S hK hX hw (kX6_over l hl9 lo g M a0 a1 a2 _ _ h) (cwV 2 hts (zg_V zv_695 zv_696 zv_697 zu_303 zv_698) rfl rfl rfl (by decide +kernel) ⟨Nat.le_of_ble_eq_true rfl, Nat.le_of_ble_eq_true rfl⟩) (ci := 9) rfl ho rfl hl.1 rfl (Nat.le_of_ble_eq_true rfl) dL_over_5 ⟨Nat.le_of_ble_eq_true rfl, Nat.le_of_ble_eq_true rfl⟩ (fun ce q9 u H locs hpx hz hw hce hcv hcl => ?_) (fun r M1 H locs hw h => ?_)
  · refine vx_catch (own := RL) (name := zxE1) (E := zxE1) hown [] ⟨0, 10, 13, 19⟩ [] (by rw [hTab]; rfl) (fun z hz => nomatch hz) (by decide) (by decide) (hts _ zv_699) (va_Nw.use rfl (hX.2.1 _ (by decide))) hce hcv hcl ?_
    refine lv_astore (lv' := [(4, .ref q9), (0, .ref a0), (1, .int a1), (2, .int a2), (3, .ref a3)]) hx hb dL_over_13 hl (by decide) rfl (fun ls hl => ?_)
    refine lv_iconst (v := (1 : Int32)) hx hb dL_over_15 (by decide) ?_
    exact vx_ret (zr_ri (post := post) (v := (1 : Int32)) S hr hlocks hw (hpx _ hz) dL_over_16)
  · refine lv_i2l hx hb dL_over_8 rfl ?_
    refine zr_last S hK hw dL_over_9 h (fun M2 H locs hw h => ?_)
    refine lv_goto (tgt := 17) hx hb dL_over_10 (by decide) ?_
    refine lv_iconst (v := (0 : Int32)) hx hb dL_over_17 (by decide) ?_
    exact vx_ret (zr_ri (post := post) (v := (0 : Int32)) S hr hlocks hw h dL_over_18)
set_option maxHeartbeats 4000000 in
set_option maxRecDepth 100000 in
theorem kL_apply (l : Launch) (hl9 : l.stackTraces = false) (lo : Nat) (g : zg) (M : zm_M) (a0 : Nat) (a1 : Int32) (a2 : Int32) (a3 : Int32) (a4 : Nat) (post : Int32 → zm_M → Prop) (h : pL_apply g.2 a0 a1 a2 a3 a4 post M) : vx_Met l yL_apply (Cond.codeWith yL_apply cL_apply 6 (some .int) [(0, 12, 15, 19)] :: zU) (({ frames := 9, cells := 1, slots := 6, locals := 222 } : Room)) (zx_P zNF zNM lo g M [.ref a0, .int a1, .int a2, .int a3, .ref a4]) (va_Qi post (zc_B lo g) (zA lo)) (fun _ _ _ => False) 1 6 (zA lo) := by
  refine vx_ofWH (cc := cL_apply) (maxL := 6) (ret := some .int) (hh := [(0, 12, 15, 19)]) (by decide) rfl ?_
  intro p e s m args below meth c s₁ B hml hv
  obtain ⟨rfl, hR, hK, hX⟩ := hv
  have hts := atoms_spec (ws := Cond.codeWith yL_apply cL_apply 6 (some .int) [(0, 12, 15, 19)] :: zU) B.pre
  have hTab := vx_table (x := yL_apply) B (hts _ List.mem_cons_self)
  have hts : ∀ w ∈ zU, w.before _ s = true := fun w hw => hts w (List.mem_cons_of_mem _ hw)
  have hown : s.vm.findClass RL = some m.cls := findClass_of_methodNamed B.named
  have hx := B.exec
  have hb := B.bytes
  have hr := B.returns
  have hlocks := B.notSynchronized
  have S : CallFix p m c cL_apply 6 s ([.ref a0, .int a1, .int a2, .int a3, .ref a4] : List Value).toArray zU RL := ⟨hx, hb, hml, hown, hts⟩
  have hw : zW lo g s s.heap [] M := ⟨hR, va_S.rf⟩
  have hl := lv_entry ([.ref a0, .int a1, .int a2, .int a3, .ref a4]) (n := 6) (Nat.le_of_ble_eq_true rfl)
  rw [lg_entry_eq]
  generalize (lg_sl ([.ref a0, .int a1, .int a2, .int a3, .ref a4]) ++ List.replicate (6 - (lg_sl ([.ref a0, .int a1, .int a2, .int a3, .ref a4])).length) Slot.unset).toArray = ls at hl ⊢
  have hl : lv_has ls 6 [(0, .ref a0), (1, .int a1), (2, .int a2), (3, .int a3), (4, .ref a4)] := hl
  unfold pL_apply at h
  refine lv_aload hx hb dL_apply_0 (lv_at hl 4 rfl) ?_
  refine lv_iconst (v := (0 : Int32)) hx hb dL_apply_2 (by decide) ?_
  refine lv_aload_n hx hb dL_apply_3 rfl (lv_at hl 0 rfl) ?_
  refine lv_iload_n hx hb dL_apply_4 rfl (lv_at hl 1 rfl) ?_
  refine lv_iload_n hx hb dL_apply_5 rfl (lv_at hl 2 rfl) ?_
  refine lv_iload_n hx hb dL_apply_6 rfl (lv_at hl 3 rfl) ?_
  obtain ⟨ho, h⟩ := h
  refine zr_VXi (As := [.int a1, .int a2, .int a3]) (rest := [.int (0 : Int32), .ref a4]) S hK hX hw (kX6_apply l hl9 lo g M a0 a1 a2 a3 _ _ h) (cwV 3 hts (zg_V zv_700 zv_701 zv_702 zu_303 zv_703) rfl rfl rfl (by decide +kernel) ⟨Nat.le_of_ble_eq_true rfl, Nat.le_of_ble_eq_true rfl⟩) (ci := 9) rfl ho rfl hl.1 rfl (Nat.le_of_ble_eq_true rfl) dL_apply_7 ⟨Nat.le_of_ble_eq_true rfl, Nat.le_of_ble_eq_true rfl⟩ (fun ce q9 u H locs hpx hz hw hce hcv hcl => ?_) (fun r M1 H locs hw h => ?_)
  · refine vx_catch (own := RL) (name := zxE1) (E := zxE1) hown [] ⟨0, 12, 15, 19⟩ [] (by rw [hTab]; rfl) (fun z hz => nomatch hz) (by decide) (by decide) (hts _ zv_699) (va_Nw.use rfl (hX.2.1 _ (by decide))) hce hcv hcl ?_
    refine lv_astore (lv' := [(5, .ref q9), (0, .ref a0), (1, .int a1), (2, .int a2), (3, .int a3), (4, .ref a4)]) hx hb dL_apply_15 hl (by decide) rfl (fun ls hl => ?_)
    refine lv_iconst (v := (1 : Int32)) hx hb dL_apply_17 (by decide) ?_
    exact vx_ret (zr_ri (post := post) (v := (1 : Int32)) S hr hlocks hw (hpx _ hz) dL_apply_18)
  · refine lv_i2l hx hb dL_apply_10 rfl ?_
    refine zr_last S hK hw dL_apply_11 h (fun M2 H locs hw h => ?_)
    refine lv_goto (tgt := 19) hx hb dL_apply_12 (by decide) ?_
    refine lv_iconst (v := (0 : Int32)) hx hb dL_apply_19 (by decide) ?_
    exact vx_ret (zr_ri (post := post) (v := (0 : Int32)) S hr hlocks hw h dL_apply_20)
set_option maxHeartbeats 4000000 in
set_option maxRecDepth 100000 in
theorem kL_power (l : Launch) (hl9 : l.stackTraces = false) (lo : Nat) (g : zg) (M : zm_M) (a0 : Nat) (a1 : Int32) (a2 : Int32) (a3 : Nat) (post : Int32 → zm_M → Prop) (h : pL_power g.2 a0 a1 a2 a3 post M) : vx_Met l yL_power (Cond.codeWith yL_power cL_power 5 (some .int) [(0, 10, 13, 19)] :: zU) (({ frames := 9, cells := 1, slots := 6, locals := 220 } : Room)) (zx_P zNF zNM lo g M [.ref a0, .int a1, .int a2, .ref a3]) (va_Qi post (zc_B lo g) (zA lo)) (fun _ _ _ => False) 1 6 (zA lo) := by
  refine vx_ofWH (cc := cL_power) (maxL := 5) (ret := some .int) (hh := [(0, 10, 13, 19)]) (by decide) rfl ?_
  intro p e s m args below meth c s₁ B hml hv
  obtain ⟨rfl, hR, hK, hX⟩ := hv
  have hts := atoms_spec (ws := Cond.codeWith yL_power cL_power 5 (some .int) [(0, 10, 13, 19)] :: zU) B.pre
  have hTab := vx_table (x := yL_power) B (hts _ List.mem_cons_self)
  have hts : ∀ w ∈ zU, w.before _ s = true := fun w hw => hts w (List.mem_cons_of_mem _ hw)
  have hown : s.vm.findClass RL = some m.cls := findClass_of_methodNamed B.named
  have hx := B.exec
  have hb := B.bytes
  have hr := B.returns
  have hlocks := B.notSynchronized
  have S : CallFix p m c cL_power 5 s ([.ref a0, .int a1, .int a2, .ref a3] : List Value).toArray zU RL := ⟨hx, hb, hml, hown, hts⟩
  have hw : zW lo g s s.heap [] M := ⟨hR, va_S.rf⟩
  have hl := lv_entry ([.ref a0, .int a1, .int a2, .ref a3]) (n := 5) (Nat.le_of_ble_eq_true rfl)
  rw [lg_entry_eq]
  generalize (lg_sl ([.ref a0, .int a1, .int a2, .ref a3]) ++ List.replicate (5 - (lg_sl ([.ref a0, .int a1, .int a2, .ref a3])).length) Slot.unset).toArray = ls at hl ⊢
  have hl : lv_has ls 5 [(0, .ref a0), (1, .int a1), (2, .int a2), (3, .ref a3)] := hl
  unfold pL_power at h
  refine lv_aload_n hx hb dL_power_0 rfl (lv_at hl 3 rfl) ?_
  refine lv_iconst (v := (0 : Int32)) hx hb dL_power_1 (by decide) ?_
  refine lv_aload_n hx hb dL_power_2 rfl (lv_at hl 0 rfl) ?_
  refine lv_iload_n hx hb dL_power_3 rfl (lv_at hl 1 rfl) ?_
  refine lv_iload_n hx hb dL_power_4 rfl (lv_at hl 2 rfl) ?_
  obtain ⟨ho, h⟩ := h
  refine zr_VXi (As := [.int a1, .int a2]) (rest := [.int (0 : Int32), .ref a3]) S hK hX hw (kX6_power l hl9 lo g M a0 a1 a2 _ _ h) (cwV 2 hts (zg_V zv_704 zv_705 zv_706 zu_303 zv_707) rfl rfl rfl (by decide +kernel) ⟨Nat.le_of_ble_eq_true rfl, Nat.le_of_ble_eq_true rfl⟩) (ci := 9) rfl ho rfl hl.1 rfl (Nat.le_of_ble_eq_true rfl) dL_power_5 ⟨Nat.le_of_ble_eq_true rfl, Nat.le_of_ble_eq_true rfl⟩ (fun ce q9 u H locs hpx hz hw hce hcv hcl => ?_) (fun r M1 H locs hw h => ?_)
  · refine vx_catch (own := RL) (name := zxE1) (E := zxE1) hown [] ⟨0, 10, 13, 19⟩ [] (by rw [hTab]; rfl) (fun z hz => nomatch hz) (by decide) (by decide) (hts _ zv_699) (va_Nw.use rfl (hX.2.1 _ (by decide))) hce hcv hcl ?_
    refine lv_astore (lv' := [(4, .ref q9), (0, .ref a0), (1, .int a1), (2, .int a2), (3, .ref a3)]) hx hb dL_power_13 hl (by decide) rfl (fun ls hl => ?_)
    refine lv_iconst (v := (1 : Int32)) hx hb dL_power_15 (by decide) ?_
    exact vx_ret (zr_ri (post := post) (v := (1 : Int32)) S hr hlocks hw (hpx _ hz) dL_power_16)
  · refine lv_i2l hx hb dL_power_8 rfl ?_
    refine zr_last S hK hw dL_power_9 h (fun M2 H locs hw h => ?_)
    refine lv_goto (tgt := 17) hx hb dL_power_10 (by decide) ?_
    refine lv_iconst (v := (0 : Int32)) hx hb dL_power_17 (by decide) ?_
    exact vx_ret (zr_ri (post := post) (v := (0 : Int32)) S hr hlocks hw h dL_power_18)
set_option maxHeartbeats 4000000 in
set_option maxRecDepth 100000 in
theorem kL_limb (l : Launch) (hl9 : l.stackTraces = false) (lo : Nat) (g : zg) (M : zm_M) (a0 : Nat) (a1 : Int32) (a2 : Int32) (a3 : Int32) (a4 : Nat) (post : Int32 → zm_M → Prop) (h : pL_limb g.2 a0 a1 a2 a3 a4 post M) : vx_Met l yL_limb (Cond.codeWith yL_limb cL_limb 6 (some .int) [(0, 12, 15, 31)] :: zU) (({ frames := 9, cells := 1, slots := 6, locals := 145 } : Room)) (zx_P zNF zNM lo g M [.ref a0, .int a1, .int a2, .int a3, .ref a4]) (va_Qi post (zc_B lo g) (zA lo)) (fun _ _ _ => False) 1 6 (zA lo) := by
  refine vx_ofWH (cc := cL_limb) (maxL := 6) (ret := some .int) (hh := [(0, 12, 15, 31)]) (by decide) rfl ?_
  intro p e s m args below meth c s₁ B hml hv
  obtain ⟨rfl, hR, hK, hX⟩ := hv
  have hts := atoms_spec (ws := Cond.codeWith yL_limb cL_limb 6 (some .int) [(0, 12, 15, 31)] :: zU) B.pre
  have hTab := vx_table (x := yL_limb) B (hts _ List.mem_cons_self)
  have hts : ∀ w ∈ zU, w.before _ s = true := fun w hw => hts w (List.mem_cons_of_mem _ hw)
  have hown : s.vm.findClass RL = some m.cls := findClass_of_methodNamed B.named
  have hx := B.exec
  have hb := B.bytes
  have hr := B.returns
  have hlocks := B.notSynchronized
  have S : CallFix p m c cL_limb 6 s ([.ref a0, .int a1, .int a2, .int a3, .ref a4] : List Value).toArray zU RL := ⟨hx, hb, hml, hown, hts⟩
  have hw : zW lo g s s.heap [] M := ⟨hR, va_S.rf⟩
  have hl := lv_entry ([.ref a0, .int a1, .int a2, .int a3, .ref a4]) (n := 6) (Nat.le_of_ble_eq_true rfl)
  rw [lg_entry_eq]
  generalize (lg_sl ([.ref a0, .int a1, .int a2, .int a3, .ref a4]) ++ List.replicate (6 - (lg_sl ([.ref a0, .int a1, .int a2, .int a3, .ref a4])).length) Slot.unset).toArray = ls at hl ⊢
  have hl : lv_has ls 6 [(0, .ref a0), (1, .int a1), (2, .int a2), (3, .int a3), (4, .ref a4)] := hl
  unfold pL_limb at h
  refine lv_aload hx hb dL_limb_0 (lv_at hl 4 rfl) ?_
  refine lv_iconst (v := (0 : Int32)) hx hb dL_limb_2 (by decide) ?_
  refine lv_aload_n hx hb dL_limb_3 rfl (lv_at hl 0 rfl) ?_
  refine lv_iload_n hx hb dL_limb_4 rfl (lv_at hl 1 rfl) ?_
  refine lv_iload_n hx hb dL_limb_5 rfl (lv_at hl 2 rfl) ?_
  refine lv_iload_n hx hb dL_limb_6 rfl (lv_at hl 3 rfl) ?_
  obtain ⟨ho, h⟩ := h
  refine zr_VXi (As := [.int a1, .int a2, .int a3]) (rest := [.int (0 : Int32), .ref a4]) S hK hX hw (kX6_limb l hl9 lo g M a0 a1 a2 a3 _ _ h) (cwV 3 hts (zg_V zv_708 zv_709 zv_710 zu_303 zv_711) rfl rfl rfl (by decide +kernel) ⟨Nat.le_of_ble_eq_true rfl, Nat.le_of_ble_eq_true rfl⟩) (ci := 9) rfl ho rfl hl.1 rfl (Nat.le_of_ble_eq_true rfl) dL_limb_7 ⟨Nat.le_of_ble_eq_true rfl, Nat.le_of_ble_eq_true rfl⟩ (fun ce q9 u H locs hpx hz hw hce hcv hcl => ?_) (fun r M1 H locs hw h => ?_)
  · refine vx_catch (own := RL) (name := zxE3) (E := zxE3) hown [] ⟨0, 12, 15, 31⟩ [] (by rw [hTab]; rfl) (fun z hz => nomatch hz) (by decide) (by decide) (hts _ zv_712) (va_Nw.use rfl (hX.2.1 _ (by decide))) hce hcv hcl ?_
    refine lv_astore (lv' := [(5, .ref q9), (0, .ref a0), (1, .int a1), (2, .int a2), (3, .int a3), (4, .ref a4)]) hx hb dL_limb_15 hl (by decide) rfl (fun ls hl => ?_)
    refine lv_iconst (v := (1 : Int32)) hx hb dL_limb_17 (by decide) ?_
    exact vx_ret (zr_ri (post := post) (v := (1 : Int32)) S hr hlocks hw (hpx _ hz) dL_limb_18)
  · refine lv_i2l hx hb dL_limb_10 rfl ?_
    refine zr_last S hK hw dL_limb_11 h (fun M2 H locs hw h => ?_)
    refine lv_goto (tgt := 19) hx hb dL_limb_12 (by decide) ?_
    refine lv_iconst (v := (0 : Int32)) hx hb dL_limb_19 (by decide) ?_
    exact vx_ret (zr_ri (post := post) (v := (0 : Int32)) S hr hlocks hw h dL_limb_20)
set_option maxHeartbeats 4000000 in
set_option maxRecDepth 100000 in
theorem kL_exact (l : Launch) (hl9 : l.stackTraces = false) (lo : Nat) (g : zg) (M : zm_M) (a0 : Nat) (a1 : Int32) (a2 : Int32) (a3 : Nat) (post : Int32 → zm_M → Prop) (h : pL_exact g.2 a0 a1 a2 a3 post M) : vx_Met l yL_exact (Cond.codeWith yL_exact cL_exact 5 (some .int) [(0, 9, 12, 19)] :: zU) (({ frames := 9, cells := 1, slots := 6, locals := 145 } : Room)) (zx_P zNF zNM lo g M [.ref a0, .int a1, .int a2, .ref a3]) (va_Qi post (zc_B lo g) (zA lo)) (fun _ _ _ => False) 1 6 (zA lo) := by
  refine vx_ofWH (cc := cL_exact) (maxL := 5) (ret := some .int) (hh := [(0, 9, 12, 19)]) (by decide) rfl ?_
  intro p e s m args below meth c s₁ B hml hv
  obtain ⟨rfl, hR, hK, hX⟩ := hv
  have hts := atoms_spec (ws := Cond.codeWith yL_exact cL_exact 5 (some .int) [(0, 9, 12, 19)] :: zU) B.pre
  have hTab := vx_table (x := yL_exact) B (hts _ List.mem_cons_self)
  have hts : ∀ w ∈ zU, w.before _ s = true := fun w hw => hts w (List.mem_cons_of_mem _ hw)
  have hown : s.vm.findClass RL = some m.cls := findClass_of_methodNamed B.named
  have hx := B.exec
  have hb := B.bytes
  have hr := B.returns
  have hlocks := B.notSynchronized
  have S : CallFix p m c cL_exact 5 s ([.ref a0, .int a1, .int a2, .ref a3] : List Value).toArray zU RL := ⟨hx, hb, hml, hown, hts⟩
  have hw : zW lo g s s.heap [] M := ⟨hR, va_S.rf⟩
  have hl := lv_entry ([.ref a0, .int a1, .int a2, .ref a3]) (n := 5) (Nat.le_of_ble_eq_true rfl)
  rw [lg_entry_eq]
  generalize (lg_sl ([.ref a0, .int a1, .int a2, .ref a3]) ++ List.replicate (5 - (lg_sl ([.ref a0, .int a1, .int a2, .ref a3])).length) Slot.unset).toArray = ls at hl ⊢
  have hl : lv_has ls 5 [(0, .ref a0), (1, .int a1), (2, .int a2), (3, .ref a3)] := hl
  unfold pL_exact at h
  refine lv_aload_n hx hb dL_exact_0 rfl (lv_at hl 3 rfl) ?_
  refine lv_iconst (v := (0 : Int32)) hx hb dL_exact_1 (by decide) ?_
  refine lv_aload_n hx hb dL_exact_2 rfl (lv_at hl 0 rfl) ?_
  refine lv_iload_n hx hb dL_exact_3 rfl (lv_at hl 1 rfl) ?_
  refine lv_iload_n hx hb dL_exact_4 rfl (lv_at hl 2 rfl) ?_
  obtain ⟨ho, h⟩ := h
  refine zr_VXl (As := [.int a1, .int a2]) (rest := [.int (0 : Int32), .ref a3]) S hK hX hw (kX6_exact l hl9 lo g M a0 a1 a2 _ _ h) (cwV 2 hts (zg_V zv_713 zv_714 zv_715 zu_303 zv_716) rfl rfl rfl (by decide +kernel) ⟨Nat.le_of_ble_eq_true rfl, Nat.le_of_ble_eq_true rfl⟩) (ci := 9) rfl ho rfl hl.1 rfl (Nat.le_of_ble_eq_true rfl) dL_exact_5 ⟨Nat.le_of_ble_eq_true rfl, Nat.le_of_ble_eq_true rfl⟩ (fun ce q9 u H locs hpx hz hw hce hcv hcl => ?_) (fun r M1 H locs hw h => ?_)
  · refine vx_catch (own := RL) (name := zxE1) (E := zxE1) hown [] ⟨0, 9, 12, 19⟩ [] (by rw [hTab]; rfl) (fun z hz => nomatch hz) (by decide) (by decide) (hts _ zv_699) (va_Nw.use rfl (hX.2.1 _ (by decide))) hce hcv hcl ?_
    refine lv_astore (lv' := [(4, .ref q9), (0, .ref a0), (1, .int a1), (2, .int a2), (3, .ref a3)]) hx hb dL_exact_12 hl (by decide) rfl (fun ls hl => ?_)
    refine lv_iconst (v := (1 : Int32)) hx hb dL_exact_14 (by decide) ?_
    exact vx_ret (zr_ri (post := post) (v := (1 : Int32)) S hr hlocks hw (hpx _ hz) dL_exact_15)
  · refine zr_last S hK hw dL_exact_8 h (fun M2 H locs hw h => ?_)
    refine lv_goto (tgt := 16) hx hb dL_exact_9 (by decide) ?_
    refine lv_iconst (v := (0 : Int32)) hx hb dL_exact_16 (by decide) ?_
    exact vx_ret (zr_ri (post := post) (v := (0 : Int32)) S hr hlocks hw h dL_exact_17)
set_option maxHeartbeats 4000000 in
set_option maxRecDepth 100000 in
theorem kL_ofReal (l : Launch) (hl9 : l.stackTraces = false) (lo : Nat) (g : zg) (M : zm_M) (a0 : Nat) (a1 : Int64) (a3 : Nat) (post : Int32 → zm_M → Prop) (h : pL_ofReal g.2 a0 a1 a3 post M) : vx_Met l yL_ofReal (Cond.codeWith yL_ofReal cL_ofReal 5 (some .int) [(0, 9, 12, 19)] :: zU) (({ frames := 9, cells := 1, slots := 6, locals := 225 } : Room)) (zx_P zNF zNM lo g M [.ref a0, .long a1, .ref a3]) (va_Qi post (zc_B lo g) (zA lo)) (fun _ _ _ => False) 1 6 (zA lo) := by
  refine vx_ofWH (cc := cL_ofReal) (maxL := 5) (ret := some .int) (hh := [(0, 9, 12, 19)]) (by decide) rfl ?_
  intro p e s m args below meth c s₁ B hml hv
  obtain ⟨rfl, hR, hK, hX⟩ := hv
  have hts := atoms_spec (ws := Cond.codeWith yL_ofReal cL_ofReal 5 (some .int) [(0, 9, 12, 19)] :: zU) B.pre
  have hTab := vx_table (x := yL_ofReal) B (hts _ List.mem_cons_self)
  have hts : ∀ w ∈ zU, w.before _ s = true := fun w hw => hts w (List.mem_cons_of_mem _ hw)
  have hown : s.vm.findClass RL = some m.cls := findClass_of_methodNamed B.named
  have hx := B.exec
  have hb := B.bytes
  have hr := B.returns
  have hlocks := B.notSynchronized
  have S : CallFix p m c cL_ofReal 5 s ([.ref a0, .long a1, .ref a3] : List Value).toArray zU RL := ⟨hx, hb, hml, hown, hts⟩
  have hw : zW lo g s s.heap [] M := ⟨hR, va_S.rf⟩
  have hl := lv_entry ([.ref a0, .long a1, .ref a3]) (n := 5) (Nat.le_of_ble_eq_true rfl)
  rw [lg_entry_eq]
  generalize (lg_sl ([.ref a0, .long a1, .ref a3]) ++ List.replicate (5 - (lg_sl ([.ref a0, .long a1, .ref a3])).length) Slot.unset).toArray = ls at hl ⊢
  have hl : lv_has ls 5 [(0, .ref a0), (1, .long a1), (3, .ref a3)] := hl
  unfold pL_ofReal at h
  refine lv_aload_n hx hb dL_ofReal_0 rfl (lv_at hl 2 rfl) ?_
  refine lv_iconst (v := (0 : Int32)) hx hb dL_ofReal_1 (by decide) ?_
  refine lv_aload_n hx hb dL_ofReal_2 rfl (lv_at hl 0 rfl) ?_
  refine lv_lload_n hx hb dL_ofReal_3 rfl (lv_at hl 1 rfl) ?_
  obtain ⟨ho, h⟩ := h
  refine zr_VXi (As := [.long a1]) (rest := [.int (0 : Int32), .ref a3]) S hK hX hw (kX6_ofReal l hl9 lo g M a0 a1 _ _ h) (cwV 1 hts (zg_V zv_717 zv_718 zv_719 zu_303 zv_720) rfl rfl rfl (by decide +kernel) ⟨Nat.le_of_ble_eq_true rfl, Nat.le_of_ble_eq_true rfl⟩) (ci := 9) rfl ho rfl hl.1 rfl (Nat.le_of_ble_eq_true rfl) dL_ofReal_4 ⟨Nat.le_of_ble_eq_true rfl, Nat.le_of_ble_eq_true rfl⟩ (fun ce q9 u H locs hpx hz hw hce hcv hcl => ?_) (fun r M1 H locs hw h => ?_)
  · refine vx_catch (own := RL) (name := zxE1) (E := zxE1) hown [] ⟨0, 9, 12, 19⟩ [] (by rw [hTab]; rfl) (fun z hz => nomatch hz) (by decide) (by decide) (hts _ zv_699) (va_Nw.use rfl (hX.2.1 _ (by decide))) hce hcv hcl ?_
    refine lv_astore (lv' := [(4, .ref q9), (0, .ref a0), (1, .long a1), (3, .ref a3)]) hx hb dL_ofReal_12 hl (by decide) rfl (fun ls hl => ?_)
    refine lv_iconst (v := (1 : Int32)) hx hb dL_ofReal_14 (by decide) ?_
    exact vx_ret (zr_ri (post := post) (v := (1 : Int32)) S hr hlocks hw (hpx _ hz) dL_ofReal_15)
  · refine lv_i2l hx hb dL_ofReal_7 rfl ?_
    refine zr_last S hK hw dL_ofReal_8 h (fun M2 H locs hw h => ?_)
    refine lv_goto (tgt := 16) hx hb dL_ofReal_9 (by decide) ?_
    refine lv_iconst (v := (0 : Int32)) hx hb dL_ofReal_16 (by decide) ?_
    exact vx_ret (zr_ri (post := post) (v := (0 : Int32)) S hr hlocks hw h dL_ofReal_17)
set_option maxHeartbeats 4000000 in
set_option maxRecDepth 100000 in
theorem kL_read (l : Launch) (hl9 : l.stackTraces = false) (lo : Nat) (g : zg) (M : zm_M) (a0 : Nat) (a1 : Nat) (post : Int32 → zm_M → Prop) (h : pL_read g.2 a0 a1 post M) : vx_Met l yL_read (Cond.codeWith yL_read cL_read 3 (some .int) [(0, 8, 11, 19)] :: zU) (({ frames := 9, cells := 1, slots := 6, locals := 218 } : Room)) (zx_P zNF zNM lo g M [.ref a0, .ref a1]) (va_Qi post (zc_B lo g) (zA lo)) (fun _ _ _ => False) 1 6 (zA lo) := by
  refine vx_ofWH (cc := cL_read) (maxL := 3) (ret := some .int) (hh := [(0, 8, 11, 19)]) (by decide) rfl ?_
  intro p e s m args below meth c s₁ B hml hv
  obtain ⟨rfl, hR, hK, hX⟩ := hv
  have hts := atoms_spec (ws := Cond.codeWith yL_read cL_read 3 (some .int) [(0, 8, 11, 19)] :: zU) B.pre
  have hTab := vx_table (x := yL_read) B (hts _ List.mem_cons_self)
  have hts : ∀ w ∈ zU, w.before _ s = true := fun w hw => hts w (List.mem_cons_of_mem _ hw)
  have hown : s.vm.findClass RL = some m.cls := findClass_of_methodNamed B.named
  have hx := B.exec
  have hb := B.bytes
  have hr := B.returns
  have hlocks := B.notSynchronized
  have S : CallFix p m c cL_read 3 s ([.ref a0, .ref a1] : List Value).toArray zU RL := ⟨hx, hb, hml, hown, hts⟩
  have hw : zW lo g s s.heap [] M := ⟨hR, va_S.rf⟩
  have hl := lv_entry ([.ref a0, .ref a1]) (n := 3) (Nat.le_of_ble_eq_true rfl)
  rw [lg_entry_eq]
  generalize (lg_sl ([.ref a0, .ref a1]) ++ List.replicate (3 - (lg_sl ([.ref a0, .ref a1])).length) Slot.unset).toArray = ls at hl ⊢
  have hl : lv_has ls 3 [(0, .ref a0), (1, .ref a1)] := hl
  unfold pL_read at h
  refine lv_aload_n hx hb dL_read_0 rfl (lv_at hl 1 rfl) ?_
  refine lv_iconst (v := (0 : Int32)) hx hb dL_read_1 (by decide) ?_
  refine lv_aload_n hx hb dL_read_2 rfl (lv_at hl 0 rfl) ?_
  obtain ⟨ho, h⟩ := h
  refine zr_VXi (As := []) (rest := [.int (0 : Int32), .ref a1]) S hK hX hw (kX6_read l hl9 lo g M a0  _ _ h) (cwV 0 hts (zg_V zv_721 zv_722 zv_723 zu_303 zv_724) rfl rfl rfl (by decide +kernel) ⟨Nat.le_of_ble_eq_true rfl, Nat.le_of_ble_eq_true rfl⟩) (ci := 9) rfl ho rfl hl.1 rfl (Nat.le_of_ble_eq_true rfl) dL_read_3 ⟨Nat.le_of_ble_eq_true rfl, Nat.le_of_ble_eq_true rfl⟩ (fun ce q9 u H locs hpx hz hw hce hcv hcl => ?_) (fun r M1 H locs hw h => ?_)
  · refine vx_catch (own := RL) (name := zxE1) (E := zxE1) hown [] ⟨0, 8, 11, 19⟩ [] (by rw [hTab]; rfl) (fun z hz => nomatch hz) (by decide) (by decide) (hts _ zv_699) (va_Nw.use rfl (hX.2.1 _ (by decide))) hce hcv hcl ?_
    refine lv_astore_n (lv' := [(2, .ref q9), (0, .ref a0), (1, .ref a1)]) hx hb dL_read_11 rfl hl (by decide) rfl (fun ls hl => ?_)
    refine lv_iconst (v := (1 : Int32)) hx hb dL_read_12 (by decide) ?_
    exact vx_ret (zr_ri (post := post) (v := (1 : Int32)) S hr hlocks hw (hpx _ hz) dL_read_13)
  · refine lv_i2l hx hb dL_read_6 rfl ?_
    refine zr_last S hK hw dL_read_7 h (fun M2 H locs hw h => ?_)
    refine lv_goto (tgt := 14) hx hb dL_read_8 (by decide) ?_
    refine lv_iconst (v := (0 : Int32)) hx hb dL_read_14 (by decide) ?_
    exact vx_ret (zr_ri (post := post) (v := (0 : Int32)) S hr hlocks hw h dL_read_15)
