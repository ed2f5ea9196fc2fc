/-! ===== WIDE: copy, order, add, subtract, timesPlus ===== -/
/-- a Wide of which the digits from i on are those of v (those below may have been written over) -/
def zrd (G : Nat → ClassId) (M : zm_M) (w r cap v i : Nat) : Prop := ∃ (u : Nat) (f : Nat → Int32), zwd G M w r cap u f ∧ ∀ j, i ≤ j → zld u f (j : Int) = zdg v j
theorem zrd_of {G : Nat → ClassId} {M : zm_M} {w r cap v i : Nat} (h : zwv G M w r cap v) : zrd G M w r cap v i := by
  obtain ⟨u, f, h, hv, -⟩ := h
  exact ⟨u, f, h, fun j _ => by rw [zld_v, ← hv]⟩
theorem zrd_ob {G : Nat → ClassId} {M : zm_M} {w r cap v i : Nat} (h : zrd G M w r cap v i) : zw_ob M w 8 := by
  obtain ⟨u, f, h, -⟩ := h
  exact zwd_ob h
theorem zrd_limb {G : Nat → ClassId} {M : zm_M} {w r cap v i : Nat} (h : zrd G M w r cap v i) (hi : i < 2 ^ 31) {post : Int64 → zm_M → Prop} (hp : post (lN (zdg v i)) M) : pX5_limbAt G w (nI i) post M := by
  obtain ⟨u, f, h, hd⟩ := h
  refine q5_limb0 h ?_
  rw [nI_toInt hi, hd i (Nat.le_refl _)]
  exact hp
theorem zrd_put {G : Nat → ClassId} {M : zm_M} {w r cap v i t rt capt ut : Nat} {ft : Nat → Int32} (h : zrd G M w r cap v i) (ht : zwd G M t rt capt ut ft) (x : Int32) : zrd G (zm_set M rt (.inl (G 0, (capt, .inl (upd ft i x))))) w r cap v (i + 1) := by
  obtain ⟨u, f, h, hd⟩ := h
  have hw : w ≠ rt := fun e => by
    have h1 := h.1
    rw [e, ht.2.1] at h1
    cases h1
  by_cases hr : r = rt
  · subst hr
    have h1 := h.2.1
    rw [ht.2.1] at h1
    cases h1
    refine ⟨u, upd ft i x, zwd_setR h, fun j hj => ?_⟩
    rw [← hd j (by omega)]
    unfold zld
    by_cases hc : (j : Int) < 0 ∨ (u : Int) ≤ j
    · rw [if_pos hc, if_pos hc]
    · rw [if_neg hc, if_neg hc]
      show uI (upd ft i x j) = uI (ft j)
      rw [pk_un (by omega)]
  · exact ⟨u, f, zwd_kept h (zm_set_n _ _ hw) (zm_set_n _ _ hr), fun j hj => hd j (by omega)⟩
theorem zs_step {d : Nat → Nat} {n : Nat} : zs d (n + 1) = zs d n + d n * 4294967296 ^ n := rfl
theorem zs_upd {f : Nat → Int32} {i : Nat} {x : Int32} : zs (fun j => uI (upd f i x j)) (i + 1) = zs (fun j => uI (f j)) i + uI x * 4294967296 ^ i := by
  rw [zs_step, zs_congr (d' := fun j => uI (f j)) (fun j hj => by rw [pk_un (by omega)]), pk_us]
theorem nI_ge2 {a b : Nat} (ha : a < 2 ^ 31) (hb : b < 2 ^ 31) : nI a ≤ nI b ↔ a ≤ b := nI_leI ha hb
theorem uN_lNs {n : Nat} (h : n < 4294967296) : uN (lN n) = n := uN_lN (by omega)
theorem lN_sh32 {n : Nat} (h : n < 18446744073709551616) : ((lN n).toUInt64 >>> ((32 : Int32).toInt64.toUInt64 &&& Int64.toUInt64 63)).toInt64 = lN (n / 4294967296) := lN_of (by rw [uN_s32, uN_lN h])
theorem uI_lN {n : Nat} (h : n < 18446744073709551616) : uI (lN n).toInt32 = n % 4294967296 := by rw [uI_l, uN_lN h]
theorem zwv_lt {G : Nat → ClassId} {M : zm_M} {w r cap v : Nat} (h : zwv G M w r cap v) : v < 4294967296 ^ cap := by
  obtain ⟨u, f, h, hv, -⟩ := h
  rw [hv]
  exact Nat.lt_of_lt_of_le (zs_lt (fun i _ => uI_lt _)) (Nat.pow_le_pow_right (by decide) h.2.2.1)
theorem zs_zdg' {v n : Nat} (h : v < 4294967296 ^ n) : zs (zdg v) n = v := by rw [zs_zdg, Nat.mod_eq_of_lt h]
/-- copy -/
theorem q5_copy {G : Nat → ClassId} {M : zm_M} {w r cap u a ra capa v : Nat} {f : Nat → Int32} (h : zwd G M w r cap u f) (ha : zwv G M a ra capa v) (hv : v < 4294967296 ^ cap) {post : zm_M → Prop} (hp : ∀ M', zof M M' w r → zwv G M' w r cap v → post M') : pX5_copy G w a post M := by
  obtain ⟨ua, fa, ha, hva, hta⟩ := ha
  have hc := h.2.2.2
  have hca := ha.2.2.2
  have hua : ua ≤ cap := by
    rcases Nat.lt_or_ge cap ua with q | q
    · have h1 := zs_top (d := fun i => uI (fa i)) (u := ua) (by omega) (fun z => hta (by omega) (uI_z.mpr z))
      have h2 : 4294967296 ^ cap ≤ 4294967296 ^ (ua - 1) := Nat.pow_le_pow_right (by decide) (by omega)
      rw [hva] at hv
      omega
    · exact q
  have hx : ∀ x : Int32, x = (if nI cap < nI ua then nI cap else nI ua) → x = nI ua := fun x hx => by rw [hx, if_neg (nI_nlt hua (by omega))]
  have hua2 := ha.2.2.1
  unfold pX5_copy
  refine ⟨_, _, ha.1, rfl, _, _, h.1, rfl, _, h.2.1, fun x4 e4 => ⟨_, _, ha.1, rfl, _, _, h.1, rfl, capa, cap, fa, f, ha.2.1, h.2.1, by decide, by decide, ?_, ?_, ?_, ?_⟩⟩
  · rw [hx x4 e4]; exact nI_pos (by omega)
  · rw [hx x4 e4, nI_clamp (by omega)]; show 0 + ua ≤ capa; omega
  · rw [hx x4 e4, nI_clamp (by omega)]; show 0 + ua ≤ cap; omega
  · rw [hx x4 e4, nI_clamp (by omega)]
    have h1 : zwd G (zm_set M r (.inl (G 0, (cap, .inl (va_cpy fa f (0 : Int32).toNatClampNeg (0 : Int32).toNatClampNeg ua))))) w r cap u (va_cpy fa f (0 : Int32).toNatClampNeg (0 : Int32).toNatClampNeg ua) := zwd_setR h
    refine ⟨zwd_ob h1, q5_trim h1 hua (fun M' h2 h3 => hp M' (zof_t zof_r h2) ?_)⟩
    rw [hva, ← zs_congr (d := fun i => uI (va_cpy fa f (0 : Int32).toNatClampNeg (0 : Int32).toNatClampNeg ua i)) (fun i hi => by rw [sb_cl0, sb_cpy0 hi])]
    exact h3
/-- order -/
theorem q5_orderL {G : Nat → ClassId} {M : zm_M} {w r cap v a ra capa va : Nat} (h : zwv G M w r cap v) (ha : zwv G M a ra capa va) {post : Int32 → zm_M → Prop} {k53 : Nat → Nat → Int32 → zm_M → Prop} (h0 : v = va → post 0 M) (h1 : ∀ k, k < 2 ^ 31 → zdg v k ≠ zdg va k → (zdg v k < zdg va k → v < va) → (zdg va k < zdg v k → va < v) → k53 w a (nI k) M) : ∀ j : Nat, j < 2 ^ 31 → (∀ i, j ≤ i → zdg v i = zdg va i) → pX5_order_35 G post k53 (j + 1) w a (nI j - 1) M
  | 0, _, he => by
    rw [pX5_order_35]
    exact ⟨fun _ => h0 (zdg_ext (fun i => he i (Nat.zero_le _))), fun hc => absurd (show nI 0 - 1 < 0 by decide) hc⟩
  | j + 1, hj, he => by
    rw [pX5_order_35, nI_pred]
    refine ⟨fun hc => absurd hc (nI_pos (by omega)), fun _ => ⟨zwv_ob h, q5_limb h (by omega) ⟨zwv_ob ha, q5_limb ha (by omega) ⟨fun e x9 e9 => ?_, fun e => ?_⟩⟩⟩⟩
    · have e1 : zdg v j = zdg va j := by
        have := (uN_eq.mp e)
        rw [uN_lNs (zdg_lt _ _), uN_lNs (zdg_lt _ _)] at this
        exact this
      have e2 : x9 = nI j - 1 := by rw [e9]; exact (Int32.sub_eq_add_neg _ _).symm
      rw [e2]
      refine q5_orderL h ha h0 h1 j (by omega) (fun i hi => ?_)
      by_cases hij : i = j
      · rw [hij]; exact e1
      · exact he i (by omega)
    · have e1 : zdg v j ≠ zdg va j := fun q => e (by rw [q])
      exact h1 j (by omega) e1 (fun q => zdg_cmp (fun i hi => he i (by omega)) q) (fun q => zdg_cmp (fun i hi => (he i (by omega)).symm) q)
theorem q5_order {G : Nat → ClassId} {M : zm_M} {w r cap v a ra capa va : Nat} (h : zwv G M w r cap v) (ha : zwv G M a ra capa va) {post : Int32 → zm_M → Prop} (hp : post (if v < va then -1 else if v = va then 0 else 1) M) : pX5_order G w a post M := by
  have hv0 := h
  have ha0 := ha
  obtain ⟨u, f, h, hv, ht⟩ := h
  obtain ⟨ua, fa, ha, hva, hta⟩ := ha
  have hc := h.2.2.2
  have hu := h.2.2.1
  have hca := ha.2.2.2
  have hua := ha.2.2.1
  have hue : nI u = nI ua ↔ u = ua := nI_eq (by omega) (by omega)
  have hbig : ∀ {u u' : Nat} {f f' : Nat → Int32}, (0 < u' → f' (u' - 1) ≠ 0) → u < u' → zs (fun i => uI (f i)) u < zs (fun i => uI (f' i)) u' := by
    intro u u' f f' ht' hlt
    have h1 := zs_top (d := fun i => uI (f' i)) (u := u') (by omega) (fun q => ht' (by omega) (uI_z.mpr q))
    have h2 := zs_lt (d := fun i => uI (f i)) (n := u) (fun i _ => uI_lt _)
    have h3 : 4294967296 ^ u ≤ 4294967296 ^ (u' - 1) := Nat.pow_le_pow_right (by decide) (by omega)
    omega
  have p1 : va < v → post 1 M := fun q => by
    rw [if_neg (by omega), if_neg (by omega)] at hp
    exact hp
  have pm : v < va → post (-1) M := fun q => by
    rw [if_pos q] at hp
    exact hp
  have p0 : v = va → post 0 M := fun q => by
    rw [if_neg (by omega), if_pos q] at hp
    exact hp
  unfold pX5_order
  refine ⟨_, _, h.1, rfl, _, _, ha.1, rfl, fun e => ⟨_, _, h.1, rfl, fun x4 e4 => ⟨u + 1, ?_⟩⟩, fun e => ⟨_, _, h.1, rfl, _, _, ha.1, rfl, fun h1 => ?_, fun h1 => ?_⟩⟩
  · rw [e4]
    have hkk : ∀ k, k < 2 ^ 31 → zdg v k ≠ zdg va k → (zdg v k < zdg va k → v < va) → (zdg va k < zdg v k → va < v) → zw_ob M w 8 ∧ pX5_limbAt G w (nI k) (fun r15 M14 => zw_ob M14 a 8 ∧ pX5_limbAt G a (nI k) (fun r17 M16 => (r17 ≤ r15 → post (1 : Int32) M16) ∧ (¬ r17 ≤ r15 → post (-1 : Int32) M16)) M14) M := by
      intro k hk hne h1 h2
      have hle : lN (zdg va k) ≤ lN (zdg v k) ↔ zdg va k ≤ zdg v k := by
        have b1 := zdg_lt va k
        have b2 := zdg_lt v k
        rw [uN_le' (by rw [uN_lNs b1]; omega) (by rw [uN_lNs b2]; omega), uN_lNs b1, uN_lNs b2]
      refine ⟨zwv_ob hv0, q5_limb hv0 hk ⟨zwv_ob ha0, q5_limb ha0 hk ⟨fun h3 => ?_, fun h3 => ?_⟩⟩⟩
      · have h4 := hle.mp h3
        exact p1 (h2 (by omega))
      · have h4 : ¬ zdg va k ≤ zdg v k := fun q => h3 (hle.mpr q)
        exact pm (h1 (by omega))
    have hee : ∀ i, u ≤ i → zdg v i = zdg va i := by
      intro i hi
      have e1 := hue.mp e
      have z1 := zld_v (u := u) (f := f) i
      have z2 := zld_v (u := ua) (f := fa) i
      rw [← hv] at z1
      rw [← hva] at z2
      rw [← z1, ← z2]
      unfold zld
      rw [if_pos (by omega), if_pos (by omega)]
    exact q5_orderL hv0 ha0 p0 hkk u (by omega) hee
  · have h2 := (nI_leI (by omega) (by omega)).mp h1
    have h3 : u ≠ ua := fun q => e (hue.mpr q)
    refine p1 ?_
    rw [hv, hva]
    exact hbig ht (by omega)
  · have h2 : ¬ ua ≤ u := fun q => h1 ((nI_leI (by omega) (by omega)).mpr q)
    refine pm ?_
    rw [hv, hva]
    exact hbig hta (by omega)
/-- add -/
theorem q5_addL {G : Nat → ClassId} {post : zm_M → Prop} {k70 : Nat → Int32 → zm_M → Prop} {M0 : zm_M} {w r cap u a ra capa v va n : Nat} (hn : n ≤ cap) (hk : ∀ (M' : zm_M) (f' : Nat → Int32) (c : Nat), zof M0 M' w r → zwd G M' w r cap u f' → zs (fun j => uI (f' j)) n + c * 4294967296 ^ n = zs (zdg v) n + zs (zdg va) n → k70 w (nI n) M') : ∀ (d i : Nat) (M : zm_M) (f : Nat → Int32) (c : Nat), i + d = n → zof M0 M w r → zwd G M w r cap u f → zrd G M w r cap v i → zrd G M a ra capa va i → c ≤ 1 → zs (fun j => uI (f j)) i + c * 4294967296 ^ i = zs (zdg v) i + zs (zdg va) i → pX5_add_27 G post k70 (d + 1) w a (nI n) (lN c) (nI i) M
  | 0, i, M, f, c, hi, ho, h, h1, h2, hc, he => by
    have hcap := h.2.2.2
    rw [pX5_add_27]
    have e : i = n := by omega
    subst e
    exact ⟨fun _ => hk M f c ho h he, fun q => absurd ((nI_leI (by omega) (by omega)).mpr (Nat.le_refl _)) q⟩
  | d + 1, i, M, f, c, hi, ho, h, h1, h2, hc, he => by
    have hcap := h.2.2.2
    have hz1 := zdg_lt v i
    have hz2 := zdg_lt va i
    rw [pX5_add_27]
    refine ⟨fun q => absurd ((nI_leI (by omega) (by omega)).mp q) (by omega), fun _ => ⟨zrd_ob h1, zrd_limb h1 (by omega) ⟨zrd_ob h2, zrd_limb h2 (by omega) (fun x12 e12 => ⟨zwd_ob h, q5_put h (by omega) (fun x14 e14 x15 e15 => ?_)⟩)⟩⟩⟩
    have ex : x12 = lN (zdg v i + zdg va i + c) := by rw [e12, lN_add, lN_add]
    have e14' : x14 = lN ((zdg v i + zdg va i + c) / 4294967296) := by rw [e14, ex, lN_sh32 (by omega)]
    rw [e14', e15, nI_1]
    refine q5_addL hn hk d (i + 1) _ _ _ (by omega) (zof_t ho zof_r) (zwd_setR h) (zrd_put h1 h _) (zrd_put h2 h _) (by omega) ?_
    rw [zs_upd, ex, uI_lN (by omega), zs_step, zs_step, Nat.pow_succ]
    have h5 : (zdg v i + zdg va i + c) / 4294967296 * (4294967296 ^ i * 4294967296) + (zdg v i + zdg va i + c) % 4294967296 * 4294967296 ^ i = (zdg v i + zdg va i + c) * 4294967296 ^ i := by
      rw [Nat.mul_comm (4294967296 ^ i) 4294967296, ← Nat.mul_assoc, ← Nat.add_mul]
      congr 1
      omega
    have h6 : (zdg v i + zdg va i + c) * 4294967296 ^ i = zdg v i * 4294967296 ^ i + zdg va i * 4294967296 ^ i + c * 4294967296 ^ i := by rw [Nat.add_mul, Nat.add_mul]
    omega
theorem q5_add {G : Nat → ClassId} {M : zm_M} {w r cap a ra capa v va : Nat} (h : zwv G M w r cap v) (ha : zwv G M a ra capa va) (hs : v + va < 4294967296 ^ cap) {post : zm_M → Prop} (hp : ∀ M', zof M M' w r → zwv G M' w r cap (v + va) → post M') : pX5_add G w a post M := by
  have hv0 := h
  have ha0 := ha
  obtain ⟨u, f, h, hv, ht⟩ := h
  obtain ⟨ua, fa, ha, hva, hta⟩ := ha
  have hc := h.2.2.2
  have hu := h.2.2.1
  have hca := ha.2.2.2
  have hua := ha.2.2.1
  have hvl : v < 4294967296 ^ u := by rw [hv]; exact zs_lt (fun i _ => uI_lt _)
  have hval : va < 4294967296 ^ ua := by rw [hva]; exact zs_lt (fun i _ => uI_lt _)
  obtain ⟨n, hn1, hn2, hnv, hnva, hns⟩ : ∃ n, (if nI cap < ((if nI u < nI ua then nI ua else nI u) + (1 : Int32)) then nI cap else ((if nI u < nI ua then nI ua else nI u) + (1 : Int32))) = nI n ∧ n ≤ cap ∧ v < 4294967296 ^ n ∧ va < 4294967296 ^ n ∧ v + va < 4294967296 ^ n := by
    have hmx : (if nI u < nI ua then nI ua else nI u) = nI (max u ua) := by
      by_cases q : u < ua
      · rw [if_pos (nI_lt q (by omega)), Nat.max_eq_right (by omega)]
      · rw [if_neg (nI_nlt (by omega) (by omega)), Nat.max_eq_left (by omega)]
    rw [hmx, nI_1]
    have m1 : u ≤ max u ua := Nat.le_max_left _ _
    have m2 : ua ≤ max u ua := Nat.le_max_right _ _
    by_cases q : cap < max u ua + 1
    · rw [if_pos (nI_lt q (by omega))]
      exact ⟨cap, rfl, Nat.le_refl _, by omega, by omega, hs⟩
    · rw [if_neg (nI_nlt (by omega) (by omega))]
      have p1 : 4294967296 ^ u ≤ 4294967296 ^ (max u ua) := Nat.pow_le_pow_right (by decide) m1
      have p2 : 4294967296 ^ ua ≤ 4294967296 ^ (max u ua) := Nat.pow_le_pow_right (by decide) m2
      have p3 : 4294967296 ^ (max u ua + 1) = 4294967296 ^ (max u ua) * 4294967296 := Nat.pow_succ _ _
      exact ⟨max u ua + 1, rfl, by omega, by omega, by omega, by omega⟩
  unfold pX5_add
  refine ⟨_, _, h.1, rfl, _, _, ha.1, rfl, _, _, h.1, rfl, _, h.2.1, fun x5 e5 x6 e6 x7 e7 => ⟨n + 1, ?_⟩⟩
  have e5' : x5 = nI n := e5.trans hn1
  have e6' : x6 = lN 0 := e6
  rw [e5', e6', e7]
  refine q5_addL (M0 := M) (u := u) (v := v) (va := va) (n := n) (ra := ra) (capa := capa) hn2 (fun M' f' c ho h' he => ?_) n 0 M f 0 (by omega) zof_rf h (zrd_of hv0) (zrd_of ha0) (by decide) rfl
  rw [zs_zdg' hnv, zs_zdg' hnva] at he
  have hc0 : c = 0 := by
    rcases Nat.eq_zero_or_pos c with q | q
    · exact q
    · have : 1 * 4294967296 ^ n ≤ c * 4294967296 ^ n := Nat.mul_le_mul_right _ q
      omega
  rw [hc0, Nat.zero_mul, Nat.add_zero] at he
  refine ⟨zwd_ob h', q5_trim h' hn2 (fun M'' h2 h3 => hp M'' (zof_t ho h2) ?_)⟩
  rw [he] at h3
  exact h3
