/-! ===== WIDE: subtract, timesPlus, divideBy ===== -/
theorem lN_sh63 {n : Nat} (h : n < 18446744073709551616) : ((lN n).toUInt64 >>> ((63 : Int32).toInt64.toUInt64 &&& Int64.toUInt64 63)).toInt64 = lN (n / 9223372036854775808) := lN_of (by rw [uN_s63, uN_lN h])
theorem lN_sb {a b c : Nat} (ha : a < 4294967296) (hb : b < 4294967296) (hc : c ≤ 1) : lN a - lN b - lN c = lN (if b + c ≤ a then a - b - c else 18446744073709551616 + a - b - c) := by
  refine lN_of ?_
  rw [uN_sub, uN_sub, uN_lNs ha, uN_lNs hb, uN_lNs (by omega)]
  by_cases h : b + c ≤ a
  · rw [if_pos h]; omega
  · rw [if_neg h]; omega
/-- the cell of a Wide whose number doesn't matter -/
theorem q5_subL {G : Nat → ClassId} {post : zm_M → Prop} {k56 : Nat → Int32 → zm_M → Prop} {M0 : zm_M} {w r cap u a ra capa b rb capb va vb n : Nat} (hn : n ≤ cap) (hk : ∀ (M' : zm_M) (f' : Nat → Int32) (c : Nat), zof M0 M' w r → zwd G M' w r cap u f' → zs (fun j => uI (f' j)) n + zs (zdg vb) n = zs (zdg va) n + c * 4294967296 ^ n → k56 w (nI n) M') : ∀ (d i : Nat) (M : zm_M) (f : Nat → Int32) (c : Nat), i + d = n → zof M0 M w r → zwd G M w r cap u f → zrd G M a ra capa va i → zrd G M b rb capb vb i → c ≤ 1 → zs (fun j => uI (f j)) i + zs (zdg vb) i = zs (zdg va) i + c * 4294967296 ^ i → pX5_subtract_11 G post k56 (d + 1) w a b (nI n) (lN c) (nI i) M
  | 0, i, M, f, c, hi, ho, h, h1, h2, hc, he => by
    have hcap := h.2.2.2
    rw [pX5_subtract_11]
    have e : i = n := by omega
    subst e
    exact ⟨fun _ => hk M f c ho h he, fun q => absurd ((nI_leI (by omega) (by omega)).mpr (Nat.le_refl _)) q⟩
  | d + 1, i, M, f, c, hi, ho, h, h1, h2, hc, he => by
    have hcap := h.2.2.2
    have hz1 := zdg_lt va i
    have hz2 := zdg_lt vb i
    rw [pX5_subtract_11]
    refine ⟨fun q => absurd ((nI_leI (by omega) (by omega)).mp q) (by omega), fun _ => ⟨zrd_ob h1, zrd_limb h1 (by omega) ⟨zrd_ob h2, zrd_limb h2 (by omega) (fun x12 e12 => ⟨zwd_ob h, q5_put h (by omega) (fun x14 e14 x15 e15 => ?_)⟩)⟩⟩⟩
    have ex : x12 = lN (if zdg vb i + c ≤ zdg va i then zdg va i - zdg vb i - c else 18446744073709551616 + zdg va i - zdg vb i - c) := by rw [e12, lN_sb hz1 hz2 hc]
    by_cases hb : zdg vb i + c ≤ zdg va i
    · rw [if_pos hb] at ex
      have e14' : x14 = lN 0 := by rw [e14, ex, lN_sh63 (by omega), Nat.div_eq_of_lt (by omega)]
      rw [e14', e15, nI_1]
      refine q5_subL hn hk d (i + 1) _ _ _ (by omega) (zof_t ho zof_r) (zwd_setR h) (zrd_put h1 h _) (zrd_put h2 h _) (by omega) ?_
      rw [zs_upd, ex, uI_lN (by omega), zs_step, zs_step, Nat.mod_eq_of_lt (by omega)]
      have h6 : (zdg va i - zdg vb i - c) * 4294967296 ^ i + zdg vb i * 4294967296 ^ i + c * 4294967296 ^ i = zdg va i * 4294967296 ^ i := by
        rw [← Nat.add_mul, ← Nat.add_mul]
        congr 1
        omega
      omega
    · rw [if_neg hb] at ex
      have e14' : x14 = lN 1 := by
        rw [e14, ex, lN_sh63 (by omega)]
        congr 1
        omega
      rw [e14', e15, nI_1]
      refine q5_subL hn hk d (i + 1) _ _ _ (by omega) (zof_t ho zof_r) (zwd_setR h) (zrd_put h1 h _) (zrd_put h2 h _) (by omega) ?_
      rw [zs_upd, ex, uI_lN (by omega), zs_step, zs_step, Nat.pow_succ]
      have h5 : (18446744073709551616 + zdg va i - zdg vb i - c) % 4294967296 = 4294967296 + zdg va i - zdg vb i - c := by omega
      rw [h5]
      have h6 : (4294967296 + zdg va i - zdg vb i - c) * 4294967296 ^ i + zdg vb i * 4294967296 ^ i + c * 4294967296 ^ i = zdg va i * 4294967296 ^ i + 1 * (4294967296 ^ i * 4294967296) := by
        rw [← Nat.add_mul, ← Nat.add_mul, Nat.one_mul, Nat.mul_comm (4294967296 ^ i) 4294967296, ← Nat.add_mul]
        congr 1
        omega
      omega
theorem zwv_used {G : Nat → ClassId} {M : zm_M} {a ra capa v cap : Nat} (ha : zwv G M a ra capa v) (hv : v < 4294967296 ^ cap) : ∃ (u : Nat) (f : Nat → Int32), zwd G M a ra capa u f ∧ v = zs (fun i => uI (f i)) u ∧ (0 < u → f (u - 1) ≠ 0) ∧ u ≤ cap ∧ v < 4294967296 ^ u := by
  obtain ⟨ua, fa, ha, hva, hta⟩ := ha
  refine ⟨ua, fa, ha, hva, hta, ?_, by rw [hva]; exact zs_lt (fun i _ => uI_lt _)⟩
  rcases Nat.lt_or_ge cap ua with q | q
  · have h1 := zs_top (d := fun i => uI (fa i)) (u := ua) (by omega) (fun z => hta (by omega) (uI_z.mpr z))
    have h2 : 4294967296 ^ cap ≤ 4294967296 ^ (ua - 1) := Nat.pow_le_pow_right (by decide) (by omega)
    rw [hva] at hv
    omega
  · exact q
theorem q5_subtract {G : Nat → ClassId} {M : zm_M} {w r cap u a ra capa b rb capb va vb : Nat} {f : Nat → Int32} (h : zwd G M w r cap u f) (ha : zwv G M a ra capa va) (hb : zwv G M b rb capb vb) (hle : vb ≤ va) (hs : va < 4294967296 ^ cap) {post : zm_M → Prop} (hp : ∀ M', zof M M' w r → zwv G M' w r cap (va - vb) → post M') : pX5_subtract G w a b post M := by
  have ha0 := ha
  obtain ⟨n, fa, ha, hva, hta, hn, hvn⟩ := zwv_used ha hs
  unfold pX5_subtract
  refine ⟨_, _, ha.1, rfl, fun x2 e2 x3 e3 => ⟨n + 1, ?_⟩⟩
  have e2' : x2 = lN 0 := e2
  rw [e2', e3]
  refine q5_subL (M0 := M) (u := u) (va := va) (vb := vb) (n := n) (ra := ra) (capa := capa) (rb := rb) (capb := capb) hn (fun M' f' c ho h' he => ?_) n 0 M f 0 (by omega) zof_rf h (zrd_of ha0) (zrd_of hb) (by decide) rfl
  rw [zs_zdg' hvn, zs_zdg' (show vb < 4294967296 ^ n by omega)] at he
  have hl := zs_lt (d := fun j => uI (f' j)) (n := n) (fun i _ => uI_lt _)
  have hc0 : c = 0 := by
    rcases Nat.eq_zero_or_pos c with q | q
    · exact q
    · have : 1 * 4294967296 ^ n ≤ c * 4294967296 ^ n := Nat.mul_le_mul_right _ q
      omega
  rw [hc0, Nat.zero_mul, Nat.add_zero] at he
  refine ⟨zwd_ob h', q5_trim h' hn (fun M'' h2 h3 => hp M'' (zof_t ho h2) ?_)⟩
  rw [show zs (fun i => uI (f' i)) n = va - vb by omega] at h3
  exact h3
/-- timesPlus -/
theorem q5_tpL {G : Nat → ClassId} {post : zm_M → Prop} {k63 : Nat → Int32 → zm_M → Prop} {M0 : zm_M} {w r cap u v n q m0 : Nat} (hq : q < 2 ^ 31) (hn : n ≤ cap) (hk : ∀ (M' : zm_M) (f' : Nat → Int32) (c : Nat), zof M0 M' w r → zwd G M' w r cap u f' → zs (fun j => uI (f' j)) n + c * 4294967296 ^ n = zs (zdg v) n * q + m0 → k63 w (nI n) M') : ∀ (d i : Nat) (M : zm_M) (f : Nat → Int32) (c : Nat), i + d = n → zof M0 M w r → zwd G M w r cap u f → zrd G M w r cap v i → c < 2 ^ 31 → zs (fun j => uI (f j)) i + c * 4294967296 ^ i = zs (zdg v) i * q + m0 → pX5_timesPlus_22 G post k63 (d + 1) w (nI q) (nI n) (lN c) (nI i) M
  | 0, i, M, f, c, hi, ho, h, h1, hc, he => by
    have hcap := h.2.2.2
    rw [pX5_timesPlus_22]
    have e : i = n := by omega
    subst e
    exact ⟨fun _ => hk M f c ho h he, fun q => absurd ((nI_leI (by omega) (by omega)).mpr (Nat.le_refl _)) q⟩
  | d + 1, i, M, f, c, hi, ho, h, h1, hc, he => by
    have hcap := h.2.2.2
    have hz1 := zdg_lt v i
    have hb : zdg v i * q ≤ 4294967295 * q := Nat.mul_le_mul_right _ (by omega)
    rw [pX5_timesPlus_22]
    refine ⟨fun q => absurd ((nI_leI (by omega) (by omega)).mp q) (by omega), fun _ => ⟨zrd_ob h1, zrd_limb h1 (by omega) (fun x9 e9 => ⟨zwd_ob h, q5_put h (by omega) (fun x14 e14 x15 e15 => ?_)⟩)⟩⟩
    have ex : x9 = lN (zdg v i * q + c) := by rw [e9, nI_l hq, lN_mul, lN_add]
    have e14' : x14 = lN ((zdg v i * q + c) / 4294967296) := by rw [e14, ex, lN_sh32 (by omega)]
    rw [e14', e15, nI_1]
    refine q5_tpL hq hn hk d (i + 1) _ _ _ (by omega) (zof_t ho zof_r) (zwd_setR h) (zrd_put h1 h _) (by omega) ?_
    rw [zs_upd, ex, uI_lN (by omega), zs_step, Nat.pow_succ, Nat.add_mul]
    have h5 : (zdg v i * q + c) / 4294967296 * (4294967296 ^ i * 4294967296) + (zdg v i * q + c) % 4294967296 * 4294967296 ^ i = (zdg v i * q + c) * 4294967296 ^ i := by
      rw [Nat.mul_comm (4294967296 ^ i) 4294967296, ← Nat.mul_assoc, ← Nat.add_mul]
      congr 1
      omega
    have h6 : (zdg v i * q + c) * 4294967296 ^ i = zdg v i * 4294967296 ^ i * q + c * 4294967296 ^ i := by
      rw [Nat.add_mul, Nat.mul_right_comm]
    omega
theorem q5_timesPlus {G : Nat → ClassId} {M : zm_M} {w r cap v q m0 : Nat} (h : zwv G M w r cap v) (hq : q < 2 ^ 31) (hm : m0 < 2 ^ 31) (hs : v * q + m0 < 4294967296 ^ cap) {post : zm_M → Prop} (hp : ∀ M', zof M M' w r → zwv G M' w r cap (v * q + m0) → post M') : pX5_timesPlus G w (nI q) (nI m0) post M := by
  have hv0 := h
  obtain ⟨u, f, h, hv, ht⟩ := h
  have hc := h.2.2.2
  have hu := h.2.2.1
  have hvl : v < 4294967296 ^ u := by rw [hv]; exact zs_lt (fun i _ => uI_lt _)
  obtain ⟨n, hn1, hn2, hnv, hns⟩ : ∃ n, (if nI cap < (nI u + (1 : Int32)) then nI cap else (nI u + (1 : Int32))) = nI n ∧ n ≤ cap ∧ v < 4294967296 ^ n ∧ v * q + m0 < 4294967296 ^ n := by
    rw [nI_1]
    by_cases z : cap < u + 1
    · rw [if_pos (nI_lt z (by omega))]
      refine ⟨cap, rfl, Nat.le_refl _, ?_, hs⟩
      exact Nat.lt_of_lt_of_le hvl (Nat.pow_le_pow_right (by decide) hu)
    · rw [if_neg (nI_nlt (by omega) (by omega))]
      have p3 : 4294967296 ^ (u + 1) = 4294967296 ^ u * 4294967296 := Nat.pow_succ _ _
      have p4 : v * q ≤ v * 2147483647 := Nat.mul_le_mul_left _ (by omega)
      exact ⟨u + 1, rfl, by omega, by omega, by omega⟩
  unfold pX5_timesPlus
  refine ⟨_, _, h.1, rfl, _, _, h.1, rfl, _, h.2.1, fun x4 e4 x5 e5 x6 e6 => ⟨n + 1, ?_⟩⟩
  have e4' : x4 = nI n := e4.trans hn1
  have e5' : x5 = lN m0 := by rw [e5, nI_l hm]
  rw [e4', e5', e6]
  refine q5_tpL (m0 := m0) (M0 := M) (u := u) (v := v) (n := n) hq hn2 (fun M' f' c ho h' he => ?_) n 0 M f m0 (by omega) zof_rf h (zrd_of hv0) hm (by show 0 + m0 * 4294967296 ^ 0 = 0 * q + m0; omega)
  rw [zs_zdg' hnv] at he
  have hc0 : c = 0 := by
    rcases Nat.eq_zero_or_pos c with z | z
    · exact z
    · have : 1 * 4294967296 ^ n ≤ c * 4294967296 ^ n := Nat.mul_le_mul_right _ z
      omega
  rw [hc0, Nat.zero_mul, Nat.add_zero] at he
  refine ⟨zwd_ob h', q5_trim h' hn2 (fun M'' h2 h3 => hp M'' (zof_t ho h2) ?_)⟩
  rw [he] at h3
  exact h3
