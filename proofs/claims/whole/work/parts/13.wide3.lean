/-! ===== digits: the same digits make the same number; the highest differing one decides ===== -/
theorem zdg_div (v i j : Nat) : zdg (v / 4294967296 ^ i) j = zdg v (i + j) := by
  unfold zdg
  rw [Nat.div_div_eq_div_mul, ← Nat.pow_add]
theorem zdg_ext {v v' : Nat} (h : ∀ i, zdg v i = zdg v' i) : v = v' := by
  have hb : ∀ n : Nat, n < 4294967296 ^ n := fun n => Nat.lt_pow_self (by decide)
  have h1 : zs (zdg v) (v + v') = zs (zdg v') (v + v') := zs_congr (fun i _ => h i)
  rw [zs_zdg, zs_zdg] at h1
  have h2 := hb (v + v')
  rw [Nat.mod_eq_of_lt (by omega), Nat.mod_eq_of_lt (by omega)] at h1
  exact h1
theorem zdg_hi {v v' k : Nat} (h : ∀ i, k ≤ i → zdg v i = zdg v' i) : v / 4294967296 ^ k = v' / 4294967296 ^ k := zdg_ext (fun i => by rw [zdg_div, zdg_div]; exact h _ (by omega))
theorem zdg_step (v k : Nat) : v / 4294967296 ^ k = v / 4294967296 ^ (k + 1) * 4294967296 + zdg v k := by
  unfold zdg
  rw [Nat.pow_succ, ← Nat.div_div_eq_div_mul]
  omega
theorem zdg_cmp {v v' k : Nat} (h : ∀ i, k < i → zdg v i = zdg v' i) (hlt : zdg v k < zdg v' k) : v < v' := by
  have h1 := zdg_hi (k := k + 1) (v := v) (v' := v') (fun i hi => h i (by omega))
  have h2 := zdg_step v k
  have h3 := zdg_step v' k
  have hp : 0 < 4294967296 ^ k := Nat.pow_pos (by decide)
  have h4 : v / 4294967296 ^ k < v' / 4294967296 ^ k := by omega
  exact Nat.lt_of_not_le fun hle => Nat.not_le.mpr h4 (Nat.div_le_div_right hle)
/-! ===== leading zeros, bits ===== -/
theorem zI_dn {a k : Nat} (h : k ≤ a) {c : Int32} (hc : c = -(nI k)) : nI a + c = nI (a - k) := by
  rw [hc, ← Int32.sub_eq_add_neg, pk_sub h]
theorem qJ_nlz48 {G : Nat → ClassId} {M : zm_M} {y n : Int32} {post : Int32 → zm_M → Prop} {X a : Nat} (hy : uI y = X) (hX : 0 < X) (hX2 : X < 256) (hn : n = nI (a + 1)) (hp : post (nI (a + 2 - zbl X)) M) (ha : zbl X ≤ a + 2) (ha1 : 6 ≤ a) (ha2 : a < 100) : pJ6_numberOfLeadingZeros_0f7a4_48 G post y n M := by
  unfold pJ6_numberOfLeadingZeros_0f7a4_48
  have hlt : y < (16 : Int32) ↔ X < 16 := by
    have := i32_lt' (x := y) (n := 16) (by decide) (by omega)
    rw [hy] at this
    exact this
  refine ⟨fun h => qJ_nlz61 hy hX (hlt.mp h) hn hp ha ha2, fun h x4 e4 x5 e5 => ?_⟩
  have h4 : ¬ X < 16 := fun q => h (hlt.mpr q)
  have hb : zbl X = zbl (X / 16) + 4 := zbl_shr (k := 4) (by omega)
  refine qJ_nlz61 (X := X / 16) (a := a - 4) ?_ (by omega) (by omega) ?_ ?_ (by omega) (by omega)
  · rw [e5, uI_ush y (k := 4) 4 (by decide), hy]
  · rw [e4, hn, zI_dn (k := 4) (by omega) (by decide)]
    congr 1
    omega
  · rw [hb] at hp
    rw [show a - 4 + 2 - zbl (X / 16) = a + 2 - (zbl (X / 16) + 4) by omega]
    exact hp
theorem qJ_nlz33 {G : Nat → ClassId} {M : zm_M} {y n : Int32} {post : Int32 → zm_M → Prop} {X a : Nat} (hy : uI y = X) (hX : 0 < X) (hX2 : X < 65536) (hn : n = nI (a + 1)) (hp : post (nI (a + 2 - zbl X)) M) (ha : zbl X ≤ a + 2) (ha1 : 14 ≤ a) (ha2 : a < 100) : pJ6_numberOfLeadingZeros_0f7a4_33 G post y n M := by
  unfold pJ6_numberOfLeadingZeros_0f7a4_33
  have hlt : y < (256 : Int32) ↔ X < 256 := by
    have := i32_lt' (x := y) (n := 256) (by decide) (by omega)
    rw [hy] at this
    exact this
  refine ⟨fun h => qJ_nlz48 hy hX (hlt.mp h) hn hp ha (by omega) ha2, fun h x4 e4 x5 e5 => ?_⟩
  have h4 : ¬ X < 256 := fun q => h (hlt.mpr q)
  have hb : zbl X = zbl (X / 256) + 8 := zbl_shr (k := 8) (by omega)
  refine qJ_nlz48 (X := X / 256) (a := a - 8) ?_ (by omega) (by omega) ?_ ?_ (by omega) (by omega) (by omega)
  · rw [e5, uI_ush y (k := 8) 8 (by decide), hy]
  · rw [e4, hn, zI_dn (k := 8) (by omega) (by decide)]
    congr 1
    omega
  · rw [hb] at hp
    rw [show a - 8 + 2 - zbl (X / 256) = a + 2 - (zbl (X / 256) + 8) by omega]
    exact hp
theorem qJ_nlz {G : Nat → ClassId} {M : zm_M} {y : Int32} {post : Int32 → zm_M → Prop} (hp : post (nI (32 - zbl (uI y))) M) : pJ6_numberOfLeadingZeros_0f7a4 G y post M := by
  unfold pJ6_numberOfLeadingZeros_0f7a4
  have hl := uI_lt y
  have hi := uI_int y
  refine ⟨fun h x1 e1 => ?_, fun h => ⟨fun h1 => ?_, fun h1 => ?_⟩⟩
  · have h0 : (0 : Int) < y.toInt := Int32.lt_iff_toInt_lt.mp h
    have h2 : uI y < 2147483648 := by
      by_cases hc : 2 * uI y < 4294967296
      · omega
      · rw [if_neg hc] at hi; omega
    rw [if_pos (by omega)] at hi
    have hb : zbl (uI y) ≤ 31 := zbl_le.mpr h2
    have hlt : y < (65536 : Int32) ↔ uI y < 65536 := i32_lt' (x := y) (n := 65536) (by decide) h2
    refine ⟨fun h3 => qJ_nlz33 (a := 30) rfl (by omega) (hlt.mp h3) e1 hp (by omega) (by decide) (by decide), fun h3 x8 e8 x9 e9 => ?_⟩
    have h4 : ¬ uI y < 65536 := fun q => h3 (hlt.mpr q)
    have hb2 : zbl (uI y) = zbl (uI y / 65536) + 16 := zbl_shr (k := 16) (by omega)
    refine qJ_nlz33 (X := uI y / 65536) (a := 14) ?_ (by omega) (by omega) ?_ ?_ (by omega) (by decide) (by decide)
    · rw [e9, uI_ush y (k := 16) 16 (by decide)]
    · rw [e8, e1]; decide
    · rw [hb2] at hp
      rw [show 14 + 2 - zbl (uI y / 65536) = 32 - (zbl (uI y / 65536) + 16) by omega]
      exact hp
  · have h0 : ¬ (0 : Int) < y.toInt := fun q => h (Int32.lt_iff_toInt_lt.mpr q)
    have h2 : ¬ uI y = 0 := fun q => h1 (uI_z.mpr q)
    have h3 : 2 ^ 31 ≤ uI y := by
      by_cases hc : 2 * uI y < 4294967296
      · rw [if_pos hc] at hi; omega
      · omega
    have hb : zbl (uI y) = 32 := zbl_of (k := 31) h3 (by omega)
    rw [hb] at hp
    exact hp
  · rw [h1] at hp
    exact hp
theorem zbl_zs {d : Nat → Nat} {u : Nat} (hd : ∀ i, i < u + 1 → d i < 4294967296) (h0 : d u ≠ 0) : zbl (zs d (u + 1)) = 32 * u + zbl (d u) := by
  have h1 := zs_lt (n := u) (d := d) (fun i hi => hd i (by omega))
  have hp : (4294967296 : Nat) ^ u = 2 ^ (32 * u) := by rw [Nat.pow_mul]
  have h2 : zs d (u + 1) / 2 ^ (32 * u) = d u := by
    show (zs d u + d u * 4294967296 ^ u) / 2 ^ (32 * u) = d u
    rw [← hp, Nat.add_mul_div_right _ _ (Nat.pow_pos (by decide)), Nat.div_eq_of_lt h1, Nat.zero_add]
  have h3 : 2 ^ (32 * u) ≤ zs d (u + 1) := by
    rw [← hp]
    exact zs_top (d := d) (u := u + 1) (by omega) h0
  rw [zbl_shr h3, h2]
  omega
theorem q5_bits {G : Nat → ClassId} {M : zm_M} {w r cap v : Nat} (h : zwv G M w r cap v) {post : Int32 → zm_M → Prop} (hp : post (nI (zbl v)) M) : pX5_bits G w post M := by
  have hv0 := h
  obtain ⟨u, f, h, hv, ht⟩ := h
  have hc := h.2.2.2
  have hu := h.2.2.1
  have h1 : nI u = 0 ↔ u = 0 := by
    have := nI_eq (a := u) (b := 0) (by omega) (by decide)
    exact this
  unfold pX5_bits
  refine ⟨_, _, h.1, rfl, fun h2 => ⟨_, _, h.1, rfl, _, _, h.1, rfl, zwd_ob h, ?_⟩, fun h2 => ?_⟩
  · have hu0 : u ≠ 0 := fun q => h2 (h1.mpr q)
    obtain ⟨k, rfl⟩ : ∃ k, u = k + 1 := ⟨u - 1, by omega⟩
    rw [nI_pred]
    refine q5_limb0 h ?_
    rw [nI_toInt (by omega), zld_n (by omega)]
    have hx : (lN (uI (f k))).toInt32 = f k := by
      apply uI_inj
      rw [uI_l, uN_lN (Nat.lt_trans (uI_lt _) (by decide))]
      exact Nat.mod_eq_of_lt (uI_lt _)
    rw [hx]
    refine qJ_nlz ?_
    have htop : uI (f k) ≠ 0 := fun q => ht (by omega) (uI_z.mpr q)
    have hb : zbl v = 32 * k + zbl (uI (f k)) := by
      rw [hv]
      exact zbl_zs (fun i _ => uI_lt _) htop
    have hb2 : zbl (uI (f k)) ≤ 32 := zbl_le.mpr (uI_lt _)
    have e : (32 : Int32) * nI (k + 1) = nI (32 * (k + 1)) := pk_mul 32 (k + 1)
    rw [e, pk_sub (by omega)]
    rw [hb] at hp
    rw [show 32 * (k + 1) - (32 - zbl (uI (f k))) = 32 * k + zbl (uI (f k)) by omega]
    exact hp
  · have hu0 := h1.mp h2
    rw [hv, hu0] at hp
    exact hp
theorem q5_isOne {G : Nat → ClassId} {M : zm_M} {w r cap v : Nat} (h : zwv G M w r cap v) {post : Int32 → zm_M → Prop} (hp : post (if v = 1 then 1 else 0) M) : pX5_isOne G w post M := by
  have hv0 := h
  obtain ⟨u, f, h, hv, ht⟩ := h
  have hc := h.2.2.2
  have hu := h.2.2.1
  have h1 : nI u = (1 : Int32) ↔ u = 1 := nI_eq (a := u) (b := 1) (by omega) (by decide)
  unfold pX5_isOne
  refine ⟨_, _, h.1, rfl, fun h2 => ⟨zb_0, ?_⟩, fun h2 => ⟨zwd_ob h, q5_limb (j := 0) hv0 (by decide) ?_⟩⟩
  · have hu1 : u ≠ 1 := fun q => h2 (h1.mpr q)
    have hn : v ≠ 1 := by
      by_cases h0 : u = 0
      · rw [hv, h0]; exact (show (0 : Nat) ≠ 1 by decide)
      · have h3 := zs_top (d := fun i => uI (f i)) (u := u) (by omega) (fun q => ht (by omega) (uI_z.mpr q))
        have h4 : 4294967296 ^ 1 ≤ 4294967296 ^ (u - 1) := Nat.pow_le_pow_right (by decide) (by omega)
        rw [Nat.pow_one] at h4
        rw [hv]
        omega
    rw [if_neg hn] at hp
    exact hp
  · have hu1 := h1.mp h2
    have hvl : v < 4294967296 := by
      rw [hv, hu1]
      have := zs_lt (d := fun i => uI (f i)) (n := 1) (fun i _ => uI_lt _)
      rw [Nat.pow_one] at this
      exact this
    have hz : zdg v 0 = v := by
      unfold zdg
      rw [Nat.pow_zero, Nat.div_one, Nat.mod_eq_of_lt hvl]
    have he : lN (zdg v 0) = (1 : Int64) ↔ v = 1 := by
      rw [uN_eq, uN_lN (Nat.lt_trans (zdg_lt v 0) (by decide)), hz, uN_1]
    refine ⟨fun h3 => ⟨zb_0, ?_⟩, fun h3 => ⟨zb_1, ?_⟩⟩
    · rw [if_neg (fun q => h3 (he.mpr q))] at hp
      exact hp
    · rw [if_pos (he.mp h3)] at hp
      exact hp
theorem q5_isAbove {G : Nat → ClassId} {M : zm_M} {w r cap v : Nat} (h : zwv G M w r cap v) {x : Int64} (hx : uN x < 9223372036854775808) (hcap : zbl v < 2 ^ 31) {post : Int32 → zm_M → Prop} (hp : post (if uN x < v then 1 else 0) M) : pX5_isAbove G w x post M := by
  unfold pX5_isAbove
  refine ⟨zwv_ob h, q5_bits h ⟨fun h1 => ⟨zb_1, ?_⟩, fun h1 => ⟨zwv_ob h, q5_low h ?_⟩⟩⟩
  · have h2 : 63 < zbl v := (nI_ltI (a := 63) (by decide) hcap).mp h1
    have h3 : ¬ v < 2 ^ 63 := fun q => absurd (zbl_le.mpr q) (by omega)
    rw [if_pos (by omega)] at hp
    exact hp
  · have h2 : zbl v ≤ 63 := by
      rcases Nat.lt_or_ge 63 (zbl v) with h3 | h3
      · exact absurd ((nI_ltI (a := 63) (by decide) hcap).mpr h3) h1
      · exact h3
    have h3 : v < 2 ^ 63 := zbl_le.mp h2
    rw [Nat.mod_eq_of_lt (by omega)]
    have h4 : lN v ≤ x ↔ v ≤ uN x := by
      rw [uN_le' (by rw [uN_lN (by omega)]; exact h3) hx, uN_lN (by omega)]
    refine ⟨fun h5 => ⟨zb_0, ?_⟩, fun h5 => ⟨zb_1, ?_⟩⟩
    · rw [if_neg (by have := h4.mp h5; omega)] at hp
      exact hp
    · rw [if_pos (by
        rcases Nat.lt_or_ge (uN x) v with q | q
        · exact q
        · exact absurd (h4.mpr q) h5)] at hp
      exact hp
