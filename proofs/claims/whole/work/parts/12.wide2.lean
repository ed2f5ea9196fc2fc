/-! ===== WIDE, the small methods ===== -/
theorem zs_top {d : Nat → Nat} {u : Nat} (h0 : 0 < u) (h : d (u - 1) ≠ 0) : 4294967296 ^ (u - 1) ≤ zs d u := by
  obtain ⟨k, rfl⟩ : ∃ k, u = k + 1 := ⟨u - 1, by omega⟩
  show 4294967296 ^ k ≤ zs d k + d k * 4294967296 ^ k
  have h1 : 1 ≤ d k := Nat.one_le_iff_ne_zero.mpr h
  have h2 : 1 * 4294967296 ^ k ≤ d k * 4294967296 ^ k := Nat.mul_le_mul_right _ h1
  omega
theorem zwv_u0 {u : Nat} {f : Nat → Int32} (h : 0 < u → f (u - 1) ≠ 0) : zs (fun i => uI (f i)) u = 0 ↔ u = 0 := by
  refine ⟨fun h1 => ?_, fun h1 => by rw [h1]; rfl⟩
  by_cases h0 : u = 0
  · exact h0
  · have h2 := zs_top (d := fun i => uI (f i)) (u := u) (by omega) (fun h3 => h (by omega) (uI_z.mpr h3))
    have h3 : 0 < 4294967296 ^ (u - 1) := Nat.pow_pos (by decide)
    omega
theorem q5_clear {G : Nat → ClassId} {M : zm_M} {w r cap u : Nat} {f : Nat → Int32} (h : zwd G M w r cap u f) {post : zm_M → Prop} (hp : ∀ M', zof M M' w r → zwd G M' w r cap 0 f → post M') : pX5_clear G w post M := by
  unfold pX5_clear
  have h1 := zwd_setU (u' := 0) h (Nat.zero_le _)
  rw [nI_0] at h1
  exact ⟨_, h.1, Nat.lt_succ_self 1, hp _ zof_w h1⟩
theorem q5_become {G : Nat → ClassId} {M : zm_M} {w r cap u : Nat} {f : Nat → Int32} (h : zwd G M w r cap u f) (hc2 : 2 ≤ cap) {x : Int64} {post : zm_M → Prop} (hp : ∀ M', zof M M' w r → zwv G M' w r cap (uN x) → post M') : pX5_become G w x post M := by
  unfold pX5_become
  refine ⟨zwd_ob h, q5_put (j := 0) h (by omega) ?_⟩
  have h1 := zwd_setR (f' := upd f 0 x.toInt32) h
  refine ⟨zwd_ob h1, q5_put (j := 1) h1 (by omega) ?_⟩
  have h2 := zwd_setR (f' := upd (upd f 0 x.toInt32) 1 ((x.toUInt64 >>> ((32 : Int32).toInt64.toUInt64 &&& Int64.toUInt64 63)).toInt64).toInt32) h1
  refine ⟨zwd_ob h2, q5_trim (n := 2) h2 hc2 (fun M' h3 h4 => hp M' (zof_t zof_r (zof_t zof_r h3)) ?_)⟩
  have e : zs (fun i => uI (upd (upd f 0 x.toInt32) 1 ((x.toUInt64 >>> ((32 : Int32).toInt64.toUInt64 &&& Int64.toUInt64 63)).toInt64).toInt32 i)) 2 = uN x := by
    show (0 + uI (upd (upd f 0 x.toInt32) 1 _ 0) * 4294967296 ^ 0) + uI (upd (upd f 0 x.toInt32) 1 _ 1) * 4294967296 ^ 1 = uN x
    rw [pk_us, pk_un (by decide), pk_us, uI_l, uI_l, uN_s32]
    have := uN_lt x
    omega
  rw [e] at h4
  exact h4
theorem q5_isZero {G : Nat → ClassId} {M : zm_M} {w r cap v : Nat} (h : zwv G M w r cap v) {post : Int32 → zm_M → Prop} (hp : post (if v = 0 then 1 else 0) M) : pX5_isZero G w post M := by
  obtain ⟨u, f, h, hv, ht⟩ := h
  have hc := h.2.2.2
  have hu := h.2.2.1
  have h0 : v = 0 ↔ u = 0 := by rw [hv]; exact zwv_u0 ht
  have h1 : nI u = 0 ↔ u = 0 := by
    have := nI_eq (a := u) (b := 0) (by omega) (by decide)
    exact this
  unfold pX5_isZero
  refine ⟨_, _, h.1, rfl, fun h2 => ⟨zb_0, ?_⟩, fun h2 => ⟨zb_1, ?_⟩⟩
  · rw [if_neg (fun q => h2 (h1.mpr (h0.mp q)))] at hp
    exact hp
  · rw [if_pos (h0.mpr (h1.mp h2))] at hp
    exact hp
theorem q5_isOdd {G : Nat → ClassId} {M : zm_M} {w r cap v : Nat} (h : zwv G M w r cap v) {post : Int32 → zm_M → Prop} (hp : post (if v % 2 = 1 then 1 else 0) M) : pX5_isOdd G w post M := by
  unfold pX5_isOdd
  refine ⟨zwv_ob h, q5_limb (j := 0) h (by decide) ?_⟩
  have h1 : uN (lN (zdg v 0)) = v % 4294967296 := by
    rw [uN_lN (Nat.lt_trans (zdg_lt v 0) (by decide))]
    unfold zdg
    rw [Nat.pow_zero, Nat.div_one]
  have h2 : (lN (zdg v 0) &&& (1 : Int64)) = (1 : Int64) ↔ v % 2 = 1 := by
    rw [uN_eq, uN_1]
    have h3 : uN (lN (zdg v 0) &&& (1 : Int64)) = uN (lN (zdg v 0)) % 2 := by
      show (_ &&& _ : UInt64).toNat = _
      rw [UInt64.toNat_and]
      exact Nat.and_one_is_mod _
    rw [h3, h1]
    omega
  refine ⟨fun h3 => ⟨zb_0, ?_⟩, fun h3 => ⟨zb_1, ?_⟩⟩
  · rw [if_neg (fun q => h3 (h2.mpr q))] at hp
    exact hp
  · rw [if_pos (h2.mp h3)] at hp
    exact hp
theorem q5_low {G : Nat → ClassId} {M : zm_M} {w r cap v : Nat} (h : zwv G M w r cap v) {post : Int64 → zm_M → Prop} (hp : post (lN (v % 18446744073709551616)) M) : pX5_low G w post M := by
  unfold pX5_low
  refine ⟨zwv_ob h, q5_limb (j := 1) h (by decide) ⟨zwv_ob h, q5_limb (j := 0) h (by decide) ?_⟩⟩
  have h0 : zdg v 0 = v % 4294967296 := by
    unfold zdg
    rw [Nat.pow_zero, Nat.div_one]
  have h1 : zdg v 1 = v / 4294967296 % 4294967296 := by
    unfold zdg
    rw [Nat.pow_one]
  have e : (lN (zdg v 1) <<< ((32 : Int32).toInt64 &&& 63) ||| lN (zdg v 0)) = lN (v % 18446744073709551616) := by
    refine lN_of ?_
    have hs : uN (lN (zdg v 1) <<< ((32 : Int32).toInt64 &&& 63)) = zdg v 1 * 4294967296 := by
      have hz := zdg_lt v 1
      show ((lN (zdg v 1)).toBitVec <<< (((32 : Int32).toInt64 &&& 63).toBitVec.smod 64).toNat).toNat = _
      have hk : (((32 : Int32).toInt64 &&& 63).toBitVec.smod 64).toNat = 32 := by decide +kernel
      rw [hk, BitVec.toNat_shiftLeft, Nat.shiftLeft_eq]
      have hq : (lN (zdg v 1)).toBitVec.toNat = zdg v 1 := uN_lN (Nat.lt_trans hz (by decide))
      rw [hq]
      exact Nat.mod_eq_of_lt (by omega)
    have ho : uN (lN (zdg v 1) <<< ((32 : Int32).toInt64 &&& 63) ||| lN (zdg v 0)) = uN (lN (zdg v 1) <<< ((32 : Int32).toInt64 &&& 63)) ||| uN (lN (zdg v 0)) := UInt64.toNat_or _ _
    have hz := zdg_lt v 0
    rw [ho, hs, uN_lN (Nat.lt_trans hz (by decide))]
    have h2 : zdg v 1 * 4294967296 = zdg v 1 <<< 32 := by rw [Nat.shiftLeft_eq]
    rw [h2, ← Nat.shiftLeft_add_eq_or_of_lt (by exact hz), ← h2, h0, h1, show (18446744073709551616 : Nat) = 4294967296 * 4294967296 by decide, Nat.mod_mul]
    generalize v / 4294967296 % 4294967296 = a
    generalize v % 4294967296 = b
    rw [Nat.mul_comm a, Nat.add_comm]
  rw [e]
  exact hp
/-! how many bits a number has -/
def zbl (v : Nat) : Nat := if v = 0 then 0 else v.log2 + 1
theorem zbl_0 : zbl 0 = 0 := rfl
theorem zbl_of {v k : Nat} (h1 : 2 ^ k ≤ v) (h2 : v < 2 ^ (k + 1)) : zbl v = k + 1 := by
  have h0 : v ≠ 0 := fun h => by rw [h] at h1; exact absurd h1 (by have := Nat.pow_pos (n := k) (show 0 < 2 by decide); omega)
  unfold zbl
  rw [if_neg h0, (Nat.log2_eq_iff h0).mpr ⟨h1, h2⟩]
theorem zbl_lt (v : Nat) : v < 2 ^ zbl v := by
  unfold zbl
  by_cases h : v = 0
  · rw [if_pos h, h]; decide
  · rw [if_neg h]; exact Nat.lt_log2_self
theorem zbl_ge {v : Nat} (h : v ≠ 0) : 2 ^ (zbl v - 1) ≤ v := by
  unfold zbl
  rw [if_neg h]
  exact Nat.log2_self_le h
theorem zbl_pos {v : Nat} (h : v ≠ 0) : 0 < zbl v := by
  unfold zbl
  rw [if_neg h]
  omega
theorem zbl_le {v k : Nat} : zbl v ≤ k ↔ v < 2 ^ k := by
  refine ⟨fun h => Nat.lt_of_lt_of_le (zbl_lt v) (Nat.pow_le_pow_right (by decide) h), fun h => ?_⟩
  by_cases h0 : v = 0
  · rw [h0]; exact Nat.zero_le _
  · have h1 := zbl_ge h0
    have h2 := zbl_pos h0
    rcases Nat.lt_or_ge k (zbl v) with h3 | h3
    · have h4 : 2 ^ k ≤ 2 ^ (zbl v - 1) := Nat.pow_le_pow_right (by decide) (by omega)
      omega
    · exact h3
theorem zbl_shr {v k : Nat} (h : 2 ^ k ≤ v) : zbl v = zbl (v / 2 ^ k) + k := by
  have hp : 0 < 2 ^ k := Nat.pow_pos (by decide)
  have h0 : v / 2 ^ k ≠ 0 := by
    have := Nat.div_pos h hp
    omega
  have h1 := zbl_ge h0
  have h2 := zbl_lt (v / 2 ^ k)
  have h3 := zbl_pos h0
  have h4 : zbl v = (zbl (v / 2 ^ k) - 1 + k) + 1 := by
    apply zbl_of
    · rw [Nat.pow_add]
      exact (Nat.le_div_iff_mul_le hp).mp h1
    · rw [show zbl (v / 2 ^ k) - 1 + k + 1 = zbl (v / 2 ^ k) + k by omega, Nat.pow_add]
      exact (Nat.div_lt_iff_lt_mul hp).mp h2
  omega

/-! leading zeros -/
theorem uI_pos {x : Int32} (h : uI x < 2147483648) : x.toInt = (uI x : Int) := by
  rw [uI_int]
  exact if_pos (by omega)
theorem uI_ush (x : Int32) {k : Nat} (s : Int32) (hs : ((s.toUInt32 &&& Int32.toUInt32 31).toBitVec % 32).toNat = k) : uI (x.toUInt32 >>> (s.toUInt32 &&& Int32.toUInt32 31)).toInt32 = uI x / 2 ^ k := pk_ushr x s k hs
theorem i32_lt' {x : Int32} {n : Nat} (hn : n < 2147483648) (hx : uI x < 2147483648) : x < nI n ↔ uI x < n := by
  rw [Int32.lt_iff_toInt_lt, uI_pos hx, nI_toInt hn]
  omega
theorem qJ_nlz61 {G : Nat → ClassId} {M : zm_M} {y n : Int32} {post : Int32 → zm_M → Prop} {X a : Nat} (hy : uI y = X) (hX : 0 < X) (hX2 : X < 16) (hn : n = nI (a + 1)) (hp : post (nI (a + 2 - zbl X)) M) (ha : zbl X ≤ a + 2) (ha2 : a < 100) : pJ6_numberOfLeadingZeros_0f7a4_61 G post y n M := by
  have hz : ∀ z : Nat, 0 < z → z < 4 → ∀ b : Nat, b + 2 - zbl z = b + 1 - z / 2 ∧ z / 2 ≤ 1 := by
    intro z h1 h2 b
    have : z = 1 ∨ z = 2 ∨ z = 3 := by omega
    rcases this with rfl | rfl | rfl <;> refine ⟨?_, by decide⟩
    · show b + 2 - 1 = b + 1 - 0; omega
    · show b + 2 - 2 = b + 1 - 1; omega
    · show b + 2 - 2 = b + 1 - 1; omega
  have hsh : ∀ x : Int32, uI x < 4 → (x.toUInt32 >>> ((1 : Int32).toUInt32 &&& Int32.toUInt32 31)).toInt32 = nI (uI x / 2) := fun x hx => by
    apply uI_inj
    rw [uI_ush x (k := 1) 1 (by decide), uI_nI (by omega)]
  unfold pJ6_numberOfLeadingZeros_0f7a4_61
  have hlt : y < (4 : Int32) ↔ X < 4 := by
    have := i32_lt' (x := y) (n := 4) (by decide) (by omega)
    rw [hy] at this
    exact this
  refine ⟨fun h => ?_, fun h x2 e2 x3 e3 => ?_⟩
  · have h4 := hlt.mp h
    obtain ⟨h5, h6⟩ := hz X hX h4 a
    rw [hsh y (by omega), hn, hy, pk_sub (by omega)]
    rw [h5] at hp
    exact hp
  · have h4 : ¬ X < 4 := fun q => h (hlt.mpr q)
    have hu3 : uI x3 = X / 4 := by
      rw [e3, uI_ush y (k := 2) 2 (by decide), hy]
    have hb : zbl X = zbl (X / 4) + 2 := zbl_shr (k := 2) (by omega)
    have hb0 : zbl (X / 4) ≤ 2 := zbl_le.mpr (by omega)
    have hb1 : 0 < zbl (X / 4) := zbl_pos (by omega)
    obtain ⟨c, rfl⟩ : ∃ c, a = c + 1 := ⟨a - 1, by omega⟩
    by_cases hc : c = 0
    · subst hc
      obtain ⟨h5, h6⟩ := hz (X / 4) (by omega) (by omega) 0
      have hq : X / 4 / 2 = 0 := by omega
      have e2' : x2 = nI 0 := by rw [e2, hn]; decide
      rw [hsh x3 (by omega), hu3, hq, e2']
      rw [hb] at hp
      rw [show 0 + 1 + 2 - (zbl (X / 4) + 2) = 0 by omega] at hp
      exact hp
    · obtain ⟨d, rfl⟩ : ∃ d, c = d + 1 := ⟨c - 1, by omega⟩
      obtain ⟨h5, h6⟩ := hz (X / 4) (by omega) (by omega) d
      have e2' : x2 = nI (d + 1) := by
        rw [e2, hn, show d + 1 + 1 + 1 = (d + 1) + 1 + 1 by omega]
        have h7 : (-2 : Int32) = (-1 : Int32) + (-1 : Int32) := by decide
        rw [h7, ← Int32.add_assoc, pk_m1, pk_m1]
      rw [hsh x3 (by omega), hu3, e2', pk_sub (by omega)]
      rw [hb] at hp
      rw [show d + 1 + 1 + 2 - (zbl (X / 4) + 2) = d + 2 - zbl (X / 4) by omega, h5] at hp
      exact hp
