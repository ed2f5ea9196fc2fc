/-! ===== WIDE: pairAt, takeTimes, putBack ===== -/
theorem zor_add {a b s : Nat} (ha : 2 ^ s ∣ a) (hb : b < 2 ^ s) : a ||| b = a + b := by
  obtain ⟨c, rfl⟩ := ha
  rw [Nat.mul_comm, ← Nat.shiftLeft_eq, ← Nat.shiftLeft_add_eq_or_of_lt hb]
theorem zfr {s x y : Nat} (hs : s ≤ 32) (hx : x < 2 ^ s) : (y * 2 ^ s + x) / 4294967296 = y * 2 ^ s / 4294967296 := by
  have hB : (4294967296 : Nat) = 2 ^ s * 2 ^ (32 - s) := by rw [← Nat.pow_add, show s + (32 - s) = 32 by omega]
  have hp : 0 < 2 ^ s := Nat.pow_pos (by decide)
  have g2 : (y * 2 ^ s + x) / 2 ^ s = y := by
    rw [Nat.add_comm, Nat.add_mul_div_right _ _ hp, Nat.div_eq_of_lt hx, Nat.zero_add]
  have g3 : y * 2 ^ s / 2 ^ s = y := Nat.mul_div_cancel _ hp
  rw [hB, ← Nat.div_div_eq_div_mul, ← Nat.div_div_eq_div_mul, g2, g3]
theorem zpair {Y s e : Nat} (hs : s < 32) : (Y * 2 ^ s / 4294967296 ^ (e + 1)) % (4294967296 * 4294967296) = (zdg Y (e + 2) * 4294967296 + zdg Y (e + 1)) * 2 ^ s % (4294967296 * 4294967296) + zdg Y e * 2 ^ s / 4294967296 := by
  have hP : 0 < 4294967296 ^ e := Nat.pow_pos (by decide)
  have hp : 0 < 2 ^ s := Nat.pow_pos (by decide)
  have e0 : Y * 2 ^ s / 4294967296 ^ e = Y / 4294967296 ^ e * 2 ^ s + Y % 4294967296 ^ e * 2 ^ s / 4294967296 ^ e := by
    have h1 : (Y / 4294967296 ^ e * 4294967296 ^ e + Y % 4294967296 ^ e) * 2 ^ s / 4294967296 ^ e = Y / 4294967296 ^ e * 2 ^ s + Y % 4294967296 ^ e * 2 ^ s / 4294967296 ^ e := by
      rw [Nat.add_mul, Nat.mul_right_comm (Y / 4294967296 ^ e) (4294967296 ^ e), Nat.add_comm, Nat.add_mul_div_right _ _ hP, Nat.add_comm]
    rw [Nat.mul_comm (Y / 4294967296 ^ e) (4294967296 ^ e), Nat.div_add_mod] at h1
    exact h1
  have e1 : Y % 4294967296 ^ e * 2 ^ s / 4294967296 ^ e < 2 ^ s := (Nat.div_lt_iff_lt_mul hP).mpr (by
    rw [Nat.mul_comm (2 ^ s)]
    exact Nat.mul_lt_mul_of_pos_right (Nat.mod_lt _ hP) hp)
  generalize Y % 4294967296 ^ e * 2 ^ s / 4294967296 ^ e = x at e0 e1
  have e2 := zdg_step Y e
  have e3 := zdg_step Y (e + 1)
  have e4 := zdg_step Y (e + 2)
  rw [Nat.pow_succ, ← Nat.div_div_eq_div_mul, e0, zfr (by omega) e1, e2, e3, e4]
  have z0 := zdg_lt Y e
  generalize Y / 4294967296 ^ (e + 2 + 1) = t
  generalize zdg Y e = d0 at *
  generalize zdg Y (e + 1) = d1 at *
  generalize zdg Y (e + 2) = d2 at *
  have f1 : (((t * 4294967296 + d2) * 4294967296 + d1) * 4294967296 + d0) * 2 ^ s = d0 * 2 ^ s + ((t * 4294967296 + d2) * 4294967296 + d1) * 2 ^ s * 4294967296 := by
    rw [Nat.add_mul, Nat.mul_right_comm, Nat.add_comm]
  rw [f1, Nat.add_mul_div_right _ _ (by decide)]
  have f2 : ((t * 4294967296 + d2) * 4294967296 + d1) * 2 ^ s = (d2 * 4294967296 + d1) * 2 ^ s + t * 2 ^ s * (4294967296 * 4294967296) := by
    rw [Nat.add_mul (t * 4294967296) d2, Nat.add_assoc, Nat.add_mul, Nat.mul_assoc t, Nat.mul_right_comm t, Nat.add_comm]
  have hlt : d0 * 2 ^ s / 4294967296 < 2 ^ s := (Nat.div_lt_iff_lt_mul (by decide)).mpr (by
    rw [Nat.mul_comm (2 ^ s)]
    exact Nat.mul_lt_mul_of_pos_right z0 hp)
  rw [f2, ← Nat.add_assoc, Nat.add_mul_mod_self_right]
  generalize d0 * 2 ^ s / 4294967296 = y at *
  -- y < 2^s, the other a multiple of 2^s
  have hdvd : 2 ^ s ∣ 4294967296 * 4294967296 := by
    rw [show (4294967296 * 4294967296 : Nat) = 2 ^ s * 2 ^ (64 - s) by rw [← Nat.pow_add, show s + (64 - s) = 64 by omega]]
    exact Nat.dvd_mul_right _ _
  obtain ⟨c, hc⟩ : 2 ^ s ∣ (d2 * 4294967296 + d1) * 2 ^ s % (4294967296 * 4294967296) := (Nat.dvd_mod_iff hdvd).mpr (Nat.dvd_mul_left _ _)
  have hm : (d2 * 4294967296 + d1) * 2 ^ s % (4294967296 * 4294967296) + 2 ^ s ≤ 4294967296 * 4294967296 := by
    obtain ⟨g, hg⟩ := hdvd
    have h1 : (d2 * 4294967296 + d1) * 2 ^ s % (4294967296 * 4294967296) < 4294967296 * 4294967296 := Nat.mod_lt _ (by decide)
    rw [hc, hg] at h1 ⊢
    have h2 : c < g := Nat.lt_of_mul_lt_mul_left h1
    have h3 : 2 ^ s * (c + 1) ≤ 2 ^ s * g := Nat.mul_le_mul_left _ h2
    rw [Nat.mul_add, Nat.mul_one] at h3
    exact h3
  rw [Nat.add_comm y, Nat.add_mod, Nat.mod_eq_of_lt (a := y) (by omega), Nat.mod_eq_of_lt (by omega)]
theorem q5_pair {G : Nat → ClassId} {M : zm_M} {w r cap u e s X : Nat} {f : Nat → Int32} (h : zwd G M w r cap u f) (hX : X = zs (fun i => uI (f i)) u) (he : e < 2 ^ 29) (hs : s < 32) {post : Int64 → zm_M → Prop} (hp : post (lN (X * (4294967296 * 4294967296) * 2 ^ s / 4294967296 ^ e % (4294967296 * 4294967296))) M) : pX5_pairAt G w (nI e - 1) (nI s) post M := by
  unfold pX5_pairAt
  refine ⟨zwd_ob h, q5_limb0 h ⟨zwd_ob h, q5_limb0 h ⟨zwd_ob h, q5_limb0 h ?_⟩⟩⟩
  have e1 : (nI e - 1).toInt = (e : Int) - 1 := pk_sub_toInt (a := e) (b := 1) (by omega) (by decide)
  have e2 : (nI e - 1 - (1 : Int32)).toInt = (e : Int) - 2 := by
    have h3 : nI e - 1 - (1 : Int32) = nI e - nI 2 := by
      rw [Int32.sub_eq_add_neg, Int32.sub_eq_add_neg, Int32.sub_eq_add_neg, Int32.add_assoc]
      rfl
    rw [h3]
    exact pk_sub_toInt (by omega) (by decide)
  have e3 : (nI e - 1 - (2 : Int32)).toInt = (e : Int) - 3 := by
    have h3 : nI e - 1 - (2 : Int32) = nI e - nI 3 := by
      rw [Int32.sub_eq_add_neg, Int32.sub_eq_add_neg, Int32.sub_eq_add_neg, Int32.add_assoc]
      rfl
    rw [h3]
    exact pk_sub_toInt (by omega) (by decide)
  have z1 := zld_lt u f ((e : Int) - 1)
  have z2 := zld_lt u f ((e : Int) - 2)
  have z3 := zld_lt u f ((e : Int) - 3)
  have hp2 : 2 ^ s ≤ 2 ^ 31 := Nat.pow_le_pow_right (by decide) (by omega)
  have hm3 : zld u f ((e : Int) - 3) * 2 ^ s ≤ 4294967295 * 2 ^ 31 := Nat.mul_le_mul (by omega) hp2
  rw [e1, e2, e3, lN_pair z1 z2, lN_shlb (by omega) hs, lN_shlb (by omega) hs, lN_sh32 (Nat.mod_lt _ (by decide))]
  -- the digits of X B B
  have hd : ∀ k : Nat, zdg (X * (4294967296 * 4294967296)) k = if k < 2 then 0 else zdg X (k - 2) := fun k => by
    have := zdg_mulL X 2 k
    rw [show (4294967296 : Nat) ^ 2 = 4294967296 * 4294967296 by decide] at this
    exact this
  have hz : ∀ (k : Nat) (i : Int), i = (k : Int) - 2 → zld u f i = zdg (X * (4294967296 * 4294967296)) k := fun k i hi => by
    rw [hd]
    by_cases hk : k < 2
    · rw [if_pos hk]
      unfold zld
      rw [if_pos (Or.inl (by omega))]
    · rw [if_neg hk, show i = ((k - 2 : Nat) : Int) by omega, zld_v, ← hX]
  have hval : ∀ a b c d : Nat, a = zld u f ((e : Int) - 1) → b = zld u f ((e : Int) - 2) → c = zld u f ((e : Int) - 3) → d = (a * 4294967296 + b) * 2 ^ s % (4294967296 * 4294967296) + c * 2 ^ s / 4294967296 → (lN ((zld u f ((e : Int) - 1) * 4294967296 + zld u f ((e : Int) - 2)) * 2 ^ s % 18446744073709551616) ||| lN (zld u f ((e : Int) - 3) * 2 ^ s % 18446744073709551616 / 4294967296)) = lN d := by
    intro a b c d ha hb hc hdd
    rw [← ha, ← hb, ← hc]
    have hc3 : c < 4294967296 := by rw [hc]; exact z3
    have hcm : c * 2 ^ s ≤ 4294967295 * 2 ^ 31 := Nat.mul_le_mul (by omega) hp2
    refine lN_of ?_
    have ho : ∀ x y : Int64, uN (x ||| y) = uN x ||| uN y := fun x y => UInt64.toNat_or _ _
    rw [ho, uN_lN (Nat.mod_lt _ (by decide)), Nat.mod_eq_of_lt (a := c * 2 ^ s) (by omega), uN_lN (by omega), hdd, show (18446744073709551616 : Nat) = 4294967296 * 4294967296 by decide]
    refine zor_add (s := s) ?_ ?_
    · refine (Nat.dvd_mod_iff ?_).mpr (Nat.dvd_mul_left _ _)
      rw [show (4294967296 * 4294967296 : Nat) = 2 ^ s * 2 ^ (64 - s) by rw [← Nat.pow_add, show s + (64 - s) = 64 by omega]]
      exact Nat.dvd_mul_right _ _
    · exact (Nat.div_lt_iff_lt_mul (by decide)).mpr (by
        rw [Nat.mul_comm (2 ^ s)]
        exact Nat.mul_lt_mul_of_pos_right hc3 (Nat.pow_pos (by decide)))
  cases e with
  | zero =>
    have h1 : zld u f (((0 : Nat) : Int) - 1) = 0 := by unfold zld; rw [if_pos (Or.inl (by omega))]
    have h2 : zld u f (((0 : Nat) : Int) - 2) = 0 := by unfold zld; rw [if_pos (Or.inl (by omega))]
    have h3 : zld u f (((0 : Nat) : Int) - 3) = 0 := by unfold zld; rw [if_pos (Or.inl (by omega))]
    rw [hval 0 0 0 0 h1.symm h2.symm h3.symm (by simp)]
    rw [Nat.pow_zero, Nat.div_one, Nat.mul_right_comm, Nat.mul_mod_left] at hp
    exact hp
  | succ e =>
    rw [hval _ _ _ _ rfl rfl rfl rfl, hz (e + 2) _ (by omega), hz (e + 1) _ (by omega), hz e _ (by omega), ← zpair hs]
    exact hp
/-- takeTimes -/
theorem q5_ttL {G : Nat → ClassId} {post : Int32 → zm_M → Prop} {k104 : Nat → Int32 → Int32 → Int64 → zm_M → Prop} {M0 : zm_M} {w r cap u b rb capb n q j V : Nat} {f0 fb : Nat → Int32} (hq : q < 4294967296) (hjn : j + n ≤ u) (hb0 : zwd G M0 b rb capb n fb) (hV : V = zs (fun i => uI (fb i)) n) (hr : rb ≠ r) (hbr : b ≠ r)
    (hk : ∀ (M' : zm_M) (f' : Nat → Int32) (c : Nat), zof M0 M' r r → zwd G M' w r cap u f' → c < 4294967296 → (∀ i, i < j → f' i = f0 i) → (∀ i, j + n ≤ i → f' i = f0 i) → zs (fun i => uI (f' (j + i))) n + q * V = zs (fun i => uI (f0 (j + i))) n + c * 4294967296 ^ n → k104 w (nI j) (nI n) (lN c) M') : ∀ (d i : Nat) (M : zm_M) (f : Nat → Int32) (c : Nat), i + d = n → zof M0 M r r → zwd G M w r cap u f → (∀ k, k < j → f k = f0 k) → (∀ k, j + i ≤ k → f k = f0 k) → zs (fun k => uI (f (j + k))) i + q * zs (fun k => uI (fb k)) i = zs (fun k => uI (f0 (j + k))) i + c * 4294967296 ^ i → pX5_takeTimes_22 G post k104 (d + 1) w b (lN q) (nI j) (nI n) (lN c) (nI i) M
  | 0, i, M, f, c, hi, ho, h, h0, h1, he => by
    have hcap := h.2.2.2
    have hu := h.2.2.1
    rw [pX5_takeTimes_22]
    have e : i = n := by omega
    subst e
    have hl := zs_lt (d := fun k => uI (f (j + k))) (n := i) (fun i _ => uI_lt _)
    have hvl := zs_lt (d := fun k => uI (fb k)) (n := i) (fun i _ => uI_lt _)
    have hc : c ≤ q := by
      rcases Nat.lt_or_ge q c with y | y
      · have h2 : (q + 1) * 4294967296 ^ i ≤ c * 4294967296 ^ i := Nat.mul_le_mul_right _ y
        have h3 : q * zs (fun k => uI (fb k)) i ≤ q * 4294967296 ^ i := Nat.mul_le_mul_left _ (Nat.le_of_lt hvl)
        rw [Nat.add_mul] at h2
        omega
      · exact y
    refine ⟨fun _ => hk M f c ho h (by omega) h0 h1 ?_, fun z => absurd ((nI_leI (by omega) (by omega)).mpr (Nat.le_refl _)) z⟩
    rw [hV]
    exact he
  | d + 1, i, M, f, c, hi, ho, h, h0, h1, he => by
    have hcap := h.2.2.2
    have hu := h.2.2.1
    have hb : zwd G M b rb capb n fb := zwd_kept hb0 (ho.2 _ hbr hbr) (ho.2 _ hr hr)
    have hcb := hb.2.2.2
    have hub := hb.2.2.1
    have hz1 := uI_lt (fb i)
    have hz2 := uI_lt (f (j + i))
    have hl := zs_lt (d := fun k => uI (f (j + k))) (n := i) (fun i _ => uI_lt _)
    have hvl := zs_lt (d := fun k => uI (fb k)) (n := i) (fun i _ => uI_lt _)
    have hc : c ≤ q := by
      rcases Nat.lt_or_ge q c with y | y
      · have h2 : (q + 1) * 4294967296 ^ i ≤ c * 4294967296 ^ i := Nat.mul_le_mul_right _ y
        have h3 : q * zs (fun k => uI (fb k)) i ≤ q * 4294967296 ^ i := Nat.mul_le_mul_left _ (Nat.le_of_lt hvl)
        rw [Nat.add_mul] at h2
        omega
      · exact y
    have hmul : q * uI (fb i) ≤ 4294967295 * 4294967295 := Nat.mul_le_mul (by omega) (by omega)
    rw [pX5_takeTimes_22]
    refine ⟨fun z => absurd ((nI_leI (by omega) (by omega)).mp z) (by omega), fun _ => ⟨_, _, hb.1, rfl, _, _, hb.2.1, vp_in_nI (by omega) (by omega), fun x8 e8 => ⟨_, _, h.1, rfl, _, _, h.2.1, ?_, fun x11 e11 => ⟨_, _, h.1, rfl, _, _, h.2.1, ?_, fun x14 e14 x15 e15 => ?_⟩⟩⟩⟩
    · rw [nI_add]; exact vp_in_nI (by omega) (by omega)
    · rw [nI_add]; exact vp_in_nI (by omega) (by omega)
    · rw [nI_clamp (by omega), lN_32, lN_mul, lN_add] at e8
      have e8l : x8 &&& (4294967295 : Int64) = lN ((q * uI (fb i) + c) % 4294967296) := by
        rw [e8]
        exact lN_of (by rw [uN_lo, uN_lN (by omega)])
      have hlo : (q * uI (fb i) + c) % 4294967296 < 4294967296 := Nat.mod_lt _ (by decide)
      rw [nI_add, nI_clamp (by omega), lN_32, e8l] at e11
      have e11' : x11 = lN (if (q * uI (fb i) + c) % 4294967296 ≤ uI (f (j + i)) then uI (f (j + i)) - (q * uI (fb i) + c) % 4294967296 else 18446744073709551616 + uI (f (j + i)) - (q * uI (fb i) + c) % 4294967296) := by
        have := lN_sb (a := uI (f (j + i))) (b := (q * uI (fb i) + c) % 4294967296) (c := 0) hz2 hlo (by decide)
        rw [e11]
        have h9 : lN (uI (f (j + i))) - lN ((q * uI (fb i) + c) % 4294967296) - lN 0 = lN (uI (f (j + i))) - lN ((q * uI (fb i) + c) % 4294967296) := by
          apply uN_inj
          rw [uN_sub _ (lN 0), uN_lNs (show (0 : Nat) < 4294967296 by decide)]
          have := uN_lt (lN (uI (f (j + i))) - lN ((q * uI (fb i) + c) % 4294967296))
          omega
        rw [h9] at this
        rw [this]
        rfl
      have hf0 : f (j + i) = f0 (j + i) := h1 _ (Nat.le_refl _)
      rw [e15, nI_1, nI_add, nI_clamp (by omega)]
      have ho' : zof M (zm_set M r (.inl (G 0, (cap, .inl (upd f (j + i) x11.toInt32))))) r r := zof_r
      have hseg : ∀ x : Int32, zs (fun k => uI (upd f (j + i) x (j + k))) (i + 1) = zs (fun k => uI (f (j + k))) i + uI x * 4294967296 ^ i := fun x => by
        rw [zs_step, zs_congr (d' := fun k => uI (f (j + k))) (fun k hk => by rw [pk_un (by omega)]), pk_us]
      have main : ∀ dg bw : Nat, uI x11.toInt32 = dg → x14 = lN ((q * uI (fb i) + c) / 4294967296 + bw) → dg + (q * uI (fb i) + c) = uI (f (j + i)) + ((q * uI (fb i) + c) / 4294967296 + bw) * 4294967296 → pX5_takeTimes_22 G post k104 (d + 1) w b (lN q) (nI j) (nI n) x14 (nI (i + 1)) (zm_set M r (.inl (G 0, (cap, .inl (upd f (j + i) x11.toInt32))))) := by
        intro dg bw hdg h14 heq
        rw [h14]
        refine q5_ttL hq hjn hb0 hV hr hbr hk d (i + 1) _ _ _ (by omega) (zof_t ho ho') (zwd_setR h) (fun k hk => ?_) (fun k hk => ?_) ?_
        · rw [pk_un (by omega)]
          exact h0 k hk
        · rw [pk_un (by omega)]
          exact h1 k (by omega)
        · rw [hseg, hdg, zs_step, zs_step, Nat.pow_succ, ← hf0, Nat.mul_add]
          have h6 : q * (uI (fb i) * 4294967296 ^ i) = q * uI (fb i) * 4294967296 ^ i := (Nat.mul_assoc _ _ _).symm
          have h7 : (dg + (q * uI (fb i) + c)) * 4294967296 ^ i = (uI (f (j + i)) + ((q * uI (fb i) + c) / 4294967296 + bw) * 4294967296) * 4294967296 ^ i := by rw [heq]
          rw [Nat.add_mul, Nat.add_mul, Nat.add_mul] at h7
          have h8 : ((q * uI (fb i) + c) / 4294967296 + bw) * 4294967296 * 4294967296 ^ i = ((q * uI (fb i) + c) / 4294967296 + bw) * (4294967296 ^ i * 4294967296) := by rw [Nat.mul_assoc, Nat.mul_comm 4294967296]
          omega
      have hsh8 : (x8.toUInt64 >>> ((32 : Int32).toInt64.toUInt64 &&& Int64.toUInt64 63)).toInt64 = lN ((q * uI (fb i) + c) / 4294967296) := by rw [e8, lN_sh32 (by omega)]
      have hdm := Nat.div_add_mod (q * uI (fb i) + c) 4294967296
      by_cases hle : (q * uI (fb i) + c) % 4294967296 ≤ uI (f (j + i))
      · rw [if_pos hle] at e11'
        refine main (uI (f (j + i)) - (q * uI (fb i) + c) % 4294967296) 0 ?_ ?_ (by omega)
        · rw [e11', uI_lN (by omega), Nat.mod_eq_of_lt (by omega)]
        · rw [e14, hsh8, e11', lN_sh63 (by omega), Nat.div_eq_of_lt (a := uI (f (j + i)) - (q * uI (fb i) + c) % 4294967296) (by omega), lN_add]
      · rw [if_neg hle] at e11'
        refine main (4294967296 + uI (f (j + i)) - (q * uI (fb i) + c) % 4294967296) 1 ?_ ?_ (by omega)
        · rw [e11', uI_lN (by omega)]
          omega
        · rw [e14, hsh8, e11', lN_sh63 (by omega), lN_add]
          congr 2
          omega
theorem q5_take {G : Nat → ClassId} {M : zm_M} {w r cap u b rb capb n q j V : Nat} {f fb : Nat → Int32} (h : zwd G M w r cap u f) (hb : zwd G M b rb capb n fb) (hV : V = zs (fun i => uI (fb i)) n) (hr : rb ≠ r) (hq : q < 4294967296) (hjn : j + n ≤ u) {post : Int32 → zm_M → Prop} (hp : ∀ (M' : zm_M) (f' : Nat → Int32) (c : Nat), zof M M' r r → zwd G M' w r cap u f' → (∀ i, i < j → f' i = f i) → (∀ i, j + n ≤ i → f' i = f i) → zs (fun i => uI (f' (j + i))) n + q * V = zs (fun i => uI (f (j + i))) n + c * 4294967296 ^ n → post (if zld u f ((j + n : Nat) : Int) < c then 0 else 1) M') : pX5_takeTimes G w b (lN q) (nI j) post M := by
  have hcap := h.2.2.2
  have hu := h.2.2.1
  have hcb := hb.2.2.2
  have hub := hb.2.2.1
  have hbr : b ≠ r := fun e => by
    have h1 := hb.1
    rw [e, h.2.1] at h1
    cases h1
  unfold pX5_takeTimes
  refine ⟨_, _, hb.1, rfl, _, _, h.1, rfl, fun x3 e3 x4 e4 x5 e5 => ⟨n + 1, ?_⟩⟩
  have e3' : x3 = nI n := by
    rw [e3, pk_sub (by omega), if_neg (nI_nlt (by omega) (by omega))]
  have e4' : x4 = lN 0 := e4
  rw [e3', e4', e5]
  refine q5_ttL (M0 := M) (f0 := f) (fb := fb) (rb := rb) (capb := capb) (V := V) hq hjn hb hV hr hbr (fun M' f' c ho h' hc h0 h1 he => ⟨zwd_ob h', q5_limb0 h' ?_⟩) n 0 M f 0 (by omega) zof_rf h (fun _ _ => rfl) (fun _ _ => rfl) rfl
  have h3 := hp M' f' c ho h' h0 h1 he
  rw [nI_add, nI_toInt (by omega)]
  have hzz : zld u f' ((j + n : Nat) : Int) = zld u f ((j + n : Nat) : Int) := by
    unfold zld
    by_cases hc2 : ((j + n : Nat) : Int) < 0 ∨ (u : Int) ≤ ((j + n : Nat) : Int)
    · rw [if_pos hc2, if_pos hc2]
    · rw [if_neg hc2, if_neg hc2]
      show uI (f' (j + n)) = uI (f (j + n))
      rw [h1 _ (Nat.le_refl _)]
  rw [hzz]
  have zl := zld_lt u f ((j + n : Nat) : Int)
  have hlt : lN (zld u f ((j + n : Nat) : Int)) < lN c ↔ zld u f ((j + n : Nat) : Int) < c := pk_lLT (by omega) (by omega)
  refine ⟨fun z => ⟨zb_0, ?_⟩, fun z => ⟨zb_1, ?_⟩⟩
  · rw [if_pos (hlt.mp z)] at h3
    exact h3
  · rw [if_neg (fun y => z (hlt.mpr y))] at h3
    exact h3
