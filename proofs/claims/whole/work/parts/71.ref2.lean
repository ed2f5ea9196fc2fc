/-! ===== THE REFERENCE: add, less, twice, half, bits ===== -/
theorem sar_t (a : Int64) {k : Nat} (hk : k < 64) : (a >>> ((nI k).toInt64 &&& 63)).toInt = a.toInt >>> k := by
  show (a.toBitVec.sshiftRight (((nI k).toInt64 &&& 63).toBitVec.smod 64).toNat).toInt = _
  rw [zk_sh64 k hk, BitVec.toInt_sshiftRight]
  rfl
theorem sar_n {n k : Nat} (h : n < 2 ^ 63) (hk : k < 64) : lN n >>> ((nI k).toInt64 &&& 63) = lN (n / 2 ^ k) := by
  apply Int64.toInt_inj.mp
  have h2 : n / 2 ^ k ≤ n := Nat.div_le_self _ _
  rw [sar_t _ hk, pk_lT h, pk_lT (by omega), Int.shiftRight_eq_div_pow]
  rfl
theorem sar32 {n : Nat} (h : n < 2 ^ 63) : lN n >>> ((32 : Int32).toInt64 &&& 63) = lN (n / 4294967296) := sar_n (k := 32) h (by decide)
theorem sar1 {n : Nat} (h : n < 2 ^ 63) : lN n >>> ((1 : Int32).toInt64 &&& 63) = lN (n / 2) := sar_n (k := 1) h (by decide)
theorem sar_m {n : Nat} (h1 : 1 ≤ n) (h2 : n ≤ 4294967296) : (-(lN n)) >>> ((32 : Int32).toInt64 &&& 63) = -(lN 1) := by
  apply Int64.toInt_inj.mp
  have e1 : (-(lN n)).toInt = -(n : Int) := by
    rw [Int64.toInt_neg, pk_lT (by omega), Int.bmod_eq_of_le (by omega) (by omega)]
  have e2 : (-(lN 1)).toInt = -1 := by decide
  have := sar_t (-(lN n)) (k := 32) (by decide)
  rw [show (nI 32).toInt64 = ((32 : Int32).toInt64) from rfl] at this
  rw [this, e1, e2, Int.shiftRight_eq_div_pow]
  show -(n : Int) / 4294967296 = -1
  omega
theorem gLN {g : Nat → Int64} {r i : Nat} : g (72 * r + i) = lN (dgt g r i) := lN_of rfl
theorem lN_lo {n : Nat} (h : n < 18446744073709551616) : lN n &&& (4294967295 : Int64) = lN (n % 4294967296) := lN_of (by rw [uN_lo, uN_lN h])
section R72
variable {G : Nat → ClassId} {Bm : Nat} {M0 M : zm_M} {ι : Nat → Int32} {α : Nat → Nat → Int32} {K g : Nat → Int64} {n : Nat → Int32}
/-- the digit k of a number that register r holds, and how it is read -/
theorem q7_addL {post : zm_M → Prop} {k134 : Nat → Int32 → Int32 → Int64 → zm_M → Prop} {to a u w vt va most : Nat} {g0 : Nat → Int64} (hto : to < 24) (ha : a < 24) (hta : to ≠ a) (hn : n to = nI u) (hm : n a = nI w) (hu : u ≤ 72) (hw : w ≤ 72) (hvt : vt = zs (dgt g0 to) u) (hdt : ∀ i, i < u → dgt g0 to i < 4294967296) (hva : va = zs (dgt g0 a) w) (hda : ∀ i, i < w → dgt g0 a i < 4294967296) (hmost : most < 72) (hp : ∀ (M' : zm_M) (g' : Nat → Int64) (c : Nat), zN G Bm M0 M' ι α K g' n → zfm to g0 g' n n → c ≤ 1 → (∀ i, i < most → dgt g' to i < 4294967296) → zs (dgt g' to) most + c * 4294967296 ^ most = zs (zdg vt) most + zs (zdg va) most → k134 Bm (nI to) (nI most) (lN c) M') : ∀ (d k : Nat) (M : zm_M) (g : Nat → Int64) (c : Nat), k + d = most → zN G Bm M0 M ι α K g n → zfm to g0 g n n → c ≤ 1 → (∀ i, i < k → dgt g to i < 4294967296) → (∀ i, k ≤ i → i < 72 → g (72 * to + i) = g0 (72 * to + i)) → zs (dgt g to) k + c * 4294967296 ^ k = zs (zdg vt) k + zs (zdg va) k → pX7_add_37 G post k134 (d + 1) Bm (nI to) (nI a) (nI most) (lN c) (nI k) M
  | 0, k, M, g, c, hk, h, hf, hc, hlt, hsame, he => by
    rw [pX7_add_37]
    have e : k = most := by omega
    subst e
    exact ⟨fun _ => hp M g c h hf hc hlt he, fun y => absurd ((nI_leI (by omega) (by omega)).mpr (Nat.le_refl _)) y⟩
  | d + 1, k, M, g, c, hk, h, hf, hc, hlt, hsame, he => by
    rw [pX7_add_37]
    have za := zdg_lt va k
    have zt := zdg_lt vt k
    have dt := zrg_dig (n := n) hvt hdt k
    have da := zrg_dig (n := n) hva hda k
    have last : ∀ x y : Int64, x = lN (zdg vt k) → y = lN (zdg va k) → pX7_add_99 G post (pX7_add_37 G post k134 (d + 1)) Bm (nI to) (nI a) (nI most) (nI k) (lN c) x y M := by
      intro x y hx hy
      unfold pX7_add_99
      intro x13 e13
      rw [hx, hy, lN_add, lN_add] at e13
      refine gA h (gW h (z72 to k) (by omega) (fun M2 k2 x16 e16 x17 e17 => ?_))
      rw [e13, sar32 (by omega)] at e16
      rw [e13, lN_lo (by omega)] at k2
      rw [e16, e17, nI_1]
      refine q7_addL hto ha hta hn hm hu hw hvt hdt hva hda hmost hp d (k + 1) M2 _ _ (by omega) k2 (zfm_t hf (zfm_g (by omega))) (by omega) (fun i hi => ?_) (fun i i1 i2 => ?_) ?_
      · by_cases e : i = k
        · rw [e, dgt_s, uN_lN (by omega)]
          omega
        · rw [dgt_n e]
          exact hlt i (by omega)
      · rw [pk_uLn (by omega)]
        exact hsame i (by omega) i2
      · have hseg : zs (dgt (vp_updL g (72 * to + k) (lN ((c + (zdg vt k + zdg va k)) % 4294967296))) to) (k + 1) = zs (dgt g to) k + (c + (zdg vt k + zdg va k)) % 4294967296 * 4294967296 ^ k := by
          rw [zs_step, zs_congr (d' := dgt g to) (fun i hi => dgt_n (by omega)), dgt_s, uN_lN (by omega)]
        rw [hseg, zs_step, zs_step, Nat.pow_succ]
        have h5 : (c + (zdg vt k + zdg va k)) / 4294967296 * (4294967296 ^ k * 4294967296) + (c + (zdg vt k + zdg va k)) % 4294967296 * 4294967296 ^ k = (c + (zdg vt k + zdg va k)) * 4294967296 ^ k := by
          rw [Nat.mul_comm (4294967296 ^ k) 4294967296, ← Nat.mul_assoc, ← Nat.add_mul]
          congr 1
          omega
        have h6 : (c + (zdg vt k + zdg va k)) * 4294967296 ^ k = c * 4294967296 ^ k + zdg vt k * 4294967296 ^ k + zdg va k * 4294967296 ^ k := by rw [Nat.add_mul, Nat.add_mul, Nat.add_assoc]
        omega
    have mid : ∀ x : Int64, x = lN (zdg vt k) → pX7_add_72 G post (pX7_add_37 G post k134 (d + 1)) Bm (nI to) (nI a) (nI most) (nI k) (lN c) x M := by
      intro x hx
      unfold pX7_add_72
      refine nA h (nR h ha ?_)
      rw [hm]
      refine ⟨fun y => last x 0 hx ?_, fun y => gA h (gR7 h (z72 a k) (by omega) (last x _ hx ?_))⟩
      · have := (nI_leI (by omega) (by omega)).mp y
        rw [if_neg (by omega)] at da
        rw [← da]
        rfl
      · have : ¬ w ≤ k := fun z => y ((nI_leI (by omega) (by omega)).mpr z)
        rw [if_pos (by omega)] at da
        rw [← da, gLN (g := g), zfm_d hf (Ne.symm hta) (by omega)]
    refine ⟨fun y => absurd ((nI_leI (by omega) (by omega)).mp y) (by omega), fun _ => nA h (nR h hto ?_)⟩
    rw [hn]
    refine ⟨fun y => mid 0 ?_, fun y => gA h (gR7 h (z72 to k) (by omega) (mid _ ?_))⟩
    · have := (nI_leI (by omega) (by omega)).mp y
      rw [if_neg (by omega)] at dt
      rw [← dt]
      rfl
    · have : ¬ u ≤ k := fun z => y ((nI_leI (by omega) (by omega)).mpr z)
      rw [if_pos (by omega)] at dt
      rw [← dt, hsame k (Nat.le_refl _) (by omega), gLN (g := g0)]
theorem q7_add {post : zm_M → Prop} {to a vt va : Nat} (h : zN G Bm M0 M ι α K g n) (hto : to < 24) (ha : a < 24) (hta : to ≠ a) (hvt : zrg g n to vt) (hva : zrg g n a va) (hst : vt < 4294967296 ^ 71) (hsa : va < 4294967296 ^ 71) (hp : ∀ (M' : zm_M) (g' : Nat → Int64) (n' : Nat → Int32), zN G Bm M0 M' ι α K g' n' → zfm to g g' n n' → zrg g' n' to (vt + va) → post M') : pX7_add G Bm (nI to) (nI a) post M := by
  obtain ⟨u, hn, hu, hd, he, ht⟩ := hvt
  obtain ⟨w, hm, hw, hc, hf, hs⟩ := hva
  have small : ∀ {x ux' : Nat} {gx : Nat → Nat}, x = zs gx ux' → (0 < ux' → gx (ux' - 1) ≠ 0) → x < 4294967296 ^ 71 → ux' ≤ 71 := by
    intro x ux' gx e1 e2 e3
    rcases Nat.lt_or_ge 71 ux' with c | c
    · have h2 := zs_top (d := gx) (u := ux') (by omega) (e2 (by omega))
      have h3 : 4294967296 ^ 71 ≤ 4294967296 ^ (ux' - 1) := Nat.pow_le_pow_right (by decide) (by omega)
      omega
    · exact c
  have hu71 := small he ht hst
  have hw71 := small hf hs hsa
  have fin : ∀ most : Nat, u ≤ most → w ≤ most → most ≤ 71 → pX7_add_37 G post (fun w22 w23 w24 w25 M26 => zw_ga M26 w22 10 9 (fun g_27 => zw_sl (G 3) M26 g_27 (((72 : Int32) * w23) + w24) w25 (fun M28 => zw_ga M28 w22 10 10 (fun n_29 => zw_si (G 0) M28 n_29 w23 (w24 + (1 : Int32)) (fun M30 => zw_ob M30 w22 10 ∧ pX7_trim G w22 w23 (fun M31 => post M31) M30))))) (most + 1) Bm (nI to) (nI a) (nI most) (lN 0) (nI 0) M := by
    intro most h1 h2 h3
    refine q7_addL (g0 := g) hto ha hta hn hm hu hw he hd hf hc (by omega) (fun M1 g1 c k1 f1 hc1 hlt1 e1 => gA k1 (gW k1 (z72 to most) (by omega) (fun M2 k2 => nA k2 (nW k2 hto (fun M3 k3 => ⟨zN_o k3, ?_⟩))))) most 0 M g 0 (by omega) h zfm_rf (by decide) (fun i hi => absurd hi (by omega)) (fun _ _ _ => rfl) rfl
    have hvt' : vt < 4294967296 ^ most := by rw [he]; exact Nat.lt_of_lt_of_le (zs_lt hd) (Nat.pow_le_pow_right (by decide) h1)
    have hva' : va < 4294967296 ^ most := by rw [hf]; exact Nat.lt_of_lt_of_le (zs_lt hc) (Nat.pow_le_pow_right (by decide) h2)
    have hdig : zs (dgt (vp_updL g1 (72 * to + most) (lN c)) to) (most + 1) = vt + va := by
      rw [zs_step, zs_congr (d' := dgt g1 to) (fun i hi => dgt_n (by omega)), dgt_s, uN_lN (by omega), e1, zs_zdg' hvt', zs_zdg' hva']
    refine q7_trim (u := most + 1) k3 hto (by rw [pk_us, nI_1]) (by omega) (fun i hi => ?_) (fun M4 n4 k4 q4 v4 => ?_)
    · by_cases e : i = most
      · rw [e, dgt_s, uN_lN (by omega)]
        omega
      · rw [dgt_n e]
        exact hlt1 i (by omega)
    · rw [hdig] at v4
      exact hp M4 _ n4 k4 ⟨fun j hj => by rw [pk_uLn (by omega)]; exact f1.1 j hj, fun q hq => (q4 q hq).trans (pk_un hq)⟩ v4
  unfold pX7_add
  refine nA h (nR h hto (nA h (nR h ha ⟨fun y => nA h (nR h ha (fun x7 e7 x8 e8 => ?_)), fun y => nA h (nR h hto (fun x7 e7 x8 e8 => ?_))⟩)))
  · rw [hn, hm] at y
    have := (nI_leI (by omega) (by omega)).mp y
    rw [e7, e8, hm]
    exact ⟨w + 1, fin w (by omega) (Nat.le_refl _) hw71⟩
  · rw [hn, hm] at y
    have : ¬ u ≤ w := fun c => y ((nI_leI (by omega) (by omega)).mpr c)
    rw [e7, e8, hn]
    exact ⟨u + 1, fin u (Nat.le_refl _) (by omega) hu71⟩
/-- less: from - a, a not above -/
theorem q7_lessL {post : zm_M → Prop} {k87 : Nat → Int32 → zm_M → Prop} {fr a u w vt va : Nat} {g0 : Nat → Int64} (hfr : fr < 24) (ha : a < 24) (hta : fr ≠ a) (hn : n fr = nI u) (hm : n a = nI w) (hu : u ≤ 72) (hw : w ≤ 72) (hvt : vt = zs (dgt g0 fr) u) (hdt : ∀ i, i < u → dgt g0 fr i < 4294967296) (hva : va = zs (dgt g0 a) w) (hda : ∀ i, i < w → dgt g0 a i < 4294967296) (hp : ∀ (M' : zm_M) (g' : Nat → Int64) (b : Nat), zN G Bm M0 M' ι α K g' n → zfm fr g0 g' n n → (∀ i, i < u → dgt g' fr i < 4294967296) → zs (dgt g' fr) u + zs (zdg va) u = zs (zdg vt) u + b * 4294967296 ^ u → k87 Bm (nI fr) M') : ∀ (d k : Nat) (M : zm_M) (g : Nat → Int64) (b : Nat) (cx : Int64), k + d = u → zN G Bm M0 M ι α K g n → zfm fr g0 g n n → b ≤ 1 → cx = -(lN b) → (∀ i, i < k → dgt g fr i < 4294967296) → (∀ i, k ≤ i → i < 72 → g (72 * fr + i) = g0 (72 * fr + i)) → zs (dgt g fr) k + zs (zdg va) k = zs (zdg vt) k + b * 4294967296 ^ k → pX7_less_5 G post k87 (d + 1) Bm (nI fr) (nI a) cx (nI k) M
  | 0, k, M, g, b, cx, hk, h, hf, hb, hcx, hlt, hsame, he => by
    rw [pX7_less_5]
    have e : k = u := by omega
    subst e
    refine nA h (nR h hfr ?_)
    rw [hn]
    exact ⟨fun _ => hp M g b h hf hlt he, fun y => absurd ((nI_leI (by omega) (by omega)).mpr (Nat.le_refl _)) y⟩
  | d + 1, k, M, g, b, cx, hk, h, hf, hb, hcx, hlt, hsame, he => by
    rw [pX7_less_5]
    have za := zdg_lt va k
    have zt := zdg_lt vt k
    have dt := zrg_dig (n := n) hvt hdt k
    have da := zrg_dig (n := n) hva hda k
    rw [if_pos (by omega)] at dt
    have hread : g (72 * fr + k) = lN (zdg vt k) := by rw [← dt, hsame k (Nat.le_refl _) (by omega), gLN (g := g0)]
    -- the digit and the borrow
    obtain ⟨dg, b', hdg, hb', hrel⟩ : ∃ dg b' : Nat, dg < 4294967296 ∧ b' ≤ 1 ∧ dg + (zdg va k + b) = zdg vt k + b' * 4294967296 := by
      by_cases c : zdg va k + b ≤ zdg vt k
      · exact ⟨zdg vt k - (zdg va k + b), 0, by omega, by omega, by omega⟩
      · exact ⟨4294967296 + zdg vt k - (zdg va k + b), 1, by omega, by omega, by omega⟩
    have last : ∀ y : Int64, y = lN (zdg va k) → pX7_less_56 G post (pX7_less_5 G post k87 (d + 1)) Bm (nI fr) (nI a) (nI k) cx (g (72 * fr + k)) y M := by
      intro y hy
      unfold pX7_less_56
      intro x9 e9
      have e9' : x9 = if b' = 0 then lN dg else -(lN (4294967296 - dg)) := by
        rw [e9, hcx, hread, hy]
        apply Int64.toInt_inj.mp
        have i1 : (-(lN b)).toInt = -(b : Int) := by rw [Int64.toInt_neg, pk_lT (by omega), Int.bmod_eq_of_le (by omega) (by omega)]
        have i2 : (lN (zdg vt k) - lN (zdg va k)).toInt = (zdg vt k : Int) - zdg va k := by rw [Int64.toInt_sub, pk_lT (by omega), pk_lT (by omega), Int.bmod_eq_of_le (by omega) (by omega)]
        rw [Int64.toInt_add, i1, i2, Int.bmod_eq_of_le (by omega) (by omega)]
        by_cases c : b' = 0
        · rw [if_pos c, pk_lT (by omega)]
          rw [c] at hrel
          omega
        · rw [if_neg c, Int64.toInt_neg, pk_lT (by omega), Int.bmod_eq_of_le (by omega) (by omega)]
          have : b' = 1 := by omega
          rw [this] at hrel
          omega
      have elo : x9 &&& (4294967295 : Int64) = lN dg := by
        rw [e9']
        by_cases c : b' = 0
        · rw [if_pos c, lN_lo (by omega), Nat.mod_eq_of_lt hdg]
        · rw [if_neg c]
          refine lN_of ?_
          rw [uN_lo]
          have hz : uN (-(lN (4294967296 - dg))) = (18446744073709551616 - (4294967296 - dg)) % 18446744073709551616 := by
            have := uN_sub 0 (lN (4294967296 - dg))
            rw [Int64.zero_sub, uN_0, uN_lN (by omega), Nat.zero_add] at this
            exact this
          rw [hz]
          omega
      have esh : x9 >>> ((32 : Int32).toInt64 &&& 63) = -(lN b') := by
        rw [e9']
        by_cases c : b' = 0
        · rw [if_pos c, sar32 (by omega), c, Nat.div_eq_of_lt hdg]
          rfl
        · rw [if_neg c, sar_m (by omega) (by omega)]
          have : b' = 1 := by omega
          rw [this]
      refine gA h (gW h (z72 fr k) (by omega) (fun M2 k2 x16 e16 x17 e17 => ?_))
      rw [elo] at k2
      rw [e17, nI_1]
      refine q7_lessL hfr ha hta hn hm hu hw hvt hdt hva hda hp d (k + 1) M2 _ b' x16 (by omega) k2 (zfm_t hf (zfm_g (by omega))) hb' (e16.trans esh) (fun i hi => ?_) (fun i i1 i2 => ?_) ?_
      · by_cases e : i = k
        · rw [e, dgt_s, uN_lN (by omega)]
          exact hdg
        · rw [dgt_n e]
          exact hlt i (by omega)
      · rw [pk_uLn (by omega)]
        exact hsame i (by omega) i2
      · have hseg : zs (dgt (vp_updL g (72 * fr + k) (lN dg)) fr) (k + 1) = zs (dgt g fr) k + dg * 4294967296 ^ k := by
          rw [zs_step, zs_congr (d' := dgt g fr) (fun i hi => dgt_n (by omega)), dgt_s, uN_lN (by omega)]
        rw [hseg, zs_step, zs_step, Nat.pow_succ]
        have h7 : (dg + (zdg va k + b)) * 4294967296 ^ k = (zdg vt k + b' * 4294967296) * 4294967296 ^ k := by rw [hrel]
        rw [Nat.add_mul, Nat.add_mul, Nat.add_mul] at h7
        have h8 : b' * 4294967296 * 4294967296 ^ k = b' * (4294967296 ^ k * 4294967296) := by rw [Nat.mul_assoc, Nat.mul_comm 4294967296]
        omega
    refine nA h (nR h hfr ?_)
    rw [hn]
    refine ⟨fun y => absurd ((nI_leI (by omega) (by omega)).mp y) (by omega), fun _ => gA h (gR7 h (z72 fr k) (by omega) (nA h (nR h ha ?_)))⟩
    rw [hm]
    refine ⟨fun y => last 0 ?_, fun y => gA h (gR7 h (z72 a k) (by omega) (last _ ?_))⟩
    · have := (nI_leI (by omega) (by omega)).mp y
      rw [if_neg (by omega)] at da
      rw [← da]
      rfl
    · have : ¬ w ≤ k := fun z => y ((nI_leI (by omega) (by omega)).mpr z)
      rw [if_pos (by omega)] at da
      rw [← da, gLN (g := g), zfm_d hf (Ne.symm hta) (by omega)]
theorem q7_less {post : zm_M → Prop} {fr a vt va : Nat} (h : zN G Bm M0 M ι α K g n) (hfr : fr < 24) (ha : a < 24) (hta : fr ≠ a) (hvt : zrg g n fr vt) (hva : zrg g n a va) (hle : va ≤ vt) (hp : ∀ (M' : zm_M) (g' : Nat → Int64) (n' : Nat → Int32), zN G Bm M0 M' ι α K g' n' → zfm fr g g' n n' → zrg g' n' fr (vt - va) → post M') : pX7_less G Bm (nI fr) (nI a) post M := by
  obtain ⟨u, hn, hu, hd, he, ht⟩ := hvt
  obtain ⟨w, hm, hw, hc, hf, hs⟩ := hva
  unfold pX7_less
  refine fun x1 e1 x2 e2 => ⟨u + 1, ?_⟩
  rw [e2]
  have hvt' : vt < 4294967296 ^ u := by rw [he]; exact zs_lt hd
  refine q7_lessL (g0 := g) hfr ha hta hn hm hu hw he hd hf hc (fun M1 g1 b k1 f1 hlt1 e1 => ⟨zN_o k1, ?_⟩) u 0 M g 0 x1 (by omega) h zfm_rf (by decide) (by rw [e1]; rfl) (fun i hi => absurd hi (by omega)) (fun _ _ _ => rfl) rfl
  rw [zs_zdg' hvt', zs_zdg' (Nat.lt_of_le_of_lt hle hvt')] at e1
  have hl := zs_lt (n := u) hlt1
  have hb0 : b = 0 := by
    rcases Nat.eq_zero_or_pos b with z | z
    · exact z
    · have : 1 * 4294967296 ^ u ≤ b * 4294967296 ^ u := Nat.mul_le_mul_right _ z
      omega
  rw [hb0, Nat.zero_mul, Nat.add_zero] at e1
  refine q7_trim (u := u) k1 hfr hn hu hlt1 (fun M4 n4 k4 q4 v4 => ?_)
  rw [show zs (dgt g1 fr) u = vt - va by omega] at v4
  exact hp M4 _ n4 k4 ⟨f1.1, q4⟩ v4
end R72
