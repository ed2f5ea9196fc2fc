/-! ===== THE REFERENCE: twice, timesSmall, half, bits, bySmall ===== -/
theorem zsc_step {S' X c q d m k : Nat} (h : S' + c * 4294967296 ^ k = X * q + m) : S' + (c + d * q) % 4294967296 * 4294967296 ^ k + (c + d * q) / 4294967296 * (4294967296 ^ k * 4294967296) = (X + d * 4294967296 ^ k) * q + m := by
  have h5 : (c + d * q) / 4294967296 * (4294967296 ^ k * 4294967296) + (c + d * q) % 4294967296 * 4294967296 ^ k = (c + d * q) * 4294967296 ^ k := by
    rw [Nat.mul_comm (4294967296 ^ k) 4294967296, ← Nat.mul_assoc, ← Nat.add_mul]
    congr 1
    omega
  have h6 : (c + d * q) * 4294967296 ^ k = c * 4294967296 ^ k + d * q * 4294967296 ^ k := Nat.add_mul _ _ _
  have h7 : (X + d * 4294967296 ^ k) * q = X * q + d * 4294967296 ^ k * q := Nat.add_mul _ _ _
  have h8 : d * 4294967296 ^ k * q = d * q * 4294967296 ^ k := Nat.mul_right_comm _ _ _
  omega
theorem lN_or2 {c d : Nat} (hc : c < 2) (hd : d < 4294967296) : lN c ||| (lN d <<< ((1 : Int32).toInt64 &&& 63)) = lN (c + d * 2) := by
  rw [Int64.or_comm]
  refine lN_of ?_
  rw [uN_or (by rw [uN_lN (by omega)]; exact hc), uN_lN (by omega), uN_lN (by omega)]
  omega
theorem zsmall71 {x u : Nat} {gx : Nat → Nat} (e1 : x = zs gx u) (e2 : 0 < u → gx (u - 1) ≠ 0) (e3 : x < 4294967296 ^ 71) : u ≤ 71 := by
  rcases Nat.lt_or_ge 71 u with c | c
  · have h2 := zs_top (d := gx) (u := u) (by omega) (e2 (by omega))
    have h3 : 4294967296 ^ 71 ≤ 4294967296 ^ (u - 1) := Nat.pow_le_pow_right (by decide) (by omega)
    omega
  · exact c
section R73
variable {G : Nat → ClassId} {Bm : Nat} {M0 M : zm_M} {ι : Nat → Int32} {α : Nat → Nat → Int32} {K g : Nat → Int64} {n : Nat → Int32}
theorem q7_twL {post : zm_M → Prop} {k67 : Nat → Int32 → Int64 → zm_M → Prop} {r u v m : Nat} {g0 : Nat → Int64} (hr : r < 24) (hn : n r = nI u) (hu : u ≤ 71) (hv : v = zs (dgt g0 r) u) (hd : ∀ i, i < u → dgt g0 r i < 4294967296) (hp : ∀ (M' : zm_M) (g' : Nat → Int64) (c : Nat), zN G Bm M0 M' ι α K g' n → zfm r g0 g' n n → c < 2 → (∀ i, i < u → dgt g' r i < 4294967296) → zs (dgt g' r) u + c * 4294967296 ^ u = v * 2 + m → k67 Bm (nI r) (lN c) M') : ∀ (d k : Nat) (M : zm_M) (g : Nat → Int64) (c : Nat), k + d = u → zN G Bm M0 M ι α K g n → zfm r g0 g n n → c < 2 → (∀ i, i < k → dgt g r i < 4294967296) → (∀ i, k ≤ i → i < 72 → g (72 * r + i) = g0 (72 * r + i)) → zs (dgt g r) k + c * 4294967296 ^ k = zs (zdg v) k * 2 + m → pX7_twice_6 G post k67 (d + 1) Bm (nI r) (lN c) (nI k) M
  | 0, k, M, g, c, hk, h, hf, hc, hlt, hsame, he => by
    rw [pX7_twice_6]
    have e : k = u := by omega
    subst e
    refine nA h (nR h hr ?_)
    rw [hn]
    have hvl : v < 4294967296 ^ k := by rw [hv]; exact zs_lt hd
    rw [zs_zdg' hvl] at he
    exact ⟨fun _ => hp M g c h hf hc hlt he, fun y => absurd ((nI_leI (by omega) (by omega)).mpr (Nat.le_refl _)) y⟩
  | d + 1, k, M, g, c, hk, h, hf, hc, hlt, hsame, he => by
    rw [pX7_twice_6]
    have zt := zdg_lt v k
    have dt := zrg_dig (n := n) hv hd k
    rw [if_pos (by omega)] at dt
    have hread : g (72 * r + k) = lN (zdg v k) := by rw [← dt, hsame k (Nat.le_refl _) (by omega), gLN (g := g0)]
    refine nA h (nR h hr ?_)
    rw [hn]
    refine ⟨fun y => absurd ((nI_leI (by omega) (by omega)).mp y) (by omega), fun _ => gA h (gR7 h (z72 r k) (by omega) (fun x6 e6 => gA h (gW h (z72 r k) (by omega) (fun M2 k2 x9 e9 x10 e10 => ?_))))⟩
    rw [hread, lN_or2 hc zt] at e6
    rw [e6, lN_sh32 (by omega)] at e9
    rw [e6, lN_lo (by omega)] at k2
    rw [e9, e10, nI_1]
    refine q7_twL hr hn hu hv hd hp d (k + 1) M2 _ _ (by omega) k2 (zfm_t hf (zfm_g (by omega))) (by omega) (fun i hi => ?_) (fun i i1 i2 => ?_) ?_
    · by_cases e : i = k
      · rw [e, dgt_s, uN_lN (by omega)]
        omega
      · rw [dgt_n e]
        exact hlt i (by omega)
    · rw [pk_uLn (by omega)]
      exact hsame i (by omega) i2
    · rw [zs_step, zs_congr (d' := dgt g r) (fun i hi => dgt_n (by omega)), dgt_s, uN_lN (by omega), zs_step, Nat.pow_succ]
      exact zsc_step he
theorem q7_twice {post : zm_M → Prop} {r v m : Nat} (h : zN G Bm M0 M ι α K g n) (hr : r < 24) (hv : zrg g n r v) (hm : m < 2) (hs : v < 4294967296 ^ 71) (hp : ∀ (M' : zm_M) (g' : Nat → Int64) (n' : Nat → Int32), zN G Bm M0 M' ι α K g' n' → zfm r g g' n n' → zrg g' n' r (v * 2 + m) → post M') : pX7_twice G Bm (nI r) (lN m) post M := by
  obtain ⟨u, hn, hu, hd, he, ht⟩ := hv
  have hu71 := zsmall71 he ht hs
  unfold pX7_twice
  refine fun x1 e1 => ⟨u + 1, ?_⟩
  rw [e1]
  refine q7_twL (g0 := g) (m := m) hr hn hu71 he hd (fun M1 g1 c k1 f1 hc1 hlt1 e1 => gA k1 (nA k1 (nR k1 hr ?_))) u 0 M g m (by omega) h zfm_rf hm (fun i hi => absurd hi (by omega)) (fun _ _ _ => rfl) (by show 0 + m * 4294967296 ^ 0 = 0 * 2 + m; omega)
  rw [hn]
  refine gW k1 (z72 r u) (by omega) (fun M2 k2 => nA k2 (nR k2 hr (nW k2 hr (fun M3 k3 => ⟨zN_o k3, ?_⟩))))
  rw [hn, nI_1] at k3
  have hdig : zs (dgt (vp_updL g1 (72 * r + u) (lN c)) r) (u + 1) = v * 2 + m := by
    rw [zs_step, zs_congr (d' := dgt g1 r) (fun i hi => dgt_n (by omega)), dgt_s, uN_lN (by omega), e1]
  refine q7_trim (u := u + 1) k3 hr pk_us (by omega) (fun i hi => ?_) (fun M4 n4 k4 q4 v4 => ?_)
  · by_cases e : i = u
    · rw [e, dgt_s, uN_lN (by omega)]
      omega
    · rw [dgt_n e]
      exact hlt1 i (by omega)
  · rw [hdig] at v4
    exact hp M4 _ n4 k4 ⟨fun j hj => by rw [pk_uLn (by omega)]; exact f1.1 j hj, fun q hq => (q4 q hq).trans (pk_un hq)⟩ v4
theorem q7_tsL {post : zm_M → Prop} {k68 : Nat → Int32 → Int64 → zm_M → Prop} {r u v m q : Nat} {g0 : Nat → Int64} (hr : r < 24) (hq : q < 2 ^ 31) (hn : n r = nI u) (hu : u ≤ 71) (hv : v = zs (dgt g0 r) u) (hd : ∀ i, i < u → dgt g0 r i < 4294967296) (hp : ∀ (M' : zm_M) (g' : Nat → Int64) (c : Nat), zN G Bm M0 M' ι α K g' n → zfm r g0 g' n n → c < 2 ^ 31 → (∀ i, i < u → dgt g' r i < 4294967296) → zs (dgt g' r) u + c * 4294967296 ^ u = v * q + m → k68 Bm (nI r) (lN c) M') : ∀ (d k : Nat) (M : zm_M) (g : Nat → Int64) (c : Nat), k + d = u → zN G Bm M0 M ι α K g n → zfm r g0 g n n → c < 2 ^ 31 → (∀ i, i < k → dgt g r i < 4294967296) → (∀ i, k ≤ i → i < 72 → g (72 * r + i) = g0 (72 * r + i)) → zs (dgt g r) k + c * 4294967296 ^ k = zs (zdg v) k * q + m → pX7_timesSmall_7 G post k68 (d + 1) Bm (nI r) (lN q) (lN c) (nI k) M
  | 0, k, M, g, c, hk, h, hf, hc, hlt, hsame, he => by
    rw [pX7_timesSmall_7]
    have e : k = u := by omega
    subst e
    refine nA h (nR h hr ?_)
    rw [hn]
    have hvl : v < 4294967296 ^ k := by rw [hv]; exact zs_lt hd
    rw [zs_zdg' hvl] at he
    exact ⟨fun _ => hp M g c h hf hc hlt he, fun y => absurd ((nI_leI (by omega) (by omega)).mpr (Nat.le_refl _)) y⟩
  | d + 1, k, M, g, c, hk, h, hf, hc, hlt, hsame, he => by
    rw [pX7_timesSmall_7]
    have zt := zdg_lt v k
    have dt := zrg_dig (n := n) hv hd k
    rw [if_pos (by omega)] at dt
    have hread : g (72 * r + k) = lN (zdg v k) := by rw [← dt, hsame k (Nat.le_refl _) (by omega), gLN (g := g0)]
    have hmul : zdg v k * q ≤ 4294967295 * 2147483647 := Nat.mul_le_mul (by omega) (by omega)
    refine nA h (nR h hr ?_)
    rw [hn]
    refine ⟨fun y => absurd ((nI_leI (by omega) (by omega)).mp y) (by omega), fun _ => gA h (gR7 h (z72 r k) (by omega) (fun x6 e6 => gA h (gW h (z72 r k) (by omega) (fun M2 k2 x9 e9 x10 e10 => ?_))))⟩
    rw [hread, lN_mul, lN_add] at e6
    rw [e6, lN_sh32 (by omega)] at e9
    rw [e6, lN_lo (by omega)] at k2
    rw [e9, e10, nI_1]
    refine q7_tsL hr hq hn hu hv hd hp d (k + 1) M2 _ _ (by omega) k2 (zfm_t hf (zfm_g (by omega))) (by omega) (fun i hi => ?_) (fun i i1 i2 => ?_) ?_
    · by_cases e : i = k
      · rw [e, dgt_s, uN_lN (by omega)]
        omega
      · rw [dgt_n e]
        exact hlt i (by omega)
    · rw [pk_uLn (by omega)]
      exact hsame i (by omega) i2
    · rw [zs_step, zs_congr (d' := dgt g r) (fun i hi => dgt_n (by omega)), dgt_s, uN_lN (by omega), zs_step, Nat.pow_succ]
      exact zsc_step he
theorem q7_timesSmall {post : zm_M → Prop} {r v m q : Nat} (h : zN G Bm M0 M ι α K g n) (hr : r < 24) (hv : zrg g n r v) (hq : q < 2 ^ 31) (hm : m < 2 ^ 31) (hs : v < 4294967296 ^ 71) (hp : ∀ (M' : zm_M) (g' : Nat → Int64) (n' : Nat → Int32), zN G Bm M0 M' ι α K g' n' → zfm r g g' n n' → zrg g' n' r (v * q + m) → post M') : pX7_timesSmall G Bm (nI r) (lN q) (lN m) post M := by
  obtain ⟨u, hn, hu, hd, he, ht⟩ := hv
  have hu71 := zsmall71 he ht hs
  unfold pX7_timesSmall
  refine fun x1 e1 => ⟨u + 1, ?_⟩
  rw [e1]
  refine q7_tsL (g0 := g) (m := m) hr hq hn hu71 he hd (fun M1 g1 c k1 f1 hc1 hlt1 e1 => gA k1 (nA k1 (nR k1 hr ?_))) u 0 M g m (by omega) h zfm_rf hm (fun i hi => absurd hi (by omega)) (fun _ _ _ => rfl) (by show 0 + m * 4294967296 ^ 0 = 0 * q + m; omega)
  rw [hn]
  refine gW k1 (z72 r u) (by omega) (fun M2 k2 => nA k2 (nR k2 hr (nW k2 hr (fun M3 k3 => ⟨zN_o k3, ?_⟩))))
  rw [hn, nI_1] at k3
  have hdig : zs (dgt (vp_updL g1 (72 * r + u) (lN c)) r) (u + 1) = v * q + m := by
    rw [zs_step, zs_congr (d' := dgt g1 r) (fun i hi => dgt_n (by omega)), dgt_s, uN_lN (by omega), e1]
  refine q7_trim (u := u + 1) k3 hr pk_us (by omega) (fun i hi => ?_) (fun M4 n4 k4 q4 v4 => ?_)
  · by_cases e : i = u
    · rw [e, dgt_s, uN_lN (by omega)]
      omega
    · rw [dgt_n e]
      exact hlt1 i (by omega)
  · rw [hdig] at v4
    exact hp M4 _ n4 k4 ⟨fun j hj => by rw [pk_uLn (by omega)]; exact f1.1 j hj, fun q hq => (q4 q hq).trans (pk_un hq)⟩ v4
/-- the half of a number, digit by digit -/
theorem zdg_half (v k : Nat) : zdg (v / 2) k = zdg v k / 2 + zdg v (k + 1) % 2 * 2147483648 := by
  unfold zdg
  rw [Nat.div_div_eq_div_mul, Nat.mul_comm 2, ← Nat.div_div_eq_div_mul, Nat.pow_succ, ← Nat.div_div_eq_div_mul]
  generalize v / 4294967296 ^ k = w
  omega
theorem q7_hfL {post : zm_M → Prop} {k81 : Nat → Int32 → zm_M → Prop} {r u v : Nat} {g0 : Nat → Int64} (hr : r < 24) (hn : n r = nI u) (hu : u ≤ 72) (hv : v = zs (dgt g0 r) u) (hd : ∀ i, i < u → dgt g0 r i < 4294967296) (hp : ∀ (M' : zm_M) (g' : Nat → Int64), zN G Bm M0 M' ι α K g' n → zfm r g0 g' n n → (∀ i, i < u → dgt g' r i = zdg (v / 2) i) → k81 Bm (nI r) M') : ∀ (d k : Nat) (M : zm_M) (g : Nat → Int64), k + d = u → zN G Bm M0 M ι α K g n → zfm r g0 g n n → (∀ i, i < k → dgt g r i = zdg (v / 2) i) → (∀ i, k ≤ i → i < 72 → g (72 * r + i) = g0 (72 * r + i)) → pX7_half_2 G post k81 (d + 1) Bm (nI r) (nI k) M
  | 0, k, M, g, hk, h, hf, hlt, hsame => by
    rw [pX7_half_2]
    refine nA h (nR h hr ?_)
    rw [hn]
    exact ⟨fun _ => hp M g h hf (fun i hi => hlt i (by omega)), fun y => absurd ((nI_leI (by omega) (by omega)).mpr (by omega)) y⟩
  | d + 1, k, M, g, hk, h, hf, hlt, hsame => by
    rw [pX7_half_2]
    have zt := zdg_lt v k
    have zt1 := zdg_lt v (k + 1)
    have dt := zrg_dig (n := n) hv hd k
    have dt1 := zrg_dig (n := n) hv hd (k + 1)
    rw [if_pos (by omega)] at dt
    have hread : g (72 * r + k) = lN (zdg v k) := by rw [← dt, hsame k (Nat.le_refl _) (by omega), gLN (g := g0)]
    have last : ∀ x : Int64, x = lN (zdg v (k + 1) % 2 * 2147483648) → pX7_half_48 G post (pX7_half_2 G post k81 (d + 1)) Bm (nI r) (nI k) x M := by
      intro x hx
      unfold pX7_half_48
      refine gA h (gA h (gR7 h (z72 r k) (by omega) (gW h (z72 r k) (by omega) (fun M2 k2 x10 e10 => ?_))))
      rw [e10, nI_1]
      have hval : (g (72 * r + k) >>> ((1 : Int32).toInt64 &&& 63)) ||| x = lN (zdg (v / 2) k) := by
        rw [hread, sar1 (by omega), hx, Int64.or_comm, zdg_half]
        refine lN_of ?_
        have ho : ∀ a b : Int64, uN (a ||| b) = uN a ||| uN b := fun a b => UInt64.toNat_or _ _
        rw [ho, uN_lN (by omega), uN_lN (by omega), zor_add (s := 31) (Nat.dvd_mul_left _ _) (by omega)]
        omega
      rw [hval] at k2
      have hzl := zdg_lt (v / 2) k
      refine q7_hfL hr hn hu hv hd hp d (k + 1) M2 _ (by omega) k2 (zfm_t hf (zfm_g (by omega))) (fun i hi => ?_) (fun i i1 i2 => ?_)
      · by_cases e : i = k
        · rw [e, dgt_s, uN_lN (by omega)]
        · rw [dgt_n e]
          exact hlt i (by omega)
      · rw [pk_uLn (by omega)]
        exact hsame i (by omega) i2
    refine nA h (nR h hr ?_)
    rw [hn]
    refine ⟨fun y => absurd ((nI_leI (by omega) (by omega)).mp y) (by omega), fun _ => nA h (nR h hr ?_)⟩
    rw [hn, nI_1]
    refine ⟨fun y => last 0 ?_, fun y => gA h ?_⟩
    · have := (nI_leI (by omega) (by omega)).mp y
      rw [if_neg (by omega)] at dt1
      rw [← dt1]
      rfl
    · have hlt1 : ¬ u ≤ k + 1 := fun z => y ((nI_leI (by omega) (by omega)).mpr z)
      rw [if_pos (by omega)] at dt1
      rw [z72, nI_1]
      refine gR7 h (j := 72 * r + (k + 1)) (by rw [show 72 * r + (k + 1) = 72 * r + k + 1 by omega]) (by omega) (last _ ?_)
      rw [hsame (k + 1) (by omega) (by omega), gLN (g := g0), dt1, show lN (zdg v (k + 1)) <<< ((31 : Int32).toInt64 &&& 63) = lN (zdg v (k + 1) * 2 ^ 31 % 18446744073709551616) from lN_shl64 (b := 31) (by omega) (by decide), lN_lo (Nat.mod_lt _ (by decide))]
      congr 1
      omega
theorem q7_half {post : zm_M → Prop} {r v : Nat} (h : zN G Bm M0 M ι α K g n) (hr : r < 24) (hv : zrg g n r v) (hp : ∀ (M' : zm_M) (g' : Nat → Int64) (n' : Nat → Int32), zN G Bm M0 M' ι α K g' n' → zfm r g g' n n' → zrg g' n' r (v / 2) → post M') : pX7_half G Bm (nI r) post M := by
  obtain ⟨u, hn, hu, hd, he, ht⟩ := hv
  have hvl : v < 4294967296 ^ u := by rw [he]; exact zs_lt hd
  unfold pX7_half
  refine fun x1 e1 => ⟨u + 1, ?_⟩
  rw [e1]
  refine q7_hfL (g0 := g) hr hn hu he hd (fun M1 g1 k1 f1 e1 => ⟨zN_o k1, q7_trim (u := u) k1 hr hn hu (fun i hi => by rw [e1 i hi]; exact zdg_lt _ _) (fun M4 n4 k4 q4 v4 => ?_)⟩) u 0 M g (by omega) h zfm_rf (fun i hi => absurd hi (by omega)) (fun _ _ _ => rfl)
  have hz : zs (dgt g1 r) u = v / 2 := by
    rw [zs_congr e1, zs_zdg']
    have := Nat.div_le_self v 2
    omega
  rw [hz] at v4
  exact hp M4 _ n4 k4 ⟨f1.1, q4⟩ v4
theorem lN_and (a b : Nat) (ha : a < 18446744073709551616) (hb : b < 18446744073709551616) : lN a &&& lN b = lN (a &&& b) := by
  refine lN_of ?_
  have ho : ∀ a b : Int64, uN (a &&& b) = uN a &&& uN b := fun a b => UInt64.toNat_and _ _
  rw [ho, uN_lN ha, uN_lN hb]
theorem q7_btL {post : Int32 → zm_M → Prop} {r u : Nat} (h : zN G Bm M0 M ι α K g n) (hr : r < 24) (hn : n r = nI u) (hu : u ≤ 72) (hu0 : 0 < u) (ht : dgt g r (u - 1) ≠ 0) (hp : post (nI (32 * (u - 1) + zbl (dgt g r (u - 1)))) M) : ∀ (j : Nat), j < 32 → dgt g r (u - 1) < 2 ^ (j + 1) → pX7_bits_14 G post (j + 1) Bm (nI r) (nI (32 * (u - 1) + (j + 1))) (lN (2 ^ j)) M
  | j, hj, hlt => by
    rw [pX7_bits_14]
    have hpj : 2 ^ j ≤ 2 ^ 31 := Nat.pow_le_pow_right (by decide) (by omega)
    have hpj1 : 2 ^ (j + 1) = 2 * 2 ^ j := by rw [Nat.pow_succ]; omega
    have hp0 : 0 < 2 ^ j := Nat.pow_pos (by decide)
    obtain ⟨w, hw⟩ : ∃ w, u = w + 1 := ⟨u - 1, by omega⟩
    have hw1 : u - 1 = w := by omega
    rw [hw1] at ht hp hlt ⊢
    refine nA h (nR h hr ?_)
    rw [hn]
    refine ⟨fun y => absurd ((nI_leI (b := 0) (by omega) (by decide)).mp y) (by omega), fun _ => gA h (nA h (nR h hr ?_))⟩
    rw [hn, z72, hw, show 72 * r + (w + 1) = 72 * r + w + 1 by omega, show nI (72 * r + w + 1) - (1 : Int32) = nI (72 * r + w) from nI_pred _]
    have hand : (g (72 * r + w) &&& lN (2 ^ j)) = (0 : Int64) ↔ dgt g r w < 2 ^ j := by
      have hlt2 : dgt g r w < 18446744073709551616 := uN_lt _
      rw [gLN (g := g), lN_and _ _ hlt2 (by omega), zand2]
      have hb : (dgt g r w).testBit j = decide (dgt g r w / 2 ^ j % 2 = 1) := Nat.testBit_eq_decide_div_mod_eq
      rw [hb]
      have hdv : dgt g r w / 2 ^ j < 2 := (Nat.div_lt_iff_lt_mul hp0).mpr (by omega)
      by_cases c : dgt g r w < 2 ^ j
      · rw [Nat.div_eq_of_lt c]
        exact ⟨fun _ => c, fun _ => rfl⟩
      · have h1 : 1 ≤ dgt g r w / 2 ^ j := (Nat.le_div_iff_mul_le hp0).mpr (by omega)
        have h2 : dgt g r w / 2 ^ j = 1 := by omega
        rw [h2]
        refine ⟨fun z => absurd z ?_, fun z => absurd z c⟩
        intro z
        have := uN_eq.mp z
        rw [if_pos (by decide), uN_lN (by omega)] at this
        have : 2 ^ j = 0 := this
        omega
    refine gR7 h rfl (by omega) ⟨fun y => ?_, fun y x11 e11 x12 e12 => ?_⟩
    · have hge : ¬ dgt g r w < 2 ^ j := fun c => y (hand.mpr c)
      have : zbl (dgt g r w) = j + 1 := zbl_of (by omega) hlt
      rw [this] at hp
      exact hp
    · have hl := hand.mp y
      cases j with
      | zero =>
        rw [Nat.pow_zero] at hl
        exact absurd (by omega) ht
      | succ j =>
        have e11' : x11 = nI (32 * w + (j + 1)) := by
          rw [e11, show 32 * w + (j + 1 + 1) = 32 * w + (j + 1) + 1 by omega, nI_m1']
          exact nI_pred _
        rw [sar1 (by omega), Nat.pow_succ, Nat.mul_div_cancel _ (by decide)] at e12
        rw [e11', e12]
        have key := q7_btL h hr hn hu hu0 (by rw [hw1]; exact ht) (by rw [hw1]; exact hp) j (by omega) (by rw [hw1]; exact hl)
        rw [hw1] at key
        exact key
theorem q7_bits {post : Int32 → zm_M → Prop} {r v : Nat} (h : zN G Bm M0 M ι α K g n) (hr : r < 24) (hv : zrg g n r v) (hp : post (nI (zbl v)) M) : pX7_bits G Bm (nI r) post M := by
  obtain ⟨u, hn, hu, hd, he, ht⟩ := hv
  unfold pX7_bits
  refine nA h (nR h hr (fun x3 e3 x4 e4 => ⟨32, ?_⟩))
  rw [hn] at e3
  have e3' : x3 = nI (32 * u) := by
    rw [e3]
    show Int32.ofNat 32 * Int32.ofNat u = Int32.ofNat (32 * u)
    rw [← Int32.ofNat_mul]
  rw [e3']
  have e4' : x4 = lN (2 ^ 31) := e4
  rw [e4']
  rcases Nat.eq_zero_or_pos u with z | z
  · subst z
    rw [pX7_bits_14]
    refine nA h (nR h hr ?_)
    rw [hn]
    have : v = 0 := he
    rw [this, zbl_0] at hp
    exact ⟨fun _ => hp, fun y => absurd (by decide) y⟩
  · have ht' := ht z
    have hdu := hd (u - 1) (by omega)
    have hbl : zbl v = 32 * (u - 1) + zbl (dgt g r (u - 1)) := by
      rw [he]
      have := zbl_zs (d := dgt g r) (u := u - 1) (fun i hi => hd i (by omega)) ht'
      rw [show u - 1 + 1 = u by omega] at this
      exact this
    rw [hbl] at hp
    have key := q7_btL h hr hn hu z ht' hp 31 (by decide) (by omega)
    rw [show 32 * (u - 1) + (31 + 1) = 32 * u by omega] at key
    exact key
end R73
