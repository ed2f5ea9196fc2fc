/-! ===== THE REFERENCE: bySmall, times ===== -/
section R74
variable {G : Nat → ClassId} {Bm : Nat} {M0 M : zm_M} {ι : Nat → Int32} {α : Nat → Nat → Int32} {K g : Nat → Int64} {n : Nat → Int32}
theorem q7_bsL {post : Int64 → zm_M → Prop} {k66 : Nat → Int32 → Int64 → zm_M → Prop} {r u v q : Nat} {g0 : Nat → Int64} (hr : r < 24) (hq0 : 0 < q) (hq : q < 2 ^ 31) (hu : u ≤ 72) (hv : v = zs (dgt g0 r) u) (hd : ∀ i, i < u → dgt g0 r i < 4294967296) (hp : ∀ (M' : zm_M) (g' : Nat → Int64), zN G Bm M0 M' ι α K g' n → zfm r g0 g' n n → (∀ i, i < u → dgt g' r i < 4294967296) → zs (dgt g' r) u = v / q → k66 Bm (nI r) (lN (v % q)) M') : ∀ (j : Nat) (M : zm_M) (g : Nat → Int64) (c : Nat), j ≤ u → zN G Bm M0 M ι α K g n → zfm r g0 g n n → (∀ i, i < j → g (72 * r + i) = g0 (72 * r + i)) → (∀ i, j ≤ i → i < u → dgt g r i < 4294967296) → c < q → zs (fun i => dgt g r (j + i)) (u - j) * q + c = v / 4294967296 ^ j → pX7_bySmall_13 G post k66 (j + 1) Bm (nI r) (lN q) (lN c) (nI j - 1) M
  | 0, M, g, c, hj, h, hf, hsame, hlt, hc, he => by
    rw [pX7_bySmall_13]
    refine ⟨fun _ => ?_, fun hh => absurd (show nI 0 - 1 < 0 by decide) hh⟩
    rw [Nat.pow_zero, Nat.div_one, Nat.sub_zero] at he
    have e1 : zs (fun i => dgt g r (0 + i)) u = zs (dgt g r) u := zs_congr (fun i _ => by rw [Nat.zero_add])
    rw [e1] at he
    have e2 : v / q = zs (dgt g r) u := by
      rw [← he, Nat.add_comm, Nat.add_mul_div_right _ _ hq0, Nat.div_eq_of_lt hc, Nat.zero_add]
    have e3 : v % q = c := by
      rw [← he, Nat.add_comm, Nat.add_mul_mod_self_right]
      exact Nat.mod_eq_of_lt hc
    have h1 := hp M g h hf (fun i hi => hlt i (Nat.zero_le _) hi) e2.symm
    rw [e3] at h1
    exact h1
  | j + 1, M, g, c, hj, h, hf, hsame, hlt, hc, he => by
    have hz := zdg_lt v j
    have dt := zrg_dig (n := n) hv hd j
    rw [if_pos (by omega)] at dt
    have hread : g (72 * r + j) = lN (zdg v j) := by rw [← dt, hsame j (by omega), gLN (g := g0)]
    rw [pX7_bySmall_13, nI_pred]
    have hm : c * 4294967296 ≤ (q - 1) * 4294967296 := Nat.mul_le_mul_right _ (by omega)
    have hm2 : (q - 1) * 4294967296 + 4294967296 = q * 4294967296 := by
      have : (q - 1) * 4294967296 + 1 * 4294967296 = (q - 1 + 1) * 4294967296 := (Nat.add_mul _ _ _).symm
      rw [show q - 1 + 1 = q by omega] at this
      omega
    have hne : ¬ lN q = (0 : Int64) := fun c => by
      have := (pk_lEQ (b := 0) (by omega) (by decide)).mp c
      omega
    refine ⟨fun hh => absurd (i32_lt.mp hh) (by rw [nI_toInt (by omega)]; omega), fun _ => gA h (gR7 h (z72 r j) (by omega) (fun x7 e7 => gA h ⟨hne, ?_⟩))⟩
    rw [hread, lN_pair (by omega) hz] at e7
    have hdv : x7 / lN q = lN ((c * 4294967296 + zdg v j) / q) := by
      rw [e7]
      exact pk_lDiv (by omega) hq0 (by omega)
    have hrm : x7 - x7 / lN q * lN q = lN ((c * 4294967296 + zdg v j) % q) := by
      rw [e7]
      exact pk_lRem (by omega) hq0 (by omega)
    refine gW h (z72 r j) (by omega) (fun M2 k2 => ⟨hne, fun x10 e10 x11 e11 => ?_⟩)
    rw [hdv] at k2
    rw [hrm] at e10
    rw [e10, e11, nI_m1']
    have hdl : (c * 4294967296 + zdg v j) / q < 4294967296 := (Nat.div_lt_iff_lt_mul hq0).mpr (by
      rw [Nat.mul_comm 4294967296 q]
      omega)
    refine q7_bsL hr hq0 hq hu hv hd hp j M2 _ _ (by omega) k2 (zfm_t hf (zfm_g (by omega))) (fun i hi => ?_) (fun i i1 i2 => ?_) (Nat.mod_lt _ hq0) ?_
    · rw [pk_uLn (by omega)]
      exact hsame i (by omega)
    · by_cases e : i = j
      · rw [e, dgt_s, uN_lN (by omega)]
        exact hdl
      · rw [dgt_n e]
        exact hlt i (by omega) i2
    · obtain ⟨d, hd2⟩ : ∃ d, u - j = d + 1 := ⟨u - j - 1, by omega⟩
      have hd3 : u - (j + 1) = d := by omega
      rw [hd3] at he
      rw [hd2, zs_sft]
      have e1 : dgt (vp_updL g (72 * r + j) (lN ((c * 4294967296 + zdg v j) / q))) r (j + 0) = (c * 4294967296 + zdg v j) / q := by
        show dgt (vp_updL g (72 * r + j) (lN ((c * 4294967296 + zdg v j) / q))) r j = _
        rw [dgt_s, uN_lN (by omega)]
      have e2 : zs (fun i => dgt (vp_updL g (72 * r + j) (lN ((c * 4294967296 + zdg v j) / q))) r (j + (1 + i))) d = zs (fun i => dgt g r (j + 1 + i)) d := zs_congr (fun i _ => by rw [dgt_n (by omega), show j + (1 + i) = j + 1 + i by omega])
      rw [e1, e2, zdg_step v j, ← he]
      generalize zs (fun i => dgt g r (j + 1 + i)) d = S
      have e3 := Nat.div_add_mod (c * 4294967296 + zdg v j) q
      generalize (c * 4294967296 + zdg v j) / q = A at *
      generalize (c * 4294967296 + zdg v j) % q = B at *
      rw [Nat.add_mul, Nat.mul_assoc, Nat.add_mul]
      rw [Nat.mul_comm q A] at e3
      have e4 : 4294967296 * (S * q) = S * q * 4294967296 := Nat.mul_comm _ _
      omega
theorem q7_bySmall {post : Int64 → zm_M → Prop} {r v q : Nat} (h : zN G Bm M0 M ι α K g n) (hr : r < 24) (hv : zrg g n r v) (hq0 : 0 < q) (hq : q < 2 ^ 31) (hp : ∀ (M' : zm_M) (g' : Nat → Int64) (n' : Nat → Int32), zN G Bm M0 M' ι α K g' n' → zfm r g g' n n' → zrg g' n' r (v / q) → post (lN (v % q)) M') : pX7_bySmall G Bm (nI r) (lN q) post M := by
  obtain ⟨u, hn, hu, hd, he, ht⟩ := hv
  have hvl : v < 4294967296 ^ u := by rw [he]; exact zs_lt hd
  unfold pX7_bySmall
  refine fun x1 e1 => nA h (nR h hr (fun x4 e4 => ⟨u + 1, ?_⟩))
  rw [hn] at e4
  have e1' : x1 = lN 0 := e1
  rw [e4, e1']
  refine q7_bsL (g0 := g) hr hq0 hq hu he hd (fun M1 g1 k1 f1 hlt1 e1 => ⟨zN_o k1, q7_trim (u := u) k1 hr hn hu hlt1 (fun M4 n4 k4 q4 v4 => ?_)⟩) u M g 0 (Nat.le_refl _) h zfm_rf (fun _ _ => rfl) (fun i i1 i2 => absurd i2 (by omega)) hq0 (by rw [Nat.sub_self]; show 0 * q + 0 = _; rw [Nat.div_eq_of_lt hvl]; omega)
  rw [e1] at v4
  exact hp M4 _ n4 k4 ⟨f1.1, q4⟩ v4
/-- zeros -/
theorem q7_zeroL {post : zm_M → Prop} {k44 : Nat → Int32 → Int32 → Int32 → Int32 → zm_M → Prop} {to a b most : Nat} {g0 : Nat → Int64} (hto : to < 24) (hm : most ≤ 72) (hp : ∀ (M' : zm_M) (g' : Nat → Int64), zN G Bm M0 M' ι α K g' n → zfm to g0 g' n n → (∀ i, i < most → dgt g' to i = 0) → k44 Bm (nI to) (nI a) (nI b) (nI most) M') : ∀ (d k : Nat) (M : zm_M) (g : Nat → Int64), k + d = most → zN G Bm M0 M ι α K g n → zfm to g0 g n n → (∀ i, i < k → dgt g to i = 0) → pX7_times_18 G post k44 (d + 1) Bm (nI to) (nI a) (nI b) (nI most) (nI k) M
  | 0, k, M, g, hk, h, hf, hz => by
    rw [pX7_times_18]
    exact ⟨fun _ => hp M g h hf (fun i hi => hz i (by omega)), fun y => absurd ((nI_leI (by omega) (by omega)).mpr (by omega)) y⟩
  | d + 1, k, M, g, hk, h, hf, hz => by
    rw [pX7_times_18]
    refine ⟨fun y => absurd ((nI_leI (by omega) (by omega)).mp y) (by omega), fun _ => gA h (gW h (z72 to k) (by omega) (fun M2 k2 x e => ?_))⟩
    rw [e, nI_1]
    refine q7_zeroL hto hm hp d (k + 1) M2 _ (by omega) k2 (zfm_t hf (zfm_g (by omega))) (fun i hi => ?_)
    by_cases c : i = k
    · rw [c, dgt_s]; rfl
    · rw [dgt_n c]; exact hz i (by omega)
/-- the digit i of a times b, from place i on -/
theorem q7_tiL {post : zm_M → Prop} {k155 : Nat → Int32 → Int32 → Int32 → Int32 → Int32 → Int64 → zm_M → Prop} {to a b w va vb i most : Nat} {g0 : Nat → Int64} (hto : to < 24) (ha : a < 24) (hb : b < 24) (hta : to ≠ a) (htb : to ≠ b) (hm : n b = nI w) (hiw : i + w < 72) (hvb : ∀ j, j < w → dgt g0 b j = zdg vb j) (hva : dgt g0 a i = zdg va i) (hi72 : i < 72) (hp : ∀ (M' : zm_M) (g' : Nat → Int64) (c : Nat), zN G Bm M0 M' ι α K g' n → zfm to g0 g' n n → c < 4294967296 → (∀ j, j < i + w → dgt g' to j < 4294967296) → (∀ j, i + w ≤ j → dgt g' to j = dgt g0 to j) → zs (dgt g' to) (i + w) + c * 4294967296 ^ (i + w) = zs (dgt g0 to) (i + w) + zdg va i * zs (zdg vb) w * 4294967296 ^ i → k155 Bm (nI to) (nI a) (nI b) (nI most) (nI i) (lN c) M') : ∀ (d j : Nat) (M : zm_M) (g : Nat → Int64) (c : Nat), j + d = w → zN G Bm M0 M ι α K g n → zfm to g0 g n n → c < 4294967296 → (∀ k, k < i + w → dgt g to k < 4294967296) → (∀ k, i + j ≤ k → dgt g to k = dgt g0 to k) → zs (dgt g to) (i + j) + c * 4294967296 ^ (i + j) = zs (dgt g0 to) (i + j) + zdg va i * zs (zdg vb) j * 4294967296 ^ i → pX7_times_64 G post k155 (d + 1) Bm (nI to) (nI a) (nI b) (nI most) (nI i) (lN c) (nI j) M
  | 0, j, M, g, c, hj, h, hf, hc, hlt, hsame, he => by
    rw [pX7_times_64]
    have e : j = w := by omega
    subst e
    refine nA h (nR h hb ?_)
    rw [hm]
    exact ⟨fun _ => hp M g c h hf hc hlt hsame he, fun y => absurd ((nI_leI (by omega) (by omega)).mpr (Nat.le_refl _)) y⟩
  | d + 1, j, M, g, c, hj, h, hf, hc, hlt, hsame, he => by
    rw [pX7_times_64]
    have za := zdg_lt va i
    have zb' := zdg_lt vb j
    have zt : dgt g to (i + j) < 4294967296 := hlt _ (by omega)
    have hmul : zdg va i * zdg vb j ≤ 4294967295 * 4294967295 := Nat.mul_le_mul (by omega) (by omega)
    refine nA h (nR h hb ?_)
    rw [hm]
    refine ⟨fun y => absurd ((nI_leI (by omega) (by omega)).mp y) (by omega), fun _ => gA h ?_⟩
    rw [z72, nI_add, show 72 * to + i + j = 72 * to + (i + j) by omega]
    refine gR7 h rfl (by omega) (gA h (gR7 h (z72 a i) (by omega) (gA h (gR7 h (z72 b j) (by omega) (fun x29 e29 => gA h (gW h rfl (by omega) (fun M2 k2 x32 e32 x33 e33 => ?_)))))))
    rw [gLN (g := g), gLN (g := g), gLN (g := g), zfm_d hf (Ne.symm hta) hi72, zfm_d hf (Ne.symm htb) (by omega), hva, hvb j (by omega), lN_mul, lN_add, lN_add] at e29
    rw [e29, lN_sh32 (by omega)] at e32
    rw [e29, lN_lo (by omega)] at k2
    rw [e32, e33, nI_1]
    refine q7_tiL hto ha hb hta htb hm hiw hvb hva hi72 hp d (j + 1) M2 _ _ (by omega) k2 (zfm_t hf (zfm_g (by omega))) (by omega) (fun k hk => ?_) (fun k hk => ?_) ?_
    · by_cases e : k = i + j
      · rw [e, dgt_s, uN_lN (by omega)]
        omega
      · rw [dgt_n e]
        exact hlt k hk
    · rw [dgt_n (by omega)]
      exact hsame k (by omega)
    · rw [show i + (j + 1) = i + j + 1 by omega, zs_step, zs_congr (d' := dgt g to) (fun k hk => dgt_n (by omega)), dgt_s, uN_lN (by omega), zs_step, zs_step, Nat.pow_succ, hsame (i + j) (Nat.le_refl _)]
      rw [hsame (i + j) (Nat.le_refl _)] at zt
      generalize dgt g0 to (i + j) = T at *
      have h5 : (c + (T + zdg va i * zdg vb j)) / 4294967296 * (4294967296 ^ (i + j) * 4294967296) + (c + (T + zdg va i * zdg vb j)) % 4294967296 * 4294967296 ^ (i + j) = (c + (T + zdg va i * zdg vb j)) * 4294967296 ^ (i + j) := by
        rw [Nat.mul_comm (4294967296 ^ (i + j)) 4294967296, ← Nat.mul_assoc, ← Nat.add_mul]
        congr 1
        omega
      have h6 : (c + (T + zdg va i * zdg vb j)) * 4294967296 ^ (i + j) = c * 4294967296 ^ (i + j) + T * 4294967296 ^ (i + j) + zdg va i * zdg vb j * 4294967296 ^ (i + j) := by rw [Nat.add_mul, Nat.add_mul, Nat.add_assoc]
      have h7 : zdg va i * (zs (zdg vb) j + zdg vb j * 4294967296 ^ j) * 4294967296 ^ i = zdg va i * zs (zdg vb) j * 4294967296 ^ i + zdg va i * zdg vb j * 4294967296 ^ (i + j) := by
        rw [Nat.mul_add, Nat.add_mul, Nat.pow_add]
        congr 1
        rw [← Nat.mul_assoc, Nat.mul_assoc (zdg va i * zdg vb j), Nat.mul_comm (4294967296 ^ j)]
      omega
theorem q7_toL {post : zm_M → Prop} {k182 : Nat → Int32 → Int32 → zm_M → Prop} {to a b u w va vb most : Nat} {g0 : Nat → Int64} (hto : to < 24) (ha : a < 24) (hb : b < 24) (hta : to ≠ a) (htb : to ≠ b) (hn : n a = nI u) (hm : n b = nI w) (huw : u + w ≤ 72) (hva : ∀ i, i < u → dgt g0 a i = zdg va i) (hvb : ∀ j, j < w → dgt g0 b j = zdg vb j) (hvb2 : vb < 4294967296 ^ w) (hp : ∀ (M' : zm_M) (g' : Nat → Int64), zN G Bm M0 M' ι α K g' n → zfm to g0 g' n n → (∀ i, i < u + w → dgt g' to i < 4294967296) → zs (dgt g' to) (u + w) = zs (zdg va) u * vb → k182 Bm (nI to) (nI most) M') : ∀ (d i : Nat) (M : zm_M) (g : Nat → Int64), i + d = u → zN G Bm M0 M ι α K g n → zfm to g0 g n n → (∀ k, k < u + w → dgt g to k < 4294967296) → (∀ k, i + w ≤ k → k < u + w → dgt g to k = 0) → zs (dgt g to) (i + w) = zs (zdg va) i * vb → pX7_times_47 G post k182 (d + 1) Bm (nI to) (nI a) (nI b) (nI most) (nI i) M
  | 0, i, M, g, hi, h, hf, hlt, hz, he => by
    rw [pX7_times_47]
    have e : i = u := by omega
    subst e
    refine nA h (nR h ha ?_)
    rw [hn]
    exact ⟨fun _ => hp M g h hf hlt he, fun y => absurd ((nI_leI (by omega) (by omega)).mpr (Nat.le_refl _)) y⟩
  | d + 1, i, M, g, hi, h, hf, hlt, hz, he => by
    rw [pX7_times_47]
    refine nA h (nR h ha ?_)
    rw [hn]
    refine ⟨fun y => absurd ((nI_leI (by omega) (by omega)).mp y) (by omega), fun _ x19 e19 x20 e20 => ⟨w + 1, ?_⟩⟩
    have e19' : x19 = lN 0 := e19
    rw [e19', e20]
    refine q7_tiL (g0 := g) (va := va) (vb := vb) hto ha hb hta htb hm (by omega) (fun j hj => by rw [zfm_d hf (Ne.symm htb) (by omega)]; exact hvb j hj) (by rw [zfm_d hf (Ne.symm hta) (by omega)]; exact hva i (by omega)) (by omega) (fun M1 g1 c k1 f1 hc1 hlt1 hs1 e1 => gA k1 (nA k1 (nR k1 hb ?_))) w 0 M g 0 (by omega) h zfm_rf (by decide) (fun k hk => hlt k (by omega)) (fun _ _ => rfl) (by show zs (dgt g to) (i + 0) + 0 * _ = zs (dgt g to) (i + 0) + zdg va i * 0 * _; rw [Nat.zero_mul, Nat.mul_zero, Nat.zero_mul])
    rw [hm, z72, nI_add, show 72 * to + i + w = 72 * to + (i + w) by omega]
    refine gW k1 rfl (by omega) (fun M2 k2 x46 e46 => ?_)
    rw [e46, nI_1]
    refine q7_toL hto ha hb hta htb hn hm huw hva hvb hvb2 hp d (i + 1) M2 _ (by omega) k2 (zfm_t hf (zfm_t f1 (zfm_g (by omega)))) (fun k hk => ?_) (fun k h1 h2 => ?_) ?_
    · by_cases e : k = i + w
      · rw [e, dgt_s, uN_lN (by omega)]
        exact hc1
      · rw [dgt_n e]
        rcases Nat.lt_or_ge k (i + w) with y | y
        · exact hlt1 k y
        · rw [hs1 k y]
          exact hlt k hk
    · rw [dgt_n (by omega), hs1 k (by omega)]
      exact hz k (by omega) h2
    · rw [show i + 1 + w = i + w + 1 by omega, zs_step, zs_congr (d' := dgt g1 to) (fun k hk => dgt_n (by omega)), dgt_s, uN_lN (by omega), e1, he, zs_zdg' hvb2, zs_step, Nat.add_mul]
      congr 1
      rw [Nat.mul_right_comm]
theorem zsmall36 {x u k : Nat} {gx : Nat → Nat} (e1 : x = zs gx u) (e2 : 0 < u → gx (u - 1) ≠ 0) (e3 : x < 4294967296 ^ k) : u ≤ k := by
  rcases Nat.lt_or_ge k u with c | c
  · have h2 := zs_top (d := gx) (u := u) (by omega) (e2 (by omega))
    have h3 : 4294967296 ^ k ≤ 4294967296 ^ (u - 1) := Nat.pow_le_pow_right (by decide) (by omega)
    omega
  · exact c
theorem q7_times {post : zm_M → Prop} {to a b va vb : Nat} (h : zN G Bm M0 M ι α K g n) (hto : to < 24) (ha : a < 24) (hb : b < 24) (hta : to ≠ a) (htb : to ≠ b) (hva : zrg g n a va) (hvb : zrg g n b vb) (hsa : va < 4294967296 ^ 36) (hsb : vb < 4294967296 ^ 36) (hp : ∀ (M' : zm_M) (g' : Nat → Int64) (n' : Nat → Int32), zN G Bm M0 M' ι α K g' n' → zfm to g g' n n' → zrg g' n' to (va * vb) → post M') : pX7_times G Bm (nI to) (nI a) (nI b) post M := by
  obtain ⟨u, hn, hu, hd, he, ht⟩ := hva
  obtain ⟨w, hm, hw, hc, hf, hs⟩ := hvb
  have hu36 := zsmall36 he ht hsa
  have hw36 := zsmall36 hf hs hsb
  have hval : va < 4294967296 ^ u := by rw [he]; exact zs_lt hd
  have hvbl : vb < 4294967296 ^ w := by rw [hf]; exact zs_lt hc
  have dA : ∀ i, i < u → dgt g a i = zdg va i := fun i hi => by
    have := zrg_dig (n := n) he hd i
    rw [if_pos hi] at this
    exact this
  have dB : ∀ i, i < w → dgt g b i = zdg vb i := fun i hi => by
    have := zrg_dig (n := n) hf hc i
    rw [if_pos hi] at this
    exact this
  unfold pX7_times
  refine nA h (nR h ha (nA h (nR h hb (fun x5 e5 x6 e6 => ⟨u + w + 1, ?_⟩))))
  rw [hn, hm, nI_add] at e5
  rw [e5, e6]
  refine q7_zeroL (g0 := g) hto (by omega) (fun M1 g1 k1 f1 z1 x16 e16 => ⟨u + 1, ?_⟩) (u + w) 0 M g (by omega) h zfm_rf (fun i hi => absurd hi (by omega))
  rw [e16]
  refine q7_toL (g0 := g1) (va := va) (vb := vb) hto ha hb hta htb hn hm (by omega) (fun i hi => by rw [zfm_d f1 (Ne.symm hta) (by omega)]; exact dA i hi) (fun i hi => by rw [zfm_d f1 (Ne.symm htb) (by omega)]; exact dB i hi) hvbl (fun M2 g2 k2 f2 hlt2 e2 => nA k2 (nW k2 hto (fun M3 k3 => ⟨zN_o k3, q7_trim (u := u + w) k3 hto pk_us (by omega) hlt2 (fun M4 n4 k4 q4 v4 => ?_)⟩))) u 0 M1 g1 (by omega) k1 zfm_rf (fun k hk => by rw [z1 k hk]; decide) (fun k h1 h2 => z1 k h2) ?_
  · have : zs (dgt g1 to) (0 + w) = 0 := by
      rw [zs_congr (d' := fun _ => 0) (fun i hi => z1 i (by omega))]
      have hz : ∀ k, zs (fun _ => 0) k = 0 := by
        intro k
        induction k with
        | zero => rfl
        | succ k ih => rw [zs_step, ih, Nat.zero_mul]
      exact hz _
    rw [this]
    show 0 = 0 * vb
    rw [Nat.zero_mul]
  · rw [e2, zs_zdg' hval] at v4
    exact hp M4 _ n4 k4 ⟨fun j hj => (f2.1 j hj).trans (f1.1 j hj), fun q hq => (q4 q hq).trans (pk_un hq)⟩ v4
end R74
