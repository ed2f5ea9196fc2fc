/-! ===== THE REFERENCE: up, divide ===== -/
theorem zd32 {k : Nat} (hk : k < 2 ^ 31) : nI k / (32 : Int32) = nI (k / 32) := pk_div (d := 32) hk (by decide) (by decide)
theorem zr32 {k : Nat} (hk : k < 2 ^ 31) : nI k - nI k / (32 : Int32) * (32 : Int32) = nI (k % 32) := pk_rem (d := 32) hk (by decide) (by decide)
theorem zB2 (L : Nat) : (4294967296 : Nat) ^ L = 2 ^ (32 * L) := by
  rw [Nat.pow_mul]
theorem zbit1 (v i : Nat) {s : Nat} (hs : s < 32) : zdg v i / 2 ^ s % 2 = v / 2 ^ (32 * i + s) % 2 := by
  unfold zdg
  rw [zB2, Nat.pow_add, ← Nat.div_div_eq_div_mul]
  generalize v / 2 ^ (32 * i) = x
  have h := Nat.testBit_mod_two_pow x 32 s
  rw [decide_eq_true hs, Bool.true_and, Nat.testBit_eq_decide_div_mod_eq, Nat.testBit_eq_decide_div_mod_eq] at h
  have h2 := decide_eq_decide.mp h
  have e : (2 : Nat) ^ 32 = 4294967296 := by decide
  rw [e] at h2
  have a1 := Nat.mod_lt (x % 4294967296 / 2 ^ s) (show 0 < 2 by decide)
  have a2 := Nat.mod_lt (x / 2 ^ s) (show 0 < 2 by decide)
  generalize x % 4294967296 / 2 ^ s % 2 = p at *
  generalize x / 2 ^ s % 2 = q at *
  omega
theorem zdvd (j c : Nat) : 2 ^ (j % 32 + 1) ∣ zdg (2 ^ (j + 1) * c) (j / 32) := by
  have e : 2 ^ (j + 1) * c = 2 ^ (32 * (j / 32)) * (2 ^ (j % 32 + 1) * c) := by
    rw [← Nat.mul_assoc, ← Nat.pow_add, show 32 * (j / 32) + (j % 32 + 1) = j + 1 by omega]
  unfold zdg
  rw [e, zB2, Nat.mul_div_cancel_left _ (Nat.two_pow_pos _)]
  exact (Nat.dvd_mod_iff (show 2 ^ (j % 32 + 1) ∣ 4294967296 from Nat.pow_dvd_pow 2 (show j % 32 + 1 ≤ 32 by omega))).mpr (Nat.dvd_mul_right _ _)
/-- one digit more -/
theorem zs_one {d d' : Nat → Nat} {i n x : Nat} (hi : i < n) (h : ∀ j, j ≠ i → d' j = d j) (hx : d' i = d i + x) : zs d' n = zs d n + x * 4294967296 ^ i := by
  have h1 := zs_hi (d := d') (d' := d) (i := i + 1) (n := n) (by omega) (fun j h1 _ => h j (by omega))
  rw [zs_step, zs_step, hx, zs_congr (d := d') (d' := d) (n := i) (fun j hj => h j (by omega)), Nat.add_mul] at h1
  omega
theorem zdvm {x v c t : Nat} (h : x = v * c + t) (ht : t < v) : x / v = c ∧ x % v = t := (Nat.div_mod_unique (by omega)).mpr ⟨by omega, ht⟩
/-- only the registers q and r have changed -/
def zf2 (q r : Nat) (g g' : Nat → Int64) (n n' : Nat → Int32) : Prop := (∀ j, (j < 72 * q ∨ 72 * q + 72 ≤ j) → (j < 72 * r ∨ 72 * r + 72 ≤ j) → g' j = g j) ∧ ∀ p, p ≠ q → p ≠ r → n' p = n p
theorem zf2_rf {q r : Nat} {g : Nat → Int64} {n : Nat → Int32} : zf2 q r g g n n := ⟨fun _ _ _ => rfl, fun _ _ _ => rfl⟩
theorem zf2_q {q r : Nat} {g g' g'' : Nat → Int64} {n n' n'' : Nat → Int32} (h : zf2 q r g g' n n') (h' : zfm q g' g'' n' n'') : zf2 q r g g'' n n'' := ⟨fun j h1 h2 => (h'.1 j h1).trans (h.1 j h1 h2), fun p h1 h2 => (h'.2 p h1).trans (h.2 p h1 h2)⟩
theorem zf2_r {q r : Nat} {g g' g'' : Nat → Int64} {n n' n'' : Nat → Int32} (h : zf2 q r g g' n n') (h' : zfm r g' g'' n' n'') : zf2 q r g g'' n n'' := ⟨fun j h1 h2 => (h'.1 j h2).trans (h.1 j h1 h2), fun p h1 h2 => (h'.2 p h2).trans (h.2 p h1 h2)⟩
theorem zf2_d {q r p : Nat} {g g' : Nat → Int64} {n n' : Nat → Int32} (h : zf2 q r g g' n n') (h1 : p ≠ q) (h2 : p ≠ r) {i : Nat} (hi : i < 72) : dgt g' p i = dgt g p i := by
  unfold dgt
  rw [h.1 _ (by omega) (by omega)]
theorem zrg_k2 {q r p v : Nat} {g g' : Nat → Int64} {n n' : Nat → Int32} (h : zf2 q r g g' n n') (hq : p ≠ q) (hr : p ≠ r) (hv : zrg g n p v) : zrg g' n' p v := by
  obtain ⟨u, h1, h2, h3, h4, h5⟩ := hv
  refine ⟨u, (h.2 p hq hr).trans h1, h2, fun i hi => ?_, ?_, fun hu => ?_⟩
  · rw [zf2_d h hq hr (by omega)]; exact h3 i hi
  · rw [h4]; exact zs_congr (fun i hi => (zf2_d h hq hr (by omega)).symm)
  · rw [zf2_d h hq hr (by omega)]; exact h5 hu
section R75
variable {G : Nat → ClassId} {Bm : Nat} {M0 M : zm_M} {ι : Nat → Int32} {α : Nat → Nat → Int32} {K g : Nat → Int64} {n : Nat → Int32}
theorem q7_upA {post : zm_M → Prop} {k52 : Nat → Int32 → Int32 → Int32 → zm_M → Prop} {r u L : Nat} {by' : Int32} {g0 : Nat → Int64} (hr : r < 24) (hL : u + L ≤ 71) (hp : ∀ (M' : zm_M) (g' : Nat → Int64), zN G Bm M0 M' ι α K g' n → zfm r g0 g' n n → (∀ i, i < u → dgt g' r (L + i) = dgt g0 r i) → k52 Bm (nI r) by' (nI L) M') : ∀ (j : Nat) (M : zm_M) (g : Nat → Int64), j ≤ u → zN G Bm M0 M ι α K g n → zfm r g0 g n n → (∀ i, i < j → g (72 * r + i) = g0 (72 * r + i)) → (∀ i, j ≤ i → i < u → dgt g r (L + i) = dgt g0 r i) → pX7_up_15 G post k52 (j + 1) Bm (nI r) by' (nI L) (nI j - 1) M
  | 0, M, g, _, h, hf, _, h2 => by
    rw [pX7_up_15]
    exact ⟨fun _ => hp M g h hf (fun i hi => h2 i (Nat.zero_le _) hi), fun y => absurd (by decide) y⟩
  | j + 1, M, g, hj, h, hf, h1, h2 => by
    rw [nI_pred, pX7_up_15]
    refine ⟨fun y => absurd (i32_lt.mp y) (by rw [nI_toInt (by omega)]; omega), fun _ => gA h (gA h (gR7 h (z72 r j) (by omega) ?_))⟩
    rw [z72, nI_add, show 72 * r + j + L = 72 * r + (L + j) by omega]
    refine gW h rfl (by omega) (fun M2 k2 x e => ?_)
    rw [e, nI_m1']
    refine q7_upA hr hL hp j M2 _ (by omega) k2 (zfm_t hf (zfm_g (by omega))) (fun i hi => ?_) (fun i i1 i2 => ?_)
    · rw [pk_uLn (by omega)]
      exact h1 i (by omega)
    · by_cases c : i = j
      · rw [c, dgt_s, h1 j (by omega)]
        rfl
      · rw [dgt_n (by omega)]
        exact h2 i (by omega) i2
theorem q7_upB {post : zm_M → Prop} {k89 : Nat → Int32 → Int32 → Int32 → zm_M → Prop} {r u L : Nat} {by' : Int32} {g0 : Nat → Int64} (hr : r < 24) (hn : n r = nI u) (hu : 0 < u) (hL : u + L ≤ 71) (hp : ∀ (M' : zm_M) (g' : Nat → Int64), zN G Bm M0 M' ι α K g' n → zfm r g0 g' n n → (∀ i, i < L → dgt g' r i = 0) → (∀ i, L ≤ i → dgt g' r i = dgt g0 r i) → k89 Bm (nI r) by' (nI L) M') : ∀ (d k : Nat) (M : zm_M) (g : Nat → Int64), k + d = L → zN G Bm M0 M ι α K g n → zfm r g0 g n n → (∀ i, i < k → dgt g r i = 0) → (∀ i, k ≤ i → dgt g r i = dgt g0 r i) → pX7_up_55 G post k89 (d + 1) Bm (nI r) by' (nI L) (nI k) M
  | 0, k, M, g, hk, h, hf, h1, h2 => by
    rw [pX7_up_55]
    have e : k = L := by omega
    subst e
    exact ⟨fun _ => hp M g h hf h1 h2, fun y => absurd ((nI_leI (by omega) (by omega)).mpr (Nat.le_refl _)) y⟩
  | d + 1, k, M, g, hk, h, hf, h1, h2 => by
    rw [pX7_up_55]
    refine ⟨fun y => absurd ((nI_leI (by omega) (by omega)).mp y) (by omega), fun _ => nA h (nR h hr ?_)⟩
    rw [hn]
    refine ⟨fun y => absurd ((nI_leI (b := 0) (by omega) (by decide)).mp y) (by omega), fun _ => gA h (gW h (z72 r k) (by omega) (fun M2 k2 x e => ?_))⟩
    rw [e, nI_1]
    refine q7_upB hr hn hu hL hp d (k + 1) M2 _ (by omega) k2 (zfm_t hf (zfm_g (by omega))) (fun i hi => ?_) (fun i hi => ?_)
    · by_cases c : i = k
      · rw [c, dgt_s]; rfl
      · rw [dgt_n c]; exact h1 i (by omega)
    · rw [dgt_n (by omega)]
      exact h2 i (by omega)
theorem q7_upC {post : zm_M → Prop} {r v s : Nat} {by' : Int32} {g0 : Nat → Int64} {n0 : Nat → Int32} (hr : r < 24) (hs : s < 32) (hb : by' - by' / (32 : Int32) * (32 : Int32) = nI s) (hv : v * 2 ^ s < 4294967296 ^ 71) (hp : ∀ (M' : zm_M) (g' : Nat → Int64) (n' : Nat → Int32), zN G Bm M0 M' ι α K g' n' → zfm r g0 g' n0 n' → zrg g' n' r (v * 2 ^ s) → post M') : ∀ (d k : Nat) (M : zm_M) (g : Nat → Int64) (n : Nat → Int32), k + d = s → zN G Bm M0 M ι α K g n → zfm r g0 g n0 n → zrg g n r (v * 2 ^ k) → pX7_up_115 G post (d + 1) Bm (nI r) by' (nI k) M
  | 0, k, M, g, n, hk, h, hf, hg => by
    rw [pX7_up_115, hb]
    have e : k = s := by omega
    subst e
    exact ⟨fun _ => hp M g n h hf hg, fun y => absurd ((nI_leI (by omega) (by omega)).mpr (Nat.le_refl _)) y⟩
  | d + 1, k, M, g, n, hk, h, hf, hg => by
    rw [pX7_up_115, hb]
    have hlt : v * 2 ^ k < 4294967296 ^ 71 := Nat.lt_of_le_of_lt (Nat.mul_le_mul_left _ (Nat.pow_le_pow_right (by decide) (by omega))) hv
    refine ⟨fun y => absurd ((nI_leI (by omega) (by omega)).mp y) (by omega), fun _ => ⟨zN_o h, q7_twice (m := 0) h hr hg (by decide) hlt (fun M2 g2 n2 k2 f2 v2 x e => ?_)⟩⟩
    rw [e, nI_1]
    refine q7_upC hr hs hb hv hp d (k + 1) M2 g2 n2 (by omega) k2 (zfm_t hf f2) ?_
    rw [Nat.pow_succ, ← Nat.mul_assoc]
    exact v2
theorem q7_up {post : zm_M → Prop} {r v by' : Nat} (h : zN G Bm M0 M ι α K g n) (hr : r < 24) (hv : zrg g n r v) (hv0 : 0 < v) (hb : by' < 2 ^ 31) (hs : v * 2 ^ by' < 4294967296 ^ 71) (hp : ∀ (M' : zm_M) (g' : Nat → Int64) (n' : Nat → Int32), zN G Bm M0 M' ι α K g' n' → zfm r g g' n n' → zrg g' n' r (v * 2 ^ by') → post M') : pX7_up G Bm (nI r) (nI by') post M := by
  obtain ⟨u, hn, hu, hd, he, ht⟩ := hv
  have hu0 : 0 < u := by
    rcases Nat.eq_zero_or_pos u with c | c
    · rw [c] at he
      have : v = 0 := he
      omega
    · exact c
  have hby : by' = 32 * (by' / 32) + by' % 32 := by omega
  have hpw : v * 2 ^ by' = v * 4294967296 ^ (by' / 32) * 2 ^ (by' % 32) := by
    rw [zB2, Nat.mul_assoc, ← Nat.pow_add, ← hby]
  have htop := zs_top (d := dgt g r) hu0 (ht hu0)
  rw [← he] at htop
  have hL : u + by' / 32 ≤ 71 := by
    rcases Nat.lt_or_ge 71 (u + by' / 32) with c | c
    · exfalso
      have h1 : (4294967296 : Nat) ^ 71 ≤ 4294967296 ^ (u - 1 + by' / 32) := Nat.pow_le_pow_right (by decide) (by omega)
      rw [Nat.pow_add] at h1
      have h2 := Nat.mul_le_mul_right (4294967296 ^ (by' / 32)) htop
      have h3 := Nat.le_mul_of_pos_right (v * 4294967296 ^ (by' / 32)) (Nat.two_pow_pos (by' % 32))
      rw [← hpw] at h3
      omega
    · exact c
  unfold pX7_up
  intro x1 e1
  rw [zd32 hb] at e1
  refine nA h (nR h hr (fun x4 e4 => ⟨u + 1, ?_⟩))
  rw [hn] at e4
  rw [e1, e4]
  refine q7_upA (g0 := g) (L := by' / 32) hr hL (fun M1 g1 k1 f1 d1 x15 e15 => ⟨by' / 32 + 1, ?_⟩) u M g (Nat.le_refl _) h zfm_rf (fun _ _ => rfl) (fun i i1 i2 => absurd i2 (by omega))
  rw [e15]
  refine q7_upB (g0 := g1) hr hn hu0 hL (fun M2 g2 k2 f2 z2 s2 => ?_) (by' / 32) 0 M1 g1 (by omega) k1 zfm_rf (fun i hi => absurd hi (by omega)) (fun _ _ => rfl)
  show pX7_up_89 G post Bm (nI r) (nI by') (nI (by' / 32)) M2
  unfold pX7_up_89
  refine nA k2 (nR k2 hr (nA k2 (nR k2 hr ?_)))
  rw [hn]
  refine ⟨fun y => absurd ((nI_leI (b := 0) (by omega) (by decide)).mp y) (by omega), fun _ => nW k2 hr (fun M3 k3 x35 e35 => ⟨by' % 32 + 1, ?_⟩)⟩
  rw [e35]
  rw [nI_add] at k3
  have hval : zs (dgt g2 r) (by' / 32 + u) = v * 4294967296 ^ (by' / 32) := by
    have hz : zs (dgt g2 r) (by' / 32) = 0 := by
      have := zs_up (d := dgt g2 r) (n := 0) (by' / 32) (fun j _ h2 => z2 j (by omega))
      rw [Nat.zero_add] at this
      exact this
    rw [zs_add, hz, Nat.zero_add, Nat.mul_comm, he]
    congr 1
    exact zs_congr (fun i hi => by rw [s2 _ (by omega)]; exact d1 i hi)
  have hpw2 : v * 4294967296 ^ (by' / 32) * 2 ^ (by' % 32) < 4294967296 ^ 71 := by rw [← hpw]; exact hs
  refine q7_upC (g0 := g) (n0 := n) (v := v * 4294967296 ^ (by' / 32)) (s := by' % 32) hr (by omega) (zr32 hb) hpw2 (fun M4 g4 n4 k4 f4 v4 => ?_) (by' % 32) 0 M3 g2 _ (by omega) k3 (zfm_t (zfm_t f1 f2) zfm_n) ?_
  · rw [← hpw] at v4
    exact hp M4 g4 n4 k4 f4 v4
  · refine ⟨by' / 32 + u, by rw [pk_us, Nat.add_comm], by omega, fun i hi => ?_, ?_, fun _ => ?_⟩
    · rcases Nat.lt_or_ge i (by' / 32) with c | c
      · rw [z2 i c]; decide
      · rw [s2 i c]
        have := d1 (i - by' / 32) (by omega)
        rw [show by' / 32 + (i - by' / 32) = i by omega] at this
        rw [this]
        exact hd _ (by omega)
    · rw [hval, Nat.pow_zero, Nat.mul_one]
    · rw [s2 _ (by omega)]
      have := d1 (u - 1) (by omega)
      rw [show by' / 32 + (u - 1) = by' / 32 + u - 1 by omega] at this
      rw [this]
      exact ht hu0
/-! divide -/
theorem q7_dvZ {post : zm_M → Prop} {k52 : Nat → Int32 → Int32 → Int32 → Int32 → zm_M → Prop} {q u : Nat} {rs a b : Int32} {g0 : Nat → Int64} (hq : q < 24) (hn : n q = nI u) (hu : u ≤ 72) (hp : ∀ (M' : zm_M) (g' : Nat → Int64), zN G Bm M0 M' ι α K g' n → zfm q g0 g' n n → (∀ i, i < u → dgt g' q i = 0) → k52 Bm (nI q) rs a b M') : ∀ (d k : Nat) (M : zm_M) (g : Nat → Int64), k + d = u → zN G Bm M0 M ι α K g n → zfm q g0 g n n → (∀ i, i < k → dgt g q i = 0) → pX7_divide_22 G post k52 (d + 1) Bm (nI q) rs a b (nI k) M
  | 0, k, M, g, hk, h, hf, h1 => by
    rw [pX7_divide_22]
    refine nA h (nR h hq ?_)
    rw [hn]
    exact ⟨fun _ => hp M g h hf (fun i hi => h1 i (by omega)), fun y => absurd ((nI_leI (by omega) (by omega)).mpr (by omega)) y⟩
  | d + 1, k, M, g, hk, h, hf, h1 => by
    rw [pX7_divide_22]
    refine nA h (nR h hq ?_)
    rw [hn]
    refine ⟨fun y => absurd ((nI_leI (by omega) (by omega)).mp y) (by omega), fun _ => gA h (gW h (z72 q k) (by omega) (fun M2 k2 x e => ?_))⟩
    rw [e, nI_1]
    refine q7_dvZ hq hn hu hp d (k + 1) M2 _ (by omega) k2 (zfm_t hf (zfm_g (by omega))) (fun i hi => ?_)
    by_cases c : i = k
    · rw [c, dgt_s]; rfl
    · rw [dgt_n c]; exact h1 i (by omega)
theorem q7_dvL {post : zm_M → Prop} {k146 : Nat → Int32 → zm_M → Prop} {q rs a b u va vb : Nat} {g0 : Nat → Int64} {n0 : Nat → Int32} (hq : q < 24) (hrs : rs < 24) (ha : a < 24) (hb : b < 24) (h1 : q ≠ rs) (h2 : q ≠ a) (h3 : q ≠ b) (h4 : rs ≠ a) (h5 : rs ≠ b) (hu : u ≤ 72) (hva : ∀ i, i < u → dgt g0 a i = zdg va i) (hvb : zrg g0 n0 b vb) (hb0 : 0 < vb) (hbs : vb < 4294967296 ^ 71) (hp : ∀ (M' : zm_M) (g' : Nat → Int64) (n' : Nat → Int32), zN G Bm M0 M' ι α K g' n' → zf2 q rs g0 g' n0 n' → n' q = nI u → zrg g' n' rs (va % vb) → (∀ i, i < u → dgt g' q i < 4294967296) → zs (dgt g' q) u = va / vb → k146 Bm (nI q) M') : ∀ (j : Nat) (M : zm_M) (g : Nat → Int64) (n : Nat → Int32), j ≤ 32 * u → zN G Bm M0 M ι α K g n → zf2 q rs g0 g n0 n → n q = nI u → zrg g n rs (va / 2 ^ j % vb) → (∀ i, i < u → dgt g q i < 4294967296) → zs (dgt g q) u = 2 ^ j * (va / 2 ^ j / vb) → pX7_divide_65 G post k146 (j + 1) Bm (nI q) (nI rs) (nI a) (nI b) (nI j - 1) M
  | 0, M, g, n, _, h, hf, hn, hv, hlt, he => by
    rw [pX7_divide_65]
    rw [Nat.pow_zero, Nat.div_one] at hv
    rw [Nat.pow_zero, Nat.div_one, Nat.one_mul] at he
    exact ⟨fun _ => hp M g n h hf hn hv hlt he, fun y => absurd (by decide) y⟩
  | j + 1, M, g, n, hj, h, hf, hn, hv, hlt, he => by
    rw [nI_pred, pX7_divide_65, zr32 (by omega), zd32 (by omega)]
    refine ⟨fun y => absurd (i32_lt.mp y) (by rw [nI_toInt (by omega)]; omega), fun _ => gA h (gR7 h (z72 a (j / 32)) (by omega) ⟨zN_o h, ?_⟩)⟩
    have hji : 32 * (j / 32) + j % 32 = j := by omega
    have hzl := zdg_lt va (j / 32)
    have hbit : (g (72 * a + j / 32) >>> ((nI (j % 32)).toInt64 &&& 63)) &&& (1 : Int64) = lN (va / 2 ^ j % 2) := by
      rw [gLN (g := g), zf2_d hf (Ne.symm h2) (Ne.symm h4) (by omega), hva _ (by omega), sar_n (by omega) (by omega)]
      show lN _ &&& lN 1 = _
      have hdl : zdg va (j / 32) / 2 ^ (j % 32) ≤ zdg va (j / 32) := Nat.div_le_self _ _
      rw [lN_and _ 1 (by omega) (by decide), Nat.and_one_is_mod, zbit1 _ _ (by omega), hji]
    rw [hbit]
    have hml := Nat.mod_lt (va / 2 ^ (j + 1)) hb0
    have hA : va / 2 ^ j = va / 2 ^ (j + 1) * 2 + va / 2 ^ j % 2 := by
      rw [Nat.pow_succ, ← Nat.div_div_eq_div_mul]
      omega
    have hb2 := Nat.mod_lt (va / 2 ^ j) (show 0 < 2 by decide)
    have hdm := Nat.div_add_mod (va / 2 ^ (j + 1)) vb
    refine q7_twice (m := va / 2 ^ j % 2) h hrs hv hb2 (by omega) (fun M2 g2 n2 k2 f2 v2 => ⟨zN_o k2, q7_compared k2 hrs hb v2 (zrg_k f2 (Ne.symm h5) (zrg_k2 hf (Ne.symm h3) (Ne.symm h5) hvb)) ?_⟩)
    have d2 : ∀ i, i < 72 → dgt g2 q i = dgt g q i := fun i hi => zfm_d f2 h1 hi
    by_cases c : va / 2 ^ (j + 1) % vb * 2 + va / 2 ^ j % 2 < vb
    · rw [if_pos c]
      refine ⟨fun _ x e => ?_, fun y => absurd (by decide) y⟩
      rw [e, nI_m1']
      have hx := zdvm (x := va / 2 ^ j) (v := vb) (c := 2 * (va / 2 ^ (j + 1) / vb)) (t := va / 2 ^ (j + 1) % vb * 2 + va / 2 ^ j % 2) (by
        have : vb * (2 * (va / 2 ^ (j + 1) / vb)) = vb * (va / 2 ^ (j + 1) / vb) * 2 := by rw [Nat.mul_comm 2, Nat.mul_assoc]
        omega) c
      refine q7_dvL hq hrs ha hb h1 h2 h3 h4 h5 hu hva hvb hb0 hbs hp j M2 g2 n2 (by omega) k2 (zf2_r hf f2) ((f2.2 q h1).trans hn) (by rw [hx.2]; exact v2) (fun i hi => by rw [d2 i (by omega)]; exact hlt i hi) ?_
      rw [hx.1, zs_congr (d' := dgt g q) (fun i hi => d2 i (by omega)), he, Nat.pow_succ, Nat.mul_assoc]
    · rw [if_neg c]
      have hge : vb ≤ va / 2 ^ (j + 1) % vb * 2 + va / 2 ^ j % 2 := by omega
      refine ⟨fun y => absurd y (by split <;> decide), fun _ => ⟨zN_o k2, q7_less k2 hrs hb h5 v2 (zrg_k f2 (Ne.symm h5) (zrg_k2 hf (Ne.symm h3) (Ne.symm h5) hvb)) hge (fun M3 g3 n3 k3 f3 v3 => gA k3 (gR7 k3 (z72 q (j / 32)) (by omega) (gW k3 (z72 q (j / 32)) (by omega) (fun M4 k4 x e => ?_))))⟩⟩
      rw [e, nI_m1']
      have hx := zdvm (x := va / 2 ^ j) (v := vb) (c := 2 * (va / 2 ^ (j + 1) / vb) + 1) (t := va / 2 ^ (j + 1) % vb * 2 + va / 2 ^ j % 2 - vb) (by
        have : vb * (2 * (va / 2 ^ (j + 1) / vb) + 1) = vb * (va / 2 ^ (j + 1) / vb) * 2 + vb := by rw [Nat.mul_add, Nat.mul_one, Nat.mul_comm 2, Nat.mul_assoc]
        omega) (by omega)
      have d3 : ∀ i, i < 72 → dgt g3 q i = dgt g q i := fun i hi => (zfm_d f3 h1 hi).trans (d2 i hi)
      -- the digit
      have hdgz : dgt g q (j / 32) = zdg (2 ^ (j + 1) * (va / 2 ^ (j + 1) / vb)) (j / 32) := by
        rw [← he]
        exact (zs_dig hlt (by omega)).symm
      have hdv : 2 ^ (j % 32 + 1) ∣ dgt g q (j / 32) := by
        rw [hdgz]
        exact zdvd _ _
      have hqd := hlt (j / 32) (by omega)
      have hroom : dgt g q (j / 32) + 2 ^ (j % 32) < 4294967296 := by
        obtain ⟨c2, hc2⟩ := hdv
        have hp32 : (4294967296 : Nat) = 2 ^ (j % 32 + 1) * 2 ^ (31 - j % 32) := by
          rw [← Nat.pow_add, show j % 32 + 1 + (31 - j % 32) = 32 by omega]
        have hlt2 : c2 < 2 ^ (31 - j % 32) := by
          rw [hc2] at hqd
          rw [hp32] at hqd
          exact Nat.lt_of_mul_lt_mul_left hqd
        have h6 : 2 ^ (j % 32 + 1) * (c2 + 1) ≤ 2 ^ (j % 32 + 1) * 2 ^ (31 - j % 32) := Nat.mul_le_mul_left _ hlt2
        rw [← hp32, Nat.mul_add, Nat.mul_one, ← hc2, Nat.pow_succ] at h6
        have := Nat.two_pow_pos (j % 32)
        omega
      have hset : g3 (72 * q + j / 32) ||| ((1 : Int64) <<< ((nI (j % 32)).toInt64 &&& 63)) = lN (dgt g q (j / 32) + 2 ^ (j % 32)) := by
        have hp2 : 2 ^ (j % 32) < 4294967296 := by omega
        rw [gLN (g := g3), d3 _ (by omega)]
        show lN _ ||| (lN 1 <<< _) = _
        rw [lN_shl64 (by decide) (by omega), Nat.one_mul, Nat.mod_eq_of_lt (by omega)]
        refine lN_of ?_
        have hor : uN (lN (dgt g q (j / 32)) ||| lN (2 ^ (j % 32))) = dgt g q (j / 32) ||| 2 ^ (j % 32) := by
          show ((lN (dgt g q (j / 32))).toUInt64 ||| (lN (2 ^ (j % 32))).toUInt64).toNat = _
          rw [UInt64.toNat_or]
          show uN (lN (dgt g q (j / 32))) ||| uN (lN (2 ^ (j % 32))) = _
          rw [uN_lN (by omega), uN_lN (by omega)]
        rw [hor, zor_add hdv (by rw [Nat.pow_succ]; have := Nat.two_pow_pos (j % 32); omega)]
      rw [hset] at k4
      refine q7_dvL hq hrs ha hb h1 h2 h3 h4 h5 hu hva hvb hb0 hbs hp j M4 _ n3 (by omega) k4 (zf2_q (zf2_r (zf2_r hf f2) f3) (zfm_g (by omega))) ((f3.2 q h1).trans ((f2.2 q h1).trans hn)) (by rw [hx.2]; exact zrg_k (zfm_g (r := q) (by omega)) (Ne.symm h1) v3) (fun i hi => ?_) ?_
      · by_cases e2 : i = j / 32
        · rw [e2, dgt_s, uN_lN (by omega)]
          exact hroom
        · rw [dgt_n e2, d3 i (by omega)]
          exact hlt i hi
      · have h9 : zs (dgt (vp_updL g3 (72 * q + j / 32) (lN (dgt g q (j / 32) + 2 ^ (j % 32)))) q) u = zs (dgt g3 q) u + 2 ^ (j % 32) * 4294967296 ^ (j / 32) := by
          refine zs_one (i := j / 32) (by omega) (fun i hi => dgt_n hi) ?_
          rw [dgt_s, uN_lN (by omega), d3 _ (by omega)]
        rw [h9, zs_congr (d' := dgt g q) (fun i hi => d3 i (by omega)), he, hx.1, zB2, ← Nat.pow_add, show j % 32 + 32 * (j / 32) = j by omega, Nat.mul_add, Nat.mul_one, Nat.pow_succ, Nat.mul_assoc]
theorem q7_divide {post : zm_M → Prop} {q rs a b va vb : Nat} (h : zN G Bm M0 M ι α K g n) (hq : q < 24) (hrs : rs < 24) (ha : a < 24) (hb : b < 24) (h1 : q ≠ rs) (h2 : q ≠ a) (h3 : q ≠ b) (h4 : rs ≠ a) (h5 : rs ≠ b) (hva : zrg g n a va) (hvb : zrg g n b vb) (hb0 : 0 < vb) (hbs : vb < 4294967296 ^ 71) (hp : ∀ (M' : zm_M) (g' : Nat → Int64) (n' : Nat → Int32), zN G Bm M0 M' ι α K g' n' → zf2 q rs g g' n n' → zrg g' n' q (va / vb) → zrg g' n' rs (va % vb) → post M') : pX7_divide G Bm (nI q) (nI rs) (nI a) (nI b) post M := by
  obtain ⟨u, hn, hu, hd, he, ht⟩ := hva
  have hval : va < 4294967296 ^ u := by rw [he]; exact zs_lt hd
  have hA0 : va / 2 ^ (32 * u) = 0 := by
    rw [← zB2]
    exact Nat.div_eq_of_lt hval
  have dA : ∀ i, i < u → dgt g a i = zdg va i := fun i hi => by
    have := zrg_dig (n := n) he hd i
    rw [if_pos hi] at this
    exact this
  unfold pX7_divide
  refine nA h (nW h hrs (fun M1 k1 => nA k1 (nA k1 (nR k1 ha ?_))))
  rw [pk_un (Ne.symm h4), hn]
  refine nW k1 hq (fun M2 k2 x7 e7 => ⟨u + 1, ?_⟩)
  rw [e7]
  refine q7_dvZ (g0 := g) hq pk_us hu (fun M3 g3 k3 f3 z3 => nA k3 (nR k3 ha ?_)) u 0 M2 g (by omega) k2 zfm_rf (fun i hi => absurd hi (by omega))
  rw [pk_un (Ne.symm h2), pk_un (Ne.symm h4), hn]
  intro x21 e21
  refine ⟨32 * u + 1, ?_⟩
  rw [e21, show (32 : Int32) * nI u = nI (32 * u) from pk_mul 32 u]
  have z0 : zrg g3 (upd (upd n rs 0) q (nI u)) rs 0 := ⟨0, by rw [pk_un (Ne.symm h1), pk_us]; rfl, by decide, fun i hi => absurd hi (by omega), rfl, fun c => absurd c (by decide)⟩
  have hz : zs (dgt g3 q) u = 0 := by
    have := zs_up (d := dgt g3 q) (n := 0) u (fun j _ h2 => z3 j (by omega))
    rw [Nat.zero_add] at this
    exact this
  have hf0 : zf2 q rs g g3 n (upd (upd n rs 0) q (nI u)) := ⟨fun j h1 _ => f3.1 j h1, fun p h1 h2 => by rw [pk_un h1, pk_un h2]⟩
  refine q7_dvL (g0 := g) (n0 := n) (va := va) (vb := vb) hq hrs ha hb h1 h2 h3 h4 h5 hu dA hvb hb0 hbs (fun M4 g4 n4 k4 f4 hn4 v4 hl4 e4 => ⟨zN_o k4, q7_trim (u := u) k4 hq hn4 hu hl4 (fun M5 n5 k5 q5 v5 => ?_)⟩) (32 * u) M3 g3 _ (Nat.le_refl _) k3 hf0 pk_us (by rw [hA0, Nat.zero_mod]; exact z0) (fun i hi => by rw [z3 i hi]; decide) (by rw [hA0, Nat.zero_div, Nat.mul_zero]; exact hz)
  rw [e4] at v5
  refine hp M5 g4 n5 k5 ⟨f4.1, fun p h1 h2 => (q5 p h1).trans (f4.2 p h1 h2)⟩ v5 ?_
  obtain ⟨u4, w1, w2, w3, w4, w5⟩ := v4
  exact ⟨u4, (q5 rs (Ne.symm h1)).trans w1, w2, w3, w4, w5⟩
end R75
