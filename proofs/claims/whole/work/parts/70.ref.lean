/-! ===== THE REFERENCE: its cells, its registers ===== -/
def zN (G : Nat → ClassId) (Bm : Nat) (M0 M : zm_M) (ι : Nat → Int32) (α : Nat → Nat → Int32) (K g : Nat → Int64) (n : Nat → Int32) : Prop :=
  (M.1 = M0.1 ∧ ∀ q, (q < Bm ∨ Bm + 10 ≤ q) → M.2 q = M0.2 q) ∧
  M.2 Bm = some (.inr (10, [.int (ι 0), .ref (Bm + 1), .ref (Bm + 2), .ref (Bm + 3), .ref (Bm + 4), .ref (Bm + 5), .int (ι 6), .ref (Bm + 6), .int (ι 8), .ref (Bm + 7), .ref (Bm + 8), .int (ι 11), .int (ι 12), .ref (Bm + 9)])) ∧
  M.2 (Bm + 1) = some (.inl (G 1, (24, .inl (α 1)))) ∧
  M.2 (Bm + 2) = some (.inl (G 0, (24, .inl (α 2)))) ∧
  M.2 (Bm + 3) = some (.inl (G 3, (768, .inr (.inl K)))) ∧
  M.2 (Bm + 4) = some (.inl (G 0, (48, .inl (α 4)))) ∧
  M.2 (Bm + 5) = some (.inl (G 0, (400, .inl (α 5)))) ∧
  M.2 (Bm + 6) = some (.inl (G 0, (800, .inl (α 6)))) ∧
  M.2 (Bm + 7) = some (.inl (G 3, (1728, .inr (.inl g)))) ∧
  M.2 (Bm + 8) = some (.inl (G 0, (24, .inl n))) ∧
  M.2 (Bm + 9) = some (.inl (G 0, (400, .inl (α 9))))
/-- the digits of register r -/
def dgt (g : Nat → Int64) (r : Nat) : Nat → Nat := fun i => uN (g (72 * r + i))
/-- register r holds v -/
def zrg (g : Nat → Int64) (n : Nat → Int32) (r v : Nat) : Prop := ∃ u, n r = nI u ∧ u ≤ 72 ∧ (∀ i, i < u → dgt g r i < 4294967296) ∧ v = zs (dgt g r) u ∧ (0 < u → dgt g r (u - 1) ≠ 0)
/-- only register r has changed -/
def zfm (r : Nat) (g g' : Nat → Int64) (n n' : Nat → Int32) : Prop := (∀ j, j < 72 * r ∨ 72 * r + 72 ≤ j → g' j = g j) ∧ ∀ q, q ≠ r → n' q = n q
theorem zfm_rf {r : Nat} {g : Nat → Int64} {n : Nat → Int32} : zfm r g g n n := ⟨fun _ _ => rfl, fun _ _ => rfl⟩
theorem zfm_t {r : Nat} {g g' g'' : Nat → Int64} {n n' n'' : Nat → Int32} (h : zfm r g g' n n') (h' : zfm r g' g'' n' n'') : zfm r g g'' n n'' := ⟨fun j hj => (h'.1 j hj).trans (h.1 j hj), fun q hq => (h'.2 q hq).trans (h.2 q hq)⟩
theorem zfm_d {r q : Nat} {g g' : Nat → Int64} {n n' : Nat → Int32} (h : zfm r g g' n n') (hq : q ≠ r) {i : Nat} (hi : i < 72) : dgt g' q i = dgt g q i := by
  unfold dgt
  rw [h.1 _ (by omega)]
theorem zrg_k {r q v : Nat} {g g' : Nat → Int64} {n n' : Nat → Int32} (h : zfm r g g' n n') (hq : q ≠ r) (hv : zrg g n q v) : zrg g' n' q v := by
  obtain ⟨u, h1, h2, h3, h4, h5⟩ := hv
  refine ⟨u, (h.2 q hq).trans h1, h2, fun i hi => ?_, ?_, fun hu => ?_⟩
  · rw [zfm_d h hq (by omega)]; exact h3 i hi
  · rw [h4]; exact zs_congr (fun i hi => (zfm_d h hq (by omega)).symm)
  · rw [zfm_d h hq (by omega)]; exact h5 hu
theorem zfm_g {r j : Nat} {g : Nat → Int64} {n : Nat → Int32} {x : Int64} (h : 72 * r ≤ j ∧ j < 72 * r + 72) : zfm r g (vp_updL g j x) n n := ⟨fun i hi => pk_uLn (by omega), fun _ _ => rfl⟩
theorem zfm_n {r : Nat} {g : Nat → Int64} {n : Nat → Int32} {x : Int32} : zfm r g g n (upd n r x) := ⟨fun _ _ => rfl, fun q hq => pk_un hq⟩
theorem dgt_s {g : Nat → Int64} {r i : Nat} {x : Int64} : dgt (vp_updL g (72 * r + i) x) r i = uN x := by unfold dgt; rw [pk_uLs]
theorem dgt_n {g : Nat → Int64} {r i j : Nat} {x : Int64} (h : j ≠ i) : dgt (vp_updL g (72 * r + i) x) r j = dgt g r j := by unfold dgt; rw [pk_uLn (by omega)]
theorem dgt_o {g : Nat → Int64} {r q i j : Nat} {x : Int64} (h : q ≠ r) (hi : i < 72) (hj : j < 72) : dgt (vp_updL g (72 * r + i) x) q j = dgt g q j := by unfold dgt; rw [pk_uLn (by omega)]
theorem z72 (r k : Nat) : (72 : Int32) * nI r + nI k = nI (72 * r + k) := by
  show Int32.ofNat 72 * Int32.ofNat r + Int32.ofNat k = Int32.ofNat (72 * r + k)
  rw [← Int32.ofNat_mul, ← Int32.ofNat_add]
theorem z720 (r : Nat) : (72 : Int32) * nI r = nI (72 * r) := by
  show Int32.ofNat 72 * Int32.ofNat r = Int32.ofNat (72 * r)
  rw [← Int32.ofNat_mul]
theorem uN_and1 (x : Int64) : uN (x &&& 1) = uN x % 2 := by
  show (x.toUInt64 &&& 1).toNat = x.toUInt64.toNat % 2
  rw [UInt64.toNat_and]
  exact Nat.and_two_pow_sub_one_eq_mod x.toUInt64.toNat 1
section R7
variable {G : Nat → ClassId} {Bm : Nat} {M0 M : zm_M} {ι : Nat → Int32} {α : Nat → Nat → Int32} {K g : Nat → Int64} {n : Nat → Int32}
theorem zN_o (h : zN G Bm M0 M ι α K g n) : zw_ob M Bm 10 := ⟨_, h.2.1⟩
theorem nA (h : zN G Bm M0 M ι α K g n) {P : Nat → Prop} (hp : P (Bm + 8)) : zw_ga M Bm 10 10 P := ⟨_, _, h.2.1, rfl, hp⟩
theorem gA (h : zN G Bm M0 M ι α K g n) {P : Nat → Prop} (hp : P (Bm + 7)) : zw_ga M Bm 10 9 P := ⟨_, _, h.2.1, rfl, hp⟩
theorem nR (h : zN G Bm M0 M ι α K g n) {r : Nat} (hr : r < 24) {P : Int32 → Prop} (hp : P (n r)) : zw_li (G 0) M (Bm + 8) (nI r) P := ⟨_, _, h.2.2.2.2.2.2.2.2.2.1, vp_in_nI hr (by decide), by rw [nI_clamp (by omega)]; exact hp⟩
theorem gR7 (h : zN G Bm M0 M ι α K g n) {i : Int32} {j : Nat} (e : i = nI j) (hj : j < 1728) {P : Int64 → Prop} (hp : P (g j)) : zw_ll (G 3) M (Bm + 7) i P := by
  subst e
  exact ⟨_, _, h.2.2.2.2.2.2.2.2.1, vp_in_nI hj (by decide), by rw [nI_clamp (by omega)]; exact hp⟩
theorem zN_g (h : zN G Bm M0 M ι α K g n) (g' : Nat → Int64) : zN G Bm M0 (zm_set M (Bm + 7) (.inl (G 3, (1728, .inr (.inl g'))))) ι α K g' n := by
  obtain ⟨⟨h0, h0'⟩, h1, h2, h3, h4, h5, h6, h7, h8, h9, h10⟩ := h
  refine ⟨⟨h0, fun q hq => ?_⟩, ?_, ?_, ?_, ?_, ?_, ?_, ?_, zm_set_s _ _ _, ?_, ?_⟩
  · rw [zm_set_n _ _ (by omega)]; exact h0' q hq
  all_goals (rw [zm_set_n _ _ (by omega)]; assumption)
theorem zN_n (h : zN G Bm M0 M ι α K g n) (n' : Nat → Int32) : zN G Bm M0 (zm_set M (Bm + 8) (.inl (G 0, (24, .inl n')))) ι α K g n' := by
  obtain ⟨⟨h0, h0'⟩, h1, h2, h3, h4, h5, h6, h7, h8, h9, h10⟩ := h
  refine ⟨⟨h0, fun q hq => ?_⟩, ?_, ?_, ?_, ?_, ?_, ?_, ?_, ?_, zm_set_s _ _ _, ?_⟩
  · rw [zm_set_n _ _ (by omega)]; exact h0' q hq
  all_goals (rw [zm_set_n _ _ (by omega)]; assumption)
theorem nW (h : zN G Bm M0 M ι α K g n) {r : Nat} (hr : r < 24) {x : Int32} {P : zm_M → Prop} (hp : ∀ M', zN G Bm M0 M' ι α K g (upd n r x) → P M') : zw_si (G 0) M (Bm + 8) (nI r) x P := ⟨_, _, h.2.2.2.2.2.2.2.2.2.1, vp_in_nI hr (by decide), by rw [nI_clamp (by omega)]; exact hp _ (zN_n h _)⟩
theorem gW (h : zN G Bm M0 M ι α K g n) {i : Int32} {j : Nat} (e : i = nI j) (hj : j < 1728) {x : Int64} {P : zm_M → Prop} (hp : ∀ M', zN G Bm M0 M' ι α K (vp_updL g j x) n → P M') : zw_sl (G 3) M (Bm + 7) i x P := by
  subst e
  exact ⟨_, _, h.2.2.2.2.2.2.2.2.1, vp_in_nI hj (by decide), by rw [nI_clamp (by omega)]; exact hp _ (zN_g h _)⟩
theorem q7_trimL {post : zm_M → Prop} {r v : Nat} (hr : r < 24) (hp : ∀ (M' : zm_M) (n' : Nat → Int32), zN G Bm M0 M' ι α K g n' → (∀ q, q ≠ r → n' q = n q) → zrg g n' r v → post M') : ∀ (u : Nat) (M : zm_M) (n1 : Nat → Int32), zN G Bm M0 M ι α K g n1 → u ≤ 72 → n1 r = nI u → (∀ q, q ≠ r → n1 q = n q) → (∀ i, i < u → dgt g r i < 4294967296) → zs (dgt g r) u = v → pX7_trim_0 G post (u + 1) Bm (nI r) M
  | 0, M, n1, h, hu, hn, hq, hd, hv => by
    rw [pX7_trim_0]
    refine nA h (nR h hr ?_)
    rw [hn]
    exact ⟨fun _ => hp M n1 h hq ⟨0, hn, by decide, fun i hi => absurd hi (by omega), hv.symm, fun c => absurd c (by decide)⟩, fun y => absurd (by decide) y⟩
  | u + 1, M, n1, h, hu, hn, hq, hd, hv => by
    rw [pX7_trim_0]
    refine nA h (nR h hr ?_)
    rw [hn]
    refine ⟨fun y => absurd ((nI_leI (b := 0) (by omega) (by decide)).mp y) (by omega), fun _ => gA h (nA h (nR h hr ?_))⟩
    rw [hn, z72, show 72 * r + (u + 1) = 72 * r + u + 1 by omega, show nI (72 * r + u + 1) - (1 : Int32) = nI (72 * r + u) from nI_pred _]
    refine gR7 h rfl (by omega) ⟨fun y => ?_, fun y => nA h (nR h hr ?_)⟩
    · have hne : dgt g r u ≠ 0 := fun c => y (uN_inj c)
      exact hp M n1 h hq ⟨u + 1, hn, hu, hd, hv.symm, fun _ => hne⟩
    · rw [hn, show nI (u + 1) - (1 : Int32) = nI u from nI_pred _]
      refine nW h hr (fun M2 k2 => ?_)
      have hz : dgt g r u = 0 := by
        unfold dgt
        rw [y]
        rfl
      refine q7_trimL hr hp u M2 _ k2 (by omega) pk_us (fun q hq2 => by rw [pk_un hq2]; exact hq q hq2) (fun i hi => hd i (by omega)) ?_
      rw [← hv, zs_step, hz, Nat.zero_mul, Nat.add_zero]
theorem q7_trim {post : zm_M → Prop} {r u : Nat} (h : zN G Bm M0 M ι α K g n) (hr : r < 24) (hn : n r = nI u) (hu : u ≤ 72) (hd : ∀ i, i < u → dgt g r i < 4294967296) (hp : ∀ (M' : zm_M) (n' : Nat → Int32), zN G Bm M0 M' ι α K g n' → (∀ q, q ≠ r → n' q = n q) → zrg g n' r (zs (dgt g r) u) → post M') : pX7_trim G Bm (nI r) post M := by
  unfold pX7_trim
  exact ⟨u + 1, q7_trimL hr hp u M n h hu hn (fun _ _ => rfl) hd rfl⟩
theorem q7_small {post : zm_M → Prop} {r : Nat} {x : Int64} (h : zN G Bm M0 M ι α K g n) (hr : r < 24) (hp : ∀ (M' : zm_M) (g' : Nat → Int64) (n' : Nat → Int32), zN G Bm M0 M' ι α K g' n' → zfm r g g' n n' → zrg g' n' r (uN x) → post M') : pX7_small G Bm (nI r) x post M := by
  have hx := uN_lt x
  unfold pX7_small
  refine gA h (gW h (z720 r) (by omega) (fun M1 k1 => gA k1 ?_))
  rw [show (72 : Int32) * nI r + (1 : Int32) = nI (72 * r + 1) from z72 r 1]
  refine gW k1 rfl (by omega) (fun M2 k2 => nA k2 (nW k2 hr (fun M3 k3 => ⟨zN_o k3, q7_trim (u := 2) k3 hr pk_us (by decide) ?_ (fun M4 n4 k4 q4 v4 => ?_)⟩)))
  · intro i hi
    rcases Nat.lt_or_ge i 1 with c | c
    · have e : i = 0 := by omega
      subst e
      rw [dgt_n (by decide)]
      show dgt (vp_updL g (72 * r + 0) _) r 0 < _
      rw [dgt_s, uN_lo]
      omega
    · have e : i = 1 := by omega
      subst e
      rw [dgt_s, uN_s32]
      omega
  · refine hp M4 _ n4 k4 ⟨fun j hj => ?_, fun q hq => (q4 q hq).trans (pk_un hq)⟩ ?_
    · rw [pk_uLn (by omega), pk_uLn (by omega)]
    · have e : zs (dgt (vp_updL (vp_updL g (72 * r) (x &&& 4294967295)) (72 * r + 1) (x.toUInt64 >>> ((32 : Int32).toInt64.toUInt64 &&& Int64.toUInt64 63)).toInt64) r) 2 = uN x := by
        have e0 : dgt (vp_updL (vp_updL g (72 * r) (x &&& 4294967295)) (72 * r + 1) (x.toUInt64 >>> ((32 : Int32).toInt64.toUInt64 &&& Int64.toUInt64 63)).toInt64) r 0 = uN x % 4294967296 := by
          rw [dgt_n (by decide)]
          show dgt (vp_updL g (72 * r + 0) _) r 0 = _
          rw [dgt_s, uN_lo]
        have e1 : dgt (vp_updL (vp_updL g (72 * r) (x &&& 4294967295)) (72 * r + 1) (x.toUInt64 >>> ((32 : Int32).toInt64.toUInt64 &&& Int64.toUInt64 63)).toInt64) r 1 = uN x / 4294967296 := by
          rw [dgt_s, uN_s32]
        rw [zs_step, zs_step, e0, e1]
        show 0 + _ * 4294967296 ^ 0 + _ * 4294967296 ^ 1 = _
        omega
      rw [e] at v4
      exact v4
theorem q7_copyL {post : zm_M → Prop} {k40 : Nat → Int32 → Int32 → zm_M → Prop} {to fr u : Nat} {g0 : Nat → Int64} (hto : to < 24) (hfr : fr < 24) (hu : u ≤ 72) (hn : n fr = nI u) (hp : ∀ (M' : zm_M) (g' : Nat → Int64), zN G Bm M0 M' ι α K g' n → zfm to g0 g' n n → (∀ i, i < u → dgt g' to i = dgt g0 fr i) → k40 Bm (nI to) (nI fr) M') : ∀ (d k : Nat) (M : zm_M) (g : Nat → Int64), k + d = u → zN G Bm M0 M ι α K g n → zfm to g0 g n n → (∀ i, i < k → dgt g to i = dgt g0 fr i) → (∀ i, k ≤ i → i < u → g (72 * fr + i) = g0 (72 * fr + i)) → pX7_copy_2 G post k40 (d + 1) Bm (nI to) (nI fr) (nI k) M
  | 0, k, M, g, hk, h, hf, h1, h2 => by
    rw [pX7_copy_2]
    refine nA h (nR h hfr ?_)
    rw [hn]
    exact ⟨fun _ => hp M g h hf (fun i hi => h1 i (by omega)), fun y => absurd ((nI_leI (by omega) (by omega)).mpr (by omega)) y⟩
  | d + 1, k, M, g, hk, h, hf, h1, h2 => by
    rw [pX7_copy_2]
    refine nA h (nR h hfr ?_)
    rw [hn]
    refine ⟨fun y => absurd ((nI_leI (by omega) (by omega)).mp y) (by omega), fun _ => gA h (gA h (gR7 h (z72 fr k) (by omega) (gW h (z72 to k) (by omega) (fun M2 k2 x e => ?_))))⟩
    rw [e, nI_1]
    refine q7_copyL hto hfr hu hn hp d (k + 1) M2 _ (by omega) k2 (zfm_t hf (zfm_g (by omega))) (fun i hi => ?_) (fun i i1 i2 => ?_)
    · by_cases c : i = k
      · rw [c, dgt_s, h2 k (Nat.le_refl _) (by omega)]
        rfl
      · rw [dgt_n c]
        exact h1 i (by omega)
    · by_cases c : to = fr
      · rw [c, pk_uLn (by omega)]
        exact h2 i (by omega) i2
      · rw [pk_uLn (by omega)]
        exact h2 i (by omega) i2
theorem q7_copy {post : zm_M → Prop} {to fr v : Nat} (h : zN G Bm M0 M ι α K g n) (hto : to < 24) (hfr : fr < 24) (hv : zrg g n fr v) (hp : ∀ (M' : zm_M) (g' : Nat → Int64) (n' : Nat → Int32), zN G Bm M0 M' ι α K g' n' → zfm to g g' n n' → zrg g' n' to v → post M') : pX7_copy G Bm (nI to) (nI fr) post M := by
  obtain ⟨u, hn, hu, hd, he, ht⟩ := hv
  unfold pX7_copy
  refine fun x1 e1 => ⟨u + 1, ?_⟩
  rw [e1]
  refine q7_copyL (g0 := g) hto hfr hu hn (fun M1 g1 k1 f1 d1 => nA k1 (nA k1 (nR k1 hfr (nW k1 hto (fun M2 k2 => ?_))))) u 0 M g (by omega) h zfm_rf (fun i hi => absurd hi (by omega)) (fun _ _ _ => rfl)
  refine hp M2 g1 _ k2 (zfm_t f1 zfm_n) ⟨u, by rw [pk_us]; exact hn, hu, fun i hi => ?_, ?_, fun hu0 => ?_⟩
  · rw [d1 i hi]; exact hd i hi
  · rw [he]; exact zs_congr (fun i hi => (d1 i hi).symm)
  · rw [d1 _ (by omega)]; exact ht hu0
theorem zrg_dig {g : Nat → Int64} {n : Nat → Int32} {r v u : Nat} (hv : v = zs (dgt g r) u) (hd : ∀ i, i < u → dgt g r i < 4294967296) (i : Nat) : (if i < u then dgt g r i else 0) = zdg v i := by
  unfold zdg
  by_cases c : i < u
  · rw [if_pos c, hv, zs_dig hd c]
  · rw [if_neg c, hv, zs_big hd (by omega)]
theorem q7_cmpL {post : Int32 → zm_M → Prop} {k83 : Int64 → Int64 → zm_M → Prop} {a b : Nat} (ha : a < 24) (hb : b < 24) (h : zN G Bm M0 M ι α K g n) (h0 : (∀ i, i < 72 → dgt g a i = dgt g b i ∨ False) → True) (hz : ∀ k, k < 72 → dgt g a k ≠ dgt g b k → (∀ i, k < i → i < 72 → True) → True) {u : Nat} (hu : u ≤ 72) (hp0 : (∀ i, i < u → dgt g a i = dgt g b i) → post 0 M) (hp1 : ∀ k, k < u → dgt g a k ≠ dgt g b k → (∀ i, k < i → i < u → dgt g a i = dgt g b i) → k83 (g (72 * a + k)) (g (72 * b + k)) M) : ∀ k : Nat, k ≤ u → (∀ i, k ≤ i → i < u → dgt g a i = dgt g b i) → pX7_compared_45 G post k83 (k + 1) Bm (nI a) (nI b) (nI k - 1) M
  | 0, _, he => by
    rw [pX7_compared_45]
    exact ⟨fun _ => hp0 (fun i hi => he i (Nat.zero_le _) hi), fun y => absurd (by decide) y⟩
  | k + 1, hk, he => by
    rw [nI_pred, pX7_compared_45]
    refine ⟨fun y => absurd (i32_lt.mp y) (by rw [nI_toInt (by omega)]; omega), fun _ => gA h (gR7 h (z72 a k) (by omega) (gA h (gR7 h (z72 b k) (by omega) ⟨fun y x e => ?_, fun y => ?_⟩)))⟩
    · rw [e, nI_m1']
      refine q7_cmpL ha hb h h0 hz hu hp0 hp1 k (by omega) (fun i i1 i2 => ?_)
      by_cases c : i = k
      · rw [c]; unfold dgt; rw [y]
      · exact he i (by omega) i2
    · exact hp1 k (by omega) (fun c => y (uN_inj c)) (fun i i1 i2 => he i (by omega) i2)
theorem q7_compared {post : Int32 → zm_M → Prop} {a b va vb : Nat} (h : zN G Bm M0 M ι α K g n) (ha : a < 24) (hb : b < 24) (hva : zrg g n a va) (hvb : zrg g n b vb) (hp : post (if va < vb then -1 else if va = vb then 0 else 1) M) : pX7_compared G Bm (nI a) (nI b) post M := by
  obtain ⟨u, hn, hu, hd, he, ht⟩ := hva
  obtain ⟨w, hm, hw, hc, hf, hs⟩ := hvb
  unfold pX7_compared
  refine nA h (nR h ha (nA h (nR h hb ⟨fun y => nA h (nR h ha (fun x7 e7 => ⟨u + 1, ?_⟩)), fun y => nA h (nR h ha (nA h (nR h hb ?_)))⟩)))
  · rw [hn, hm] at y
    have huw : u = w := (nI_eq (by omega) (by omega)).mp y
    subst huw
    rw [e7, hn]
    refine q7_cmpL ha hb h (fun _ => trivial) (fun _ _ _ _ => trivial) hu (fun heq => ?_) (fun k hk hne heq => ?_) u (Nat.le_refl _) (fun i i1 i2 => absurd i2 (by omega))
    · have : va = vb := by rw [he, hf]; exact zs_congr heq
      rw [if_neg (by omega), if_pos this] at hp
      exact hp
    · have dig : ∀ i, k < i → zdg va i = zdg vb i := fun i hi => by
        rw [← zrg_dig (n := n) he hd i, ← zrg_dig (n := n) hf hc i]
        by_cases c : i < u
        · rw [if_pos c, if_pos c]; exact heq i hi c
        · rw [if_neg c, if_neg c]
      have da : zdg va k = dgt g a k := by rw [← zrg_dig (n := n) he hd k, if_pos hk]
      have db : zdg vb k = dgt g b k := by rw [← zrg_dig (n := n) hf hc k, if_pos hk]
      have la : dgt g a k < 4294967296 := hd k hk
      have lb : dgt g b k < 4294967296 := hc k hk
      have hle : g (72 * b + k) ≤ g (72 * a + k) ↔ dgt g b k ≤ dgt g a k := uN_le' (by show dgt g b k < _; omega) (by show dgt g a k < _; omega)
      refine ⟨fun z => ?_, fun z => ?_⟩
      · have z' := hle.mp z
        have hlt : vb < va := zdg_cmp (fun i hi => (dig i hi).symm) (by rw [da, db]; omega)
        rw [if_neg (by omega), if_neg (by omega)] at hp
        exact hp
      · have z' : ¬ dgt g b k ≤ dgt g a k := fun c => z (hle.mpr c)
        have hlt : va < vb := zdg_cmp dig (by rw [da, db]; omega)
        rw [if_pos hlt] at hp
        exact hp
  · rw [hn, hm] at y ⊢
    have hne : u ≠ w := fun c => y (by rw [c])
    have key : ∀ {x y' ux' uy : Nat} {gx : Nat → Nat} {gy : Nat → Nat}, x = zs gx ux' → (∀ i, i < ux' → gx i < 4294967296) → y' = zs gy uy → (0 < uy → gy (uy - 1) ≠ 0) → ux' < uy → x < y' := by
      intro x y' ux' uy gx gy e1 e2 e3 e4 e5
      have h1 : x < 4294967296 ^ ux' := by rw [e1]; exact zs_lt e2
      have h2 := zs_top (d := gy) (u := uy) (by omega) (e4 (by omega))
      rw [← e3] at h2
      have h3 : 4294967296 ^ ux' ≤ 4294967296 ^ (uy - 1) := Nat.pow_le_pow_right (by decide) (by omega)
      omega
    refine ⟨fun z => ?_, fun z => ?_⟩
    · have z' := (nI_leI (by omega) (by omega)).mp z
      have hlt : vb < va := key hf hc he ht (by omega)
      rw [if_neg (by omega), if_neg (by omega)] at hp
      exact hp
    · have z' : ¬ w ≤ u := fun c => z ((nI_leI (by omega) (by omega)).mpr c)
      have hlt : va < vb := key he hd hf hs (by omega)
      rw [if_pos hlt] at hp
      exact hp
theorem q7_isOdd {post : Int32 → zm_M → Prop} {r v : Nat} (h : zN G Bm M0 M ι α K g n) (hr : r < 24) (hv : zrg g n r v) (hp : post (if v % 2 = 1 then 1 else 0) M) : pX7_isOdd G Bm (nI r) post M := by
  obtain ⟨u, hn, hu, hd, he, ht⟩ := hv
  unfold pX7_isOdd
  have hd0 := zrg_dig (n := n) he hd 0
  unfold zdg at hd0
  rw [Nat.pow_zero, Nat.div_one] at hd0
  refine nA h (nR h hr ?_)
  rw [hn]
  refine ⟨fun y => ?_, fun y => gA h (gR7 h (z720 r) (by omega) ?_)⟩
  · have y' := (nI_leI (b := 0) (by omega) (by decide)).mp y
    rw [if_neg (by omega)] at hd0
    rw [if_neg (by omega)] at hp
    exact ⟨zb_0, hp⟩
  · have y' : ¬ u ≤ 0 := fun c => y ((nI_leI (b := 0) (by omega) (by decide)).mpr c)
    rw [if_pos (by omega)] at hd0
    have hg : uN (g (72 * r)) = v % 4294967296 := hd0
    have hb : (g (72 * r) &&& (1 : Int64)) = (1 : Int64) ↔ v % 2 = 1 := by
      rw [uN_eq]
      have h1 : uN (g (72 * r) &&& 1) = uN (g (72 * r)) % 2 := uN_and1 _
      rw [h1, hg, uN_1]
      omega
    refine ⟨fun z => ?_, fun z => ?_⟩
    · rw [if_neg (fun c => z (hb.mpr c))] at hp
      exact ⟨zb_0, hp⟩
    · rw [if_pos (hb.mp z)] at hp
      exact ⟨zb_1, hp⟩
end R7
