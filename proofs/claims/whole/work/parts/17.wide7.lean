/-! ===== WIDE: addTimes, addProduct, multiply ===== -/
theorem lN_32 (x : Int32) : (x.toInt64 &&& (4294967295 : Int64)) = lN (uI x) := lN_of (uN_of32 x)
theorem zs_hi {d d' : Nat → Nat} {i n : Nat} (hi : i ≤ n) (h : ∀ j, i ≤ j → j < n → d j = d' j) : zs d n + zs d' i = zs d' n + zs d i := by
  obtain ⟨k, rfl⟩ : ∃ k, n = i + k := ⟨n - i, by omega⟩
  rw [zs_add, zs_add (d := d')]
  rw [zs_congr (d := fun j => d (i + j)) (d' := fun j => d' (i + j)) (fun j hj => h _ (by omega) (by omega))]
  omega
/-- the first loop: b's digits times the factor, from limb t on -/
theorem q5_atL1 {G : Nat → ClassId} {post : zm_M → Prop} {k90 : Nat → Int32 → Int32 → Int64 → zm_M → Prop} {M0 : zm_M} {w r cap u b rb capb ub vb q t n : Nat} {f0 fb : Nat → Int32} (hq : q < 4294967296) (htn : t + n ≤ u) (hnb : n ≤ ub) (hb0 : zwd G M0 b rb capb ub fb) (hvb : vb = zs (fun i => uI (fb i)) ub) (hr : rb ≠ r) (hbr : b ≠ r)
    (hk : ∀ (M' : zm_M) (f' : Nat → Int32) (c : Nat), zof M0 M' r r → zwd G M' w r cap u f' → c < 4294967296 → (∀ j, t + n ≤ j → f' j = f0 j) → zs (fun j => uI (f' j)) (t + n) + c * 4294967296 ^ (t + n) = zs (fun j => uI (f0 j)) (t + n) + q * zs (zdg vb) n * 4294967296 ^ t → k90 w (nI t) (nI n) (lN c) M') : ∀ (d j : Nat) (M : zm_M) (f : Nat → Int32) (c : Nat), j + d = n → zof M0 M r r → zwd G M w r cap u f → c < 4294967296 → (∀ i, t + j ≤ i → f i = f0 i) → zs (fun i => uI (f i)) (t + j) + c * 4294967296 ^ (t + j) = zs (fun i => uI (f0 i)) (t + j) + q * zs (zdg vb) j * 4294967296 ^ t → pX5_addTimes_22 G post k90 (d + 1) w b (lN q) (nI t) (nI n) (lN c) (nI j) M
  | 0, j, M, f, c, hj, ho, h, hc, h1, he => by
    have hcap := h.2.2.2
    have hu := h.2.2.1
    rw [pX5_addTimes_22]
    have e : j = n := by omega
    subst e
    exact ⟨fun _ => hk M f c ho h hc h1 he, fun z => absurd ((nI_leI (by omega) (by omega)).mpr (Nat.le_refl _)) z⟩
  | d + 1, j, M, f, c, hj, ho, h, hc, h1, he => by
    have hcap := h.2.2.2
    have hu := h.2.2.1
    have hb : zwd G M b rb capb ub fb := zwd_kept hb0 (ho.2 _ hbr hbr) (ho.2 _ hr hr)
    have hcb := hb.2.2.2
    have hub := hb.2.2.1
    have hz1 := uI_lt (fb j)
    have hz2 := uI_lt (f (t + j))
    have hdig : zdg vb j = uI (fb j) := by
      have z1 := zld_v (u := ub) (f := fb) j
      rw [← hvb, zld_n (by omega)] at z1
      exact z1.symm
    have hmul : q * uI (fb j) ≤ 4294967295 * 4294967295 := Nat.mul_le_mul (by omega) (by omega)
    rw [pX5_addTimes_22]
    refine ⟨fun z => absurd ((nI_leI (by omega) (by omega)).mp z) (by omega), fun _ => ⟨_, _, hb.1, rfl, _, _, hb.2.1, vp_in_nI (by omega) (by omega), _, _, h.1, rfl, _, _, h.2.1, ?_, fun x10 e10 => ⟨_, _, h.1, rfl, _, _, h.2.1, ?_, fun x13 e13 x14 e14 => ?_⟩⟩⟩
    · rw [nI_add]; exact vp_in_nI (by omega) (by omega)
    · rw [nI_add]; exact vp_in_nI (by omega) (by omega)
    · rw [nI_add, nI_clamp (by omega), nI_clamp (by omega), lN_32, lN_32, lN_mul, lN_add, lN_add] at e10
      rw [nI_add, nI_clamp (by omega)]
      have e13' : x13 = lN ((q * uI (fb j) + uI (f (t + j)) + c) / 4294967296) := by rw [e13, e10, lN_sh32 (by omega)]
      rw [e13', e14, nI_1]
      have ho' : zof M (zm_set M r (.inl (G 0, (cap, .inl (upd f (t + j) x10.toInt32))))) r r := zof_r
      refine q5_atL1 hq htn hnb hb0 hvb hr hbr hk d (j + 1) _ _ _ (by omega) (zof_t ho ho') (zwd_setR h) (by omega) (fun i hi => ?_) ?_
      · rw [pk_un (by omega)]
        exact h1 i (by omega)
      · rw [show t + (j + 1) = t + j + 1 by omega, zs_upd, e10, uI_lN (by omega), zs_step, zs_step, Nat.pow_succ, h1 (t + j) (Nat.le_refl _), hdig]
        rw [h1 (t + j) (Nat.le_refl _)] at hz2
        have h5 : (q * uI (fb j) + uI (f0 (t + j)) + c) / 4294967296 * (4294967296 ^ (t + j) * 4294967296) + (q * uI (fb j) + uI (f0 (t + j)) + c) % 4294967296 * 4294967296 ^ (t + j) = (q * uI (fb j) + uI (f0 (t + j)) + c) * 4294967296 ^ (t + j) := by
          rw [Nat.mul_comm (4294967296 ^ (t + j)) 4294967296, ← Nat.mul_assoc, ← Nat.add_mul]
          congr 1
          omega
        have h6 : (q * uI (fb j) + uI (f0 (t + j)) + c) * 4294967296 ^ (t + j) = q * uI (fb j) * 4294967296 ^ (t + j) + uI (f0 (t + j)) * 4294967296 ^ (t + j) + c * 4294967296 ^ (t + j) := by rw [Nat.add_mul, Nat.add_mul]
        have h7 : q * (zs (zdg vb) j + uI (fb j) * 4294967296 ^ j) * 4294967296 ^ t = q * zs (zdg vb) j * 4294967296 ^ t + q * uI (fb j) * 4294967296 ^ (t + j) := by
          rw [Nat.mul_add, Nat.add_mul, Nat.pow_add]
          congr 1
          rw [← Nat.mul_assoc, Nat.mul_assoc (q * uI (fb j)), Nat.mul_comm (4294967296 ^ j)]
        omega
/-- the second loop: the carry goes up -/
theorem q5_atL2 {G : Nat → ClassId} {post : zm_M → Prop} {M0 : zm_M} {w r cap u X : Nat} {f0 : Nat → Int32} (hX : X < 4294967296 ^ u) (hk : ∀ (M' : zm_M) (f' : Nat → Int32), zof M0 M' r r → zwd G M' w r cap u f' → zs (fun j => uI (f' j)) u = X → post M') : ∀ (d i : Nat) (M : zm_M) (f : Nat → Int32) (c : Nat), i + d = u → zof M0 M r r → zwd G M w r cap u f → c < 4294967296 → (∀ j, i ≤ j → f j = f0 j) → zs (fun j => uI (f j)) i + c * 4294967296 ^ i + zs (fun j => uI (f0 j)) u = X + zs (fun j => uI (f0 j)) i → pX5_addTimes_97 G post (d + 1) w (lN c) (nI i) M
  | 0, i, M, f, c, hi, ho, h, hc, h1, he => by
    have hcap := h.2.2.2
    have hu := h.2.2.1
    rw [pX5_addTimes_97]
    have e : i = u := by omega
    subst e
    refine ⟨_, _, h.1, rfl, fun _ => hk M f ho h ?_, fun z => absurd ((nI_leI (by omega) (by omega)).mpr (Nat.le_refl _)) z⟩
    have hc0 : c = 0 := by
      rcases Nat.eq_zero_or_pos c with z | z
      · exact z
      · have : 1 * 4294967296 ^ i ≤ c * 4294967296 ^ i := Nat.mul_le_mul_right _ z
        omega
    rw [hc0] at he
    omega
  | d + 1, i, M, f, c, hi, ho, h, hc, h1, he => by
    have hcap := h.2.2.2
    have hu := h.2.2.1
    have hz2 := uI_lt (f i)
    rw [pX5_addTimes_97]
    refine ⟨_, _, h.1, rfl, fun z => absurd ((nI_leI (by omega) (by omega)).mp z) (by omega), fun _ => ⟨fun z => ?_, fun z => ⟨_, _, h.1, rfl, _, _, h.2.1, vp_in_nI (by omega) (by omega), fun x24 e24 => ⟨_, _, h.1, rfl, _, _, h.2.1, vp_in_nI (by omega) (by omega), fun x27 e27 x28 e28 => ?_⟩⟩⟩⟩
    · have hc0 : c = 0 := by
        have := uN_eq.mp z
        rw [uN_lNs hc] at this
        exact this
      refine hk M f ho h ?_
      rw [hc0] at he
      have := zs_hi (d := fun j => uI (f j)) (d' := fun j => uI (f0 j)) (i := i) (n := u) (by omega) (fun j hj _ => by rw [h1 j hj])
      omega
    · rw [nI_clamp (by omega), lN_32, lN_add] at e24
      rw [nI_clamp (by omega)]
      have e27' : x27 = lN ((uI (f i) + c) / 4294967296) := by rw [e27, e24, lN_sh32 (by omega)]
      rw [e27', e28, nI_1]
      have ho' : zof M (zm_set M r (.inl (G 0, (cap, .inl (upd f i x24.toInt32))))) r r := zof_r
      refine q5_atL2 (f0 := f0) hX hk d (i + 1) _ _ _ (by omega) (zof_t ho ho') (zwd_setR h) (by omega) (fun j hj => ?_) ?_
      · rw [pk_un (by omega)]
        exact h1 j (by omega)
      · rw [zs_upd, e24, uI_lN (by omega), zs_step (d := fun j => uI (f0 j)), Nat.pow_succ, ← h1 i (Nat.le_refl _)]
        have h5 : (uI (f i) + c) / 4294967296 * (4294967296 ^ i * 4294967296) + (uI (f i) + c) % 4294967296 * 4294967296 ^ i = (uI (f i) + c) * 4294967296 ^ i := by
          rw [Nat.mul_comm (4294967296 ^ i) 4294967296, ← Nat.mul_assoc, ← Nat.add_mul]
          congr 1
          omega
        have h6 : (uI (f i) + c) * 4294967296 ^ i = uI (f i) * 4294967296 ^ i + c * 4294967296 ^ i := Nat.add_mul _ _ _
        omega
theorem zof_w1 {M M' : zm_M} {w r : Nat} (h : zof M M' r r) : zof M M' w r := ⟨h.1, fun q _ h2 => h.2 q h2 h2⟩
theorem q5_addTimes {G : Nat → ClassId} {M : zm_M} {w r cap u b rb capb vb q t : Nat} {f : Nat → Int32} (h : zwd G M w r cap u f) (hb : zwv G M b rb capb vb) (hr : rb ≠ r) (hq : q < 4294967296) (ht : t ≤ u) (hs : zs (fun j => uI (f j)) u + q * vb * 4294967296 ^ t < 4294967296 ^ u) {post : zm_M → Prop} (hp : ∀ M' f', zof M M' r r → zwd G M' w r cap u f' → zs (fun j => uI (f' j)) u = zs (fun j => uI (f j)) u + q * vb * 4294967296 ^ t → post M') : pX5_addTimes G w b (lN q) (nI t) post M := by
  obtain ⟨ub, fb, hb, hvb, htb⟩ := hb
  have hcap := h.2.2.2
  have hu := h.2.2.1
  have hcb := hb.2.2.2
  have hub := hb.2.2.1
  have hbr : b ≠ r := fun e => by
    have h1 := hb.1
    rw [e, h.2.1] at h1
    cases h1
  obtain ⟨n, hn1, hn2, hn3, hnq⟩ : ∃ n, (if nI u - nI t < nI ub then nI u - nI t else nI ub) = nI n ∧ n ≤ ub ∧ t + n ≤ u ∧ q * zs (zdg vb) n = q * vb := by
    rw [pk_sub ht]
    have hvl : vb < 4294967296 ^ ub := by rw [hvb]; exact zs_lt (fun i _ => uI_lt _)
    by_cases z : u - t < ub
    · rw [if_pos (nI_lt z (by omega))]
      refine ⟨u - t, rfl, by omega, by omega, ?_⟩
      have h1 := zs_top (d := fun i => uI (fb i)) (u := ub) (by omega) (fun z => htb (by omega) (uI_z.mpr z))
      rw [← hvb] at h1
      have hq0 : q = 0 := by
        rcases Nat.eq_zero_or_pos q with z | z
        · exact z
        · have h2 : 4294967296 ^ (u - t) ≤ 4294967296 ^ (ub - 1) := Nat.pow_le_pow_right (by decide) (by omega)
          have h3 : 1 * 4294967296 ^ (u - t) ≤ q * vb := Nat.mul_le_mul z (by omega)
          have h4 : 1 * 4294967296 ^ (u - t) * 4294967296 ^ t ≤ q * vb * 4294967296 ^ t := Nat.mul_le_mul_right _ h3
          rw [Nat.one_mul, ← Nat.pow_add, show u - t + t = u by omega] at h4
          omega
      rw [hq0, Nat.zero_mul, Nat.zero_mul]
    · rw [if_neg (nI_nlt (by omega) (by omega))]
      exact ⟨ub, rfl, Nat.le_refl _, by omega, by rw [zs_zdg' hvl]⟩
  unfold pX5_addTimes
  refine ⟨_, _, hb.1, rfl, _, _, h.1, rfl, fun x3 e3 x4 e4 x5 e5 => ⟨n + 1, ?_⟩⟩
  have e3' : x3 = nI n := e3.trans hn1
  have e4' : x4 = lN 0 := e4
  rw [e3', e4', e5]
  refine q5_atL1 (M0 := M) (f0 := f) (fb := fb) (ub := ub) (vb := vb) (rb := rb) (capb := capb) hq hn3 hn2 hb hvb hr hbr (fun M' f' c ho h' hc h1 he x20 e20 => ⟨u - (t + n) + 1, ?_⟩) n 0 M f 0 (by omega) zof_rf h (by decide) (fun _ _ => rfl) (by show zs (fun i => uI (f i)) (t + 0) + 0 * 4294967296 ^ (t + 0) = zs (fun i => uI (f i)) (t + 0) + q * 0 * 4294967296 ^ t; rw [Nat.zero_mul, Nat.mul_zero, Nat.zero_mul])
  rw [e20, nI_add]
  refine q5_atL2 (M0 := M) (f0 := f) hs (fun M'' f'' ho2 h2 h3 => hp M'' f'' ho2 h2 h3) (u - (t + n)) (t + n) M' f' c (by omega) ho h' hc h1 ?_
  rw [hnq] at he
  omega
/-- the new limbs are 0 -/
theorem q5_apL1 {G : Nat → ClassId} {post : zm_M → Prop} {k52 : Nat → Nat → Nat → Int32 → zm_M → Prop} {M0 : zm_M} {w r cap u a b n : Nat} {f0 : Nat → Int32} (hn : n ≤ cap) (hk : ∀ (M' : zm_M) (f' : Nat → Int32), zof M0 M' r r → zwd G M' w r cap u f' → (∀ j, j < u → f' j = f0 j) → (∀ j, u ≤ j → j < n → f' j = 0) → k52 w a b (nI n) M') : ∀ (d i : Nat) (M : zm_M) (f : Nat → Int32), i + d = max u n → u ≤ i → zof M0 M r r → zwd G M w r cap u f → (∀ j, j < u → f j = f0 j) → (∀ j, u ≤ j → j < i → f j = 0) → pX5_addProduct_33 G post k52 (d + 1) w a b (nI n) (nI i) M
  | 0, i, M, f, hi, hui, ho, h, h1, h2 => by
    have hcap := h.2.2.2
    have hu := h.2.2.1
    rw [pX5_addProduct_33]
    have hm : n ≤ i := by have := Nat.le_max_right u n; omega
    have hm2 : i ≤ 1000 := by have := Nat.max_le.mpr (⟨(by omega : u ≤ 1000), (by omega : n ≤ 1000)⟩); omega
    exact ⟨fun _ => hk M f ho h h1 (fun j hj hj2 => h2 j hj (by omega)), fun z => absurd ((nI_leI (by omega) (by omega)).mpr hm) z⟩
  | d + 1, i, M, f, hi, hui, ho, h, h1, h2 => by
    have hcap := h.2.2.2
    have hu := h.2.2.1
    have hin : i < n := by
      rcases Nat.lt_or_ge i n with z | z
      · exact z
      · have := Nat.max_le.mpr (⟨hui, z⟩)
        omega
    rw [pX5_addProduct_33]
    refine ⟨fun z => absurd ((nI_leI (by omega) (by omega)).mp z) (by omega), fun _ => ⟨zwd_ob h, q5_put h (by omega) (fun x9 e9 => ?_)⟩⟩
    rw [e9, nI_1]
    have ho' : zof M (zm_set M r (.inl (G 0, (cap, .inl (upd f i (0 : Int64).toInt32))))) r r := zof_r
    refine q5_apL1 hn hk d (i + 1) _ _ (by omega) (by omega) (zof_t ho ho') (zwd_setR h) (fun j hj => ?_) (fun j hj hj2 => ?_)
    · rw [pk_un (by omega)]
      exact h1 j hj
    · by_cases z : j = i
      · rw [z, pk_us]
        decide
      · rw [pk_un z]
        exact h2 j hj (by omega)
/-- a's digits one by one -/
theorem q5_apL2 {G : Nat → ClassId} {post : zm_M → Prop} {k88 : Nat → Int32 → zm_M → Prop} {M0 : zm_M} {w r cap n a ra capa ua b rb capb va vb v : Nat} {fa : Nat → Int32} (ha0 : zwd G M0 a ra capa ua fa) (hva : va = zs (fun i => uI (fa i)) ua) (hb0 : zwv G M0 b rb capb vb) (hra : ra ≠ r) (har : a ≠ r) (hrb : rb ≠ r) (hbr : b ≠ r) (hs : v + va * vb < 4294967296 ^ n) (hun : ua ≤ n) (hk : ∀ (M' : zm_M) (f' : Nat → Int32), zof M0 M' r r → zwd G M' w r cap n f' → zs (fun j => uI (f' j)) n = v + va * vb → k88 w (nI n) M') : ∀ (d i : Nat) (M : zm_M) (f : Nat → Int32), i + d = ua → zof M0 M r r → zwd G M w r cap n f → zs (fun j => uI (f j)) n = v + zs (zdg va) i * vb → pX5_addProduct_60 G post k88 (d + 1) w a b (nI n) (nI i) M
  | 0, i, M, f, hi, ho, h, he => by
    have ha : zwd G M a ra capa ua fa := zwd_kept ha0 (ho.2 _ har har) (ho.2 _ hra hra)
    have hca := ha.2.2.2
    have hua := ha.2.2.1
    have hvl : va < 4294967296 ^ ua := by rw [hva]; exact zs_lt (fun i _ => uI_lt _)
    rw [pX5_addProduct_60]
    have e : i = ua := by omega
    subst e
    rw [zs_zdg' hvl] at he
    exact ⟨_, _, ha.1, rfl, fun _ => hk M f ho h he, fun z => absurd ((nI_leI (by omega) (by omega)).mpr (Nat.le_refl _)) z⟩
  | d + 1, i, M, f, hi, ho, h, he => by
    have ha : zwd G M a ra capa ua fa := zwd_kept ha0 (ho.2 _ har har) (ho.2 _ hra hra)
    have hb : zwv G M b rb capb vb := zwv_kept hb0 (ho.2 _ hbr hbr) (ho.2 _ hrb hrb)
    have hca := ha.2.2.2
    have hua := ha.2.2.1
    have hdig : zdg va i = uI (fa i) := by
      have z1 := zld_v (u := ua) (f := fa) i
      rw [← hva, zld_n (by omega)] at z1
      exact z1.symm
    have hvl : va < 4294967296 ^ ua := by rw [hva]; exact zs_lt (fun i _ => uI_lt _)
    have hle : zs (zdg va) (i + 1) ≤ va := by
      rw [zs_zdg]
      exact Nat.mod_le _ _
    have hle2 : zs (zdg va) (i + 1) * vb ≤ va * vb := Nat.mul_le_mul_right _ hle
    have hst : zs (zdg va) (i + 1) * vb = zs (zdg va) i * vb + zdg va i * vb * 4294967296 ^ i := by
      rw [zs_step, Nat.add_mul, Nat.mul_right_comm]
    rw [pX5_addProduct_60]
    refine ⟨_, _, ha.1, rfl, fun z => absurd ((nI_leI (by omega) (by omega)).mp z) (by omega), fun _ => ⟨zwd_ob ha, q5_limb0 ha ⟨zwd_ob h, ?_⟩⟩⟩
    rw [nI_toInt (by omega), zld_n (by omega), ← hdig]
    refine q5_addTimes h hb hrb (zdg_lt _ _) (by omega) (by omega) (fun M' f' h1 h2 h3 x21 e21 => ?_)
    rw [e21, nI_1]
    refine q5_apL2 ha0 hva hb0 hra har hrb hbr hs hun hk d (i + 1) M' f' (by omega) (zof_t ho h1) h2 ?_
    omega
theorem q5_addProduct {G : Nat → ClassId} {M : zm_M} {w r cap u a ra capa b rb capb va vb v : Nat} {f : Nat → Int32} (h : zwd G M w r cap u f) (hv : v = zs (fun i => uI (f i)) u) (ha : zwv G M a ra capa va) (hb : zwv G M b rb capb vb) (hwa : a ≠ w) (hwb : b ≠ w) (hra : ra ≠ r) (hrb : rb ≠ r) (hcc : capa ≤ cap) (hs : v + va * vb < 4294967296 ^ cap) {post : zm_M → Prop} (hp : ∀ M', zof M M' w r → zwv G M' w r cap (v + va * vb) → post M') : pX5_addProduct G w a b post M := by
  have hb0 := hb
  obtain ⟨ua, fa, ha, hva, hta⟩ := ha
  obtain ⟨ub, fb, hbd, hvb, htb⟩ := hb
  have hcap := h.2.2.2
  have hu := h.2.2.1
  have hca := ha.2.2.2
  have hua := ha.2.2.1
  have hcb := hbd.2.2.2
  have hub := hbd.2.2.1
  have hobj : ∀ {x rx cx ux : Nat} {fx : Nat → Int32}, zwd G M x rx cx ux fx → x ≠ r := fun hx e => by
    have h1 := hx.1
    rw [e, h.2.1] at h1
    cases h1
  have hvl : v < 4294967296 ^ u := by rw [hv]; exact zs_lt (fun i _ => uI_lt _)
  have hval : va < 4294967296 ^ ua := by rw [hva]; exact zs_lt (fun i _ => uI_lt _)
  have hvbl : vb < 4294967296 ^ ub := by rw [hvb]; exact zs_lt (fun i _ => uI_lt _)
  have hprod : va * vb < 4294967296 ^ (ua + ub) := by
    rw [Nat.pow_add]
    exact Nat.mul_lt_mul'' hval hvbl
  have hmx : (if nI u < nI ua + nI ub then nI ua + nI ub else nI u) = nI (max u (ua + ub)) := by
    rw [nI_add]
    by_cases q : u < ua + ub
    · rw [if_pos (nI_lt q (by omega)), Nat.max_eq_right (by omega)]
    · rw [if_neg (nI_nlt (by omega) (by omega)), Nat.max_eq_left (by omega)]
  have m1 : u ≤ max u (ua + ub) := Nat.le_max_left _ _
  have m2 : ua + ub ≤ max u (ua + ub) := Nat.le_max_right _ _
  have m3 : max u (ua + ub) ≤ 2000 := Nat.max_le.mpr ⟨by omega, by omega⟩
  obtain ⟨n, hn1, hn2, hns, hun, huan⟩ : ∃ n, (if nI cap < ((if nI u < nI ua + nI ub then nI ua + nI ub else nI u) + (1 : Int32)) then nI cap else ((if nI u < nI ua + nI ub then nI ua + nI ub else nI u) + (1 : Int32))) = nI n ∧ n ≤ cap ∧ v + va * vb < 4294967296 ^ n ∧ u ≤ n ∧ ua ≤ n := by
    rw [hmx, nI_1]
    by_cases q : cap < max u (ua + ub) + 1
    · rw [if_pos (nI_lt q (by omega))]
      exact ⟨cap, rfl, Nat.le_refl _, hs, hu, by omega⟩
    · rw [if_neg (nI_nlt (by omega) (by omega))]
      have p1 : 4294967296 ^ u ≤ 4294967296 ^ (max u (ua + ub)) := Nat.pow_le_pow_right (by decide) m1
      have p2 : 4294967296 ^ (ua + ub) ≤ 4294967296 ^ (max u (ua + ub)) := Nat.pow_le_pow_right (by decide) m2
      have p3 : 4294967296 ^ (max u (ua + ub) + 1) = 4294967296 ^ (max u (ua + ub)) * 4294967296 := Nat.pow_succ _ _
      exact ⟨max u (ua + ub) + 1, rfl, by omega, by omega, by omega, by omega⟩
  unfold pX5_addProduct
  refine ⟨_, _, h.1, rfl, _, _, ha.1, rfl, _, _, hbd.1, rfl, _, _, h.1, rfl, _, h.2.1, fun x6 e6 => ⟨_, _, h.1, rfl, n - u + 1, ?_⟩⟩
  have e6' : x6 = nI n := e6.trans hn1
  rw [e6']
  refine q5_apL1 (M0 := M) (f0 := f) hn2 (fun M' f' ho h' h1 h2 => ⟨_, h'.1, Nat.lt_succ_self 1, fun x16 e16 => ⟨ua + 1, ?_⟩⟩) (n - u) u M f (by rw [Nat.max_eq_right hun]; omega) (Nat.le_refl _) zof_rf h (fun _ _ => rfl) (fun j h1 h2 => absurd h2 (by omega))
  rw [e16]
  have h3 := zwd_setU (u' := n) h' hn2
  have ho3 : zof M' (zm_set M' w (.inr (8, [.ref r, .int (nI n)]))) w r := zof_w
  have ha3 : zwd G (zm_set M' w (.inr (8, [.ref r, .int (nI n)]))) a ra capa ua fa := zwd_kept (zwd_kept ha (ho.2 _ (hobj ha) (hobj ha)) (ho.2 _ hra hra)) (zm_set_n _ _ hwa) (zm_set_n _ _ (fun e => by
    have q := ha.2.1
    rw [e, h.1] at q
    cases q))
  have hb3 : zwv G (zm_set M' w (.inr (8, [.ref r, .int (nI n)]))) b rb capb vb := zwv_kept (zwv_kept hb0 (ho.2 _ (hobj hbd) (hobj hbd)) (ho.2 _ hrb hrb)) (zm_set_n _ _ hwb) (zm_set_n _ _ (fun e => by
    have q := hbd.2.1
    rw [e, h.1] at q
    cases q))
  have h0 : zs (fun j => uI (f' j)) n = v + zs (zdg va) 0 * vb := by
    show zs (fun j => uI (f' j)) n = v + 0 * vb
    rw [Nat.zero_mul, Nat.add_zero, hv]
    obtain ⟨d, rfl⟩ : ∃ d, n = u + d := ⟨n - u, by omega⟩
    rw [zs_up d (fun j h5 h6 => by rw [h2 j h5 h6]; rfl)]
    exact zs_congr (fun j hj => by rw [h1 j hj])
  exact q5_apL2 (fa := fa) (va := va) (vb := vb) (v := v) (rb := rb) (capb := capb) (ra := ra) (capa := capa) ha3 hva hb3 hra (hobj ha) hrb (hobj hbd) hns huan (fun M'' f'' ho4 h4 he => ⟨zwd_ob h4, q5_trim h4 hn2 (fun M5 h5 h6 => hp M5 (zof_t (zof_t (zof_w1 ho) ho3) (zof_t (zof_w1 ho4) h5)) (by rw [he] at h6; exact h6))⟩) ua 0 _ f' (by omega) zof_rf h3 h0
theorem q5_multiply {G : Nat → ClassId} {M : zm_M} {w r cap u a ra capa b rb capb va vb : Nat} {f : Nat → Int32} (h : zwd G M w r cap u f) (ha : zwv G M a ra capa va) (hb : zwv G M b rb capb vb) (hwa : a ≠ w) (hwb : b ≠ w) (hra : ra ≠ r) (hrb : rb ≠ r) (hcc : capa ≤ cap) (hs : va * vb < 4294967296 ^ cap) {post : zm_M → Prop} (hp : ∀ M', zof M M' w r → zwv G M' w r cap (va * vb) → post M') : pX5_multiply G w a b post M := by
  unfold pX5_multiply
  have hn : ∀ {x rx cx vx : Nat}, zwv G M x rx cx vx → x ≠ r ∧ rx ≠ w := fun hx => by
    obtain ⟨ux, fx, hx, -⟩ := hx
    refine ⟨fun e => ?_, fun e => ?_⟩
    · have h1 := hx.1
      rw [e, h.2.1] at h1
      cases h1
    · have h1 := hx.2.1
      rw [e, h.1] at h1
      cases h1
  refine ⟨zwd_ob h, q5_clear h (fun M1 h1 h2 => ⟨zwd_ob h2, ?_⟩)⟩
  refine q5_addProduct (v := 0) h2 rfl (zwv_kept ha (h1.2 _ hwa (hn ha).1) (h1.2 _ (hn ha).2 hra)) (zwv_kept hb (h1.2 _ hwb (hn hb).1) (h1.2 _ (hn hb).2 hrb)) hwa hwb hra hrb hcc (by omega) (fun M2 h3 h4 => hp M2 (zof_t h1 h3) ?_)
  rw [Nat.zero_add] at h4
  exact h4
