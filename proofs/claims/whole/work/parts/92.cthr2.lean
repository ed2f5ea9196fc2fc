/-! ===== THE CLASS'S CALLS THAT MAY THROW: exact, ofReal, read ===== -/
theorem zL_lo {lane : Int32} (h : 0 ≤ lane.toInt ∧ lane.toInt ≤ 4) : (zLl lane.toNatClampNeg).toInt = zlo lane ∧ (zLg lane.toNatClampNeg).toInt = zhi lane := by
  rcases i32_in4 h with q | q | q | q | q <;> (subst q; decide)
section O5
variable {G : Nat → ClassId} {B : Nat} {M0 M : zm_M} {σ : Nat → Nat} {τ : Nat → Int32} {π : Nat → Nat} {β : Nat → Nat → Int32} {S : zS} {post : Int32 → zm_M → Prop} {px : zm_M → Prop}
theorem c2_fitsLong (h : zC G B M0 M σ τ π β) (a : Nat) (ha : a ≤ 24) (hN : zbl (σ (2 * a)) < 2 ^ 31) {post : Int32 → zm_M → Prop} (h1 : (σ (2 * a) < 2 ^ 63 ∨ τ a < 0 ∧ σ (2 * a) = 2 ^ 63) → post 1 M) (h0 : ¬ (σ (2 * a) < 2 ^ 63 ∨ τ a < 0 ∧ σ (2 * a) = 2 ^ 63) → post 0 M) : pX2_fitsLong G (B + zo_r a) post M := by
  have hb : zbl (σ (2 * a)) ≤ 63 ↔ σ (2 * a) < 2 ^ 63 := zbl_le
  have hb2 : zbl (σ (2 * a)) ≤ 64 ↔ σ (2 * a) < 2 ^ 64 := zbl_le
  unfold pX2_fitsLong
  refine gT h a ha ⟨zC_o h _ (by omega), c5_bits h (2 * a) (by omega) ⟨fun y => ⟨zb_1, h1 ?_⟩, fun y => gR h a ha ⟨fun z => ⟨zb_0, h0 (fun q => ?_)⟩, fun z => gT h a ha ⟨zC_o h _ (by omega), c5_bits h (2 * a) (by omega) ⟨fun w => ⟨zb_0, h0 (fun q => ?_)⟩, fun w => gT h a ha ⟨zC_o h _ (by omega), c5_low h (2 * a) (by omega) ⟨fun v => ⟨zb_0, h0 (fun q => ?_)⟩, fun v => ⟨zb_1, h1 ?_⟩⟩⟩⟩⟩⟩⟩⟩
  · have y' := (nI_ltI (b := 64) (by omega) (by decide)).mp y
    exact Or.inl (hb.mp (by omega))
  · have y' : ¬ zbl (σ (2 * a)) < 64 := fun c => y ((nI_ltI (b := 64) (by omega) (by decide)).mpr c)
    rcases q with q | q
    · have := hb.mpr q
      omega
    · have := i32_lt.mp q.1
      have := i32_0.mp z
      omega
  · have y' : ¬ zbl (σ (2 * a)) < 64 := fun c => y ((nI_ltI (b := 64) (by omega) (by decide)).mpr c)
    have w' : zbl (σ (2 * a)) ≠ 64 := fun c => w (by rw [c]; rfl)
    rcases q with q | q
    · have := hb.mpr q
      omega
    · have h9 : σ (2 * a) < 2 ^ 64 := by rw [q.2]; decide
      have := hb2.mpr h9
      omega
  · have y' : ¬ zbl (σ (2 * a)) < 64 := fun c => y ((nI_ltI (b := 64) (by omega) (by decide)).mpr c)
    rcases q with q | q
    · have := hb.mpr q
      omega
    · apply v
      rw [q.2]
      decide
  · have w' : zbl (σ (2 * a)) = 64 := (nI_eq (b := 64) (by omega) (by decide)).mp w
    have h9 : σ (2 * a) < 2 ^ 64 := hb2.mp (by omega)
    refine Or.inr ⟨i32_lt.mpr ?_, ?_⟩
    · rcases Int.lt_or_le (τ a).toInt 0 with c | c
      · exact c
      · exact absurd (i32_0.mpr c) z
    · have h8 := uN_eq.mp v
      rw [Nat.mod_eq_of_lt h9, uN_lN h9] at h8
      rw [h8]
      decide
theorem c6_exact {post : Int64 → zm_M → Prop} (h : zRC G B M0 M S) {x lane : Int32} (hp : ∀ v, (zo_exact S x lane).1 = some v → ∀ M', zRC G B M0 M' (zo_exact S x lane).2 → post v M') (hx : (zo_exact S x lane).1 = none → ∀ M', zRC G B M0 M' (zo_exact S x lane).2 → px M') : pX6_exact G B x lane post px M := by
  obtain ⟨σ, τ, π, β, h, r⟩ := h
  have hR : zRC G B M0 M S := ⟨σ, τ, π, β, h, r⟩
  unfold zo_exact at hp hx
  unfold pX6_exact
  have n5 : (nI 5).toInt = 5 := by decide
  refine ⟨zC_xo h, c6_find' h r (fun e => ?_) (fun a e ha ht hxx => ?_)⟩
  · rw [e] at hp
    exact hp _ rfl M hR
  · rw [e] at hp hx
    simp only at hp hx
    obtain ⟨t1, t2, t3, t4⟩ := zRr_a r ha ht
    have sa := zgd_s t4
    refine ⟨fun z => ?_, fun z => ⟨fun w => ?_, fun w => ⟨fun v => ?_, fun v => ?_⟩⟩⟩
    · rw [if_neg (fun q => by have := i32_0.mp q.1; have := i32_lt.mp z; omega)] at hp
      exact hp _ rfl M hR
    · have w' := i32_le.mp w
      rw [n5] at w'
      rw [if_neg (fun q => by have : lane.toInt ≤ 4 := i32_le.mp q.2; omega)] at hp
      exact hp _ rfl M hR
    · have z' : 0 ≤ lane.toInt := by
        rcases Int.lt_or_le lane.toInt 0 with q | q
        · exact absurd (i32_lt.mpr q) z
        · exact q
      have v' : lane.toInt < 5 := by
        have := Int32.lt_iff_toInt_lt.mp v
        rw [n5] at this
        exact this
      have hl4 : 0 ≤ lane.toInt ∧ lane.toInt ≤ 4 := ⟨z', by omega⟩
      rw [if_pos ⟨i32_0.mpr z', i32_le.mpr (by show lane.toInt ≤ 4; omega)⟩] at hp hx
      have hin5 : vp_in lane 5 := vp_in_iff.mpr ⟨by omega, by omega⟩
      obtain ⟨zl, zg'⟩ := zL_lo hl4
      have hlo : -9223372036854775808 ≤ zlo lane ∧ zhi lane ≤ 9223372036854775807 := by
        rcases i32_in4 hl4 with q | q | q | q | q <;> (subst q; decide)
      have hv3 : zvl (sS S a) (sN S a) = -(sN S a : Int) ∧ sS S a < 0 ∨ zvl (sS S a) (sN S a) = (sN S a : Int) ∧ ¬ sS S a < 0 := by
        unfold zvl
        by_cases q : sS S a < 0
        · rw [if_pos q]; exact Or.inl ⟨rfl, q⟩
        · rw [if_neg q]; exact Or.inr ⟨rfl, q⟩
      have thr : ¬ (sD S a = 1 ∧ zlo lane ≤ zvl (sS S a) (sN S a) ∧ zvl (sS S a) (sN S a) ≤ zhi lane) → px M := fun q => by
        rw [if_neg q] at hx
        exact hx rfl M hR
      -- the lane
      have e83 : ∀ (s0 : Int64), sD S a = 1 → s0 = (if sS S a < 0 then -(lN (sN S a)) else lN (sN S a)) → s0.toInt = zvl (sS S a) (sN S a) → pX6_exact_83 G post px lane s0 M := by
        intro s0 hD1 hs0 hi
        unfold pX6_exact_83 pX6_exact_107
        refine ⟨hin5, fun y => thr (fun q => ?_), fun y => ⟨hin5, fun u => ?_, fun u => thr (fun q => ?_)⟩⟩
        · have := Int64.lt_iff_toInt_lt.mp y
          rw [hi, zl] at this
          omega
        · have y' : zlo lane ≤ zvl (sS S a) (sN S a) := by
            rcases Int.lt_or_le (zvl (sS S a) (sN S a)) (zlo lane) with q | q
            · exact absurd (Int64.lt_iff_toInt_lt.mpr (by rw [hi, zl]; exact q)) y
            · exact q
          have u' := Int64.le_iff_toInt_le.mp u
          rw [hi, zg'] at u'
          rw [if_pos ⟨hD1, y', u'⟩] at hp
          rw [hs0]
          exact hp _ rfl M hR
        · exact u (Int64.le_iff_toInt_le.mpr (by rw [hi, zg']; exact q.2.2))
      have hNb : zbl (σ (2 * a)) < 2 ^ 31 := by
        rw [t2]
        have := zbl_n.mpr t4.2.2.2.1
        omega
      refine ⟨zC_ro h a (by omega), c2_isWhole h a (by omega) ?_⟩
      rw [t3]
      by_cases hD1 : sD S a = 1
      · rw [if_pos hD1]
        refine ⟨fun y => absurd y (by decide), fun _ => ⟨zC_ro h a (by omega), c2_fitsLong h a (by omega) hNb (fun q => ?_) (fun q => ?_)⟩⟩
        · rw [t1, t2] at q
          refine ⟨fun _ => gR h a (by omega) ?_, fun y => absurd y (by decide)⟩
          rw [t1]
          refine ⟨fun y => gT h a (by omega) ⟨zC_o h _ (by omega), c5_low h (2 * a) (by omega) (e83 _ hD1 ?_ ?_)⟩, fun y => gT h a (by omega) ⟨zC_o h _ (by omega), c5_low h (2 * a) (by omega) (e83 _ hD1 ?_ ?_)⟩⟩
          all_goals rw [t2, Nat.mod_eq_of_lt (by omega)]
          · rw [if_neg (fun c => by have := i32_lt.mp c; have := i32_0.mp y; omega)]
          · have hns : ¬ sS S a < 0 := fun c => by have := i32_lt.mp c; have := i32_0.mp y; omega
            have hlt : sN S a < 2 ^ 63 := q.resolve_right (fun c => hns c.1)
            unfold zvl
            rw [if_neg hns, pk_lT hlt]
          · have hns : sS S a < 0 := i32_lt.mpr (by
              rcases Int.lt_or_le (sS S a).toInt 0 with c | c
              · exact c
              · exact absurd (i32_0.mpr c) y)
            rw [if_pos hns]
          · have hns : sS S a < 0 := i32_lt.mpr (by
              rcases Int.lt_or_le (sS S a).toInt 0 with c | c
              · exact c
              · exact absurd (i32_0.mpr c) y)
            unfold zvl
            rw [if_pos hns]
            rcases q with c | c
            · rw [Int64.toInt_neg, pk_lT c, Int.bmod_eq_of_le (by omega) (by omega)]
            · rw [c.2]
              decide
        · rw [t1, t2] at q
          refine ⟨fun y => absurd rfl y, fun _ => ?_⟩
          unfold pX6_exact_48
          refine thr (fun c => ?_)
          rcases hv3 with ⟨q1, q2⟩ | ⟨q1, q2⟩
          · have : ¬ sN S a < 2 ^ 63 := fun w => q (Or.inl w)
            have h9 : sN S a ≠ 2 ^ 63 := fun w => q (Or.inr ⟨q2, w⟩)
            omega
          · have : ¬ sN S a < 2 ^ 63 := fun w => q (Or.inl w)
            omega
      · rw [if_neg hD1]
        refine ⟨fun _ => ?_, fun y => absurd rfl y⟩
        unfold pX6_exact_48
        exact thr (fun c => hD1 c.1)
    · have w' : ¬ 5 ≤ lane.toInt := fun q => w (i32_le.mpr (by rw [n5]; exact q))
      have v' : ¬ lane.toInt < 5 := fun q => v (Int32.lt_iff_toInt_lt.mpr (by rw [n5]; exact q))
      omega
theorem zrf_y (bits : Int64) : (((bits.toUInt64 >>> ((52 : Int32).toInt64.toUInt64 &&& Int64.toUInt64 63)).toInt64).toInt32) &&& (2047 : Int32) = nI (zrf bits) := by
  have e1 : uN ((bits.toUInt64 >>> ((52 : Int32).toInt64.toUInt64 &&& Int64.toUInt64 63)).toInt64) = uN bits / 2 ^ 52 := uN_sk bits (k := 52) (by decide)
  have hl : zrf bits < 2048 := Nat.mod_lt _ (by decide)
  have e2 := pk_and (((bits.toUInt64 >>> ((52 : Int32).toInt64.toUInt64 &&& Int64.toUInt64 63)).toInt64).toInt32) (m := 2047) 11 (by decide)
  rw [e2]
  congr 1
  have e3 : (((bits.toUInt64 >>> ((52 : Int32).toInt64.toUInt64 &&& Int64.toUInt64 63)).toInt64).toInt32).toBitVec.toNat = uI (((bits.toUInt64 >>> ((52 : Int32).toInt64.toUInt64 &&& Int64.toUInt64 63)).toInt64).toInt32) := rfl
  rw [e3, uI_l, e1]
  unfold zrf
  omega
theorem c6_ofReal (h : zRC G B M0 M S) {bits : Int64} (hp : ∀ v, (zo_ofReal S bits).1 = some v → ∀ M', zRC G B M0 M' (zo_ofReal S bits).2 → post v M') (hx : (zo_ofReal S bits).1 = none → ∀ M', zRC G B M0 M' (zo_ofReal S bits).2 → px M') : pX6_ofReal G B bits post px M := by
  obtain ⟨σ, τ, π, β, h, r⟩ := h
  have hR : zRC G B M0 M S := ⟨σ, τ, π, β, h, r⟩
  unfold zo_ofReal at hp hx
  unfold pX6_ofReal
  intro x1 e1
  rw [zrf_y] at e1
  have hfl : zrf bits < 2048 := Nat.mod_lt _ (by decide)
  have hpl : zrp bits < 2 ^ 52 := Nat.mod_lt _ (by decide)
  have ef : x1 = (2047 : Int32) ↔ zrf bits = 2047 := by
    rw [e1]
    exact nI_eq (b := 2047) (by omega) (by decide)
  have ez : x1 = (0 : Int32) ↔ zrf bits = 0 := by
    rw [e1]
    exact nI_eq (b := 0) (by omega) (by decide)
  refine ⟨fun y => ⟨zC_xo h, c6_isFull h r (fun hf => ⟨fun _ x4 e4 => ?_, fun w => absurd rfl w⟩) (fun hf => ⟨fun w => absurd w (by decide), fun _ => ?_⟩)⟩, fun y => ?_⟩
  · have y' : zrf bits ≠ 2047 := fun q => y (ef.mpr q)
    rw [if_neg y', if_pos hf] at hp
    have hp' : ∀ M', zRC G B M0 M' (zkp S (if 0 ≤ bits then 1 else -1) (zrz bits * 2 ^ (zre bits).toNat) (2 ^ (-(zre bits)).toNat)).2 → post (zkp S (if 0 ≤ bits then 1 else -1) (zrz bits * 2 ^ (zre bits).toNat) (2 ^ (-(zre bits)).toNat)).1 M' := hp _ rfl
    have e4' : x4 = lN (zrp bits) := by
      rw [e4]
      exact lN_of (uN_mask bits (k := 52) (by decide))
    have hE : -1100 ≤ zre bits ∧ zre bits ≤ 1000 := by
      unfold zre
      split <;> omega
    have hZ : zrz bits < 2 ^ 53 := by
      unfold zrz
      split <;> omega
    have o59 : ∀ sz : Int64, uN sz = zrz bits → pX6_ofReal_59 G post px B bits x1 sz M := by
      intro sz hsz
      unfold pX6_ofReal_59
      intro x5 e5
      have i5 : x5.toInt = zre bits := by
        rw [e5]
        have h1 : (if x1 < (1 : Int32) then (1 : Int32) else x1).toInt = if zrf bits = 0 then 1 else (zrf bits : Int) := by
          by_cases q : zrf bits = 0
          · rw [if_pos q, ez.mpr q]
            rfl
          · have hn : ¬ x1 < (1 : Int32) := fun c => by
              rw [e1] at c
              have := (nI_ltI (b := 1) (by omega) (by decide)).mp c
              omega
            rw [if_neg q, if_neg hn, e1, nI_toInt (by omega)]
        have h2 : 1 ≤ (if zrf bits = 0 then 1 else (zrf bits : Int)) ∧ (if zrf bits = 0 then 1 else (zrf bits : Int)) ≤ 2048 := by
          split <;> omega
        have h3 := i32_a (i32_s h1 (show (1 : Int32).toInt = 1 from rfl) (by omega) (by omega)) (show (-1074 : Int32).toInt = -1074 by decide) (by omega) (by omega)
        rw [h3]
        unfold zre
        omega
      have o92 : ∀ s : Int32, (s = 1 ∨ s = -1) → s = (if 0 ≤ bits then 1 else -1) → pX6_ofReal_92 G post px B sz x5 (B + zo_r 24) s M := by
        intro s hs1 hs2
        unfold pX6_ofReal_92
        refine ⟨zC_ro h 24 (by decide), c2_become h 24 (by decide) hsz (fun M1 k1 => xB k1 (bR k1 (gT k1 24 (by decide) ⟨zC_o k1 48 (by decide), ?_⟩)))⟩
        -- the top
        have top : ∀ (M2 : zm_M) (σ2 : Nat → Nat), zC G B M0 M2 σ2 (upd τ 24 s) π β → σ2 48 = zrz bits * 2 ^ (zre bits).toNat → σ2 49 = 1 → (∀ l, l < 48 → σ2 l = σ l) → zw_ga M2 B 9 3 (fun bench_13 => zw_ga M2 bench_13 3 0 (fun result_14 => zw_ga M2 result_14 5 2 (fun bottom_15 => zw_ob M2 bottom_15 8 ∧ pX5_shiftLeft G bottom_15 (-x5) (fun M16 => zw_ob M16 B 9 ∧ pX6_keep G B (fun r18 M17 => post r18 M17) M16) M2))) := by
          intro M2 σ2 k2 s48 s49 s47
          refine xB k2 (bR k2 (gB k2 24 (by decide) ⟨zC_o k2 49 (by decide), ?_⟩))
          have last : ∀ (M3 : zm_M) (σ3 : Nat → Nat), zC G B M0 M3 σ3 (upd τ 24 s) π β → σ3 48 = zrz bits * 2 ^ (zre bits).toNat → σ3 49 = 2 ^ (-(zre bits)).toNat → (∀ l, l < 48 → σ3 l = σ l) → zw_ob M3 B 9 ∧ pX6_keep G B (fun r18 M17 => post r18 M17) M3 := by
            intro M3 σ3 k3 q48 q49 q47
            refine ⟨zC_xo k3, c6_keep k3 (zRr_k r q47 (fun q hq => pk_un (by omega))) hf ?_ (fun _ => ?_) ?_⟩
            · rw [q49]
              exact Nat.ne_of_gt (Nat.two_pow_pos _)
            · rw [pk_us]; exact hs1
            · rw [pk_us, q48, q49, hs2]
              exact hp'
          have ine : (-x5).toInt = -(zre bits) := by
            have h8 : (0 - x5 : Int32).toInt = 0 - zre bits := i32_s rfl i5 (by omega) (by omega)
            rw [Int32.zero_sub] at h8
            rw [h8]
            omega
          rcases Int.lt_or_le (-(zre bits)) 1 with c | c
          · refine c5_shiftN (by rw [ine]; omega) (last M2 σ2 k2 s48 ?_ s47)
            rw [s49, show (-(zre bits)).toNat = 0 by omega, Nat.pow_zero]
          · have en : -x5 = nI (-(zre bits)).toNat := by
              have := i32_n (x := -x5) (by omega)
              rw [this, ine]
            rw [en]
            refine c5_shiftLeft k2 49 (by decide) (by omega) ?_ (fun M3 k3 => last M3 _ k3 ?_ ?_ (fun l hl => ?_))
            · rw [s49, Nat.one_mul, show zo_c 49 = 36 from rfl, zB2]
              exact Nat.pow_lt_pow_right (by decide) (by omega)
            · rw [ux_n (by decide)]; exact s48
            · rw [ux_s, s49, Nat.one_mul]
            · rw [ux_n (by omega)]; exact s47 l hl
        rcases Int.lt_or_le (zre bits) 1 with c | c
        · refine c5_shiftN (by rw [i5]; omega) (top M1 _ k1 ?_ rfl (fun l hl => by rw [ux_n (by omega), ux_n (by omega)]))
          show zrz bits = _
          rw [show (zre bits).toNat = 0 by omega, Nat.pow_zero, Nat.mul_one]
        · have en : x5 = nI (zre bits).toNat := by
            have := i32_n (x := x5) (by omega)
            rw [this, i5]
          rw [en]
          have e48 : ux (ux σ (2 * 24) (zrz bits)) (2 * 24 + 1) 1 48 = zrz bits := rfl
          rw [← en]
          have hsh := c5_shiftLeft (post := fun M12 => zw_ga M12 B 9 3 (fun bench_13 => zw_ga M12 bench_13 3 0 (fun result_14 => zw_ga M12 result_14 5 2 (fun bottom_15 => zw_ob M12 bottom_15 8 ∧ pX5_shiftLeft G bottom_15 (-x5) (fun M16 => zw_ob M16 B 9 ∧ pX6_keep G B (fun r18 M17 => post r18 M17) M16) M12)))) k1 48 (by decide) (s := (zre bits).toNat) (by omega) (by
            rw [e48, show zo_c 48 = 36 from rfl, zB2]
            have h1 : zrz bits * 2 ^ (zre bits).toNat ≤ 2 ^ 53 * 2 ^ 1000 := Nat.mul_le_mul (by omega) (Nat.pow_le_pow_right (by decide) (by omega))
            rw [← Nat.pow_add] at h1
            exact Nat.lt_of_le_of_lt h1 (Nat.pow_lt_pow_right (by decide) (by decide))) (fun M2 k2 => top M2 _ k2 (by rw [ux_s, e48]) rfl (fun l hl => by rw [ux_n (by omega), ux_n (by omega), ux_n (by omega)]))
          rw [← en] at hsh
          exact hsh
      refine xB h (bR h ⟨fun q => o92 1 (Or.inl rfl) (by rw [if_pos q]), fun q => o92 (-1) (Or.inr rfl) (by rw [if_neg q])⟩)
    refine ⟨fun z => o59 _ ?_, fun z => o59 _ ?_⟩
    · have z' : zrf bits ≠ 0 := fun q => z (ez.mpr q)
      unfold zrz
      rw [if_neg z', e4']
      have hor : uN (lN (zrp bits) ||| (4503599627370496 : Int64)) = zrp bits ||| 2 ^ 52 := by
        show ((lN (zrp bits)).toUInt64 ||| (4503599627370496 : Int64).toUInt64).toNat = _
        rw [UInt64.toNat_or]
        show uN (lN (zrp bits)) ||| uN (4503599627370496 : Int64) = _
        rw [uN_lN (by omega), show uN (4503599627370496 : Int64) = 2 ^ 52 by decide]
      rw [hor, Nat.or_comm, zor_add (Nat.dvd_refl _) hpl, Nat.add_comm]
    · have z' : zrf bits = 0 := ez.mp z
      unfold zrz
      rw [if_pos z', e4']
      exact uN_lN (by omega)
  · have y' : zrf bits ≠ 2047 := fun q => y (ef.mpr q)
    rw [if_neg y', if_neg hf] at hp
    exact hp _ rfl M hR
  · rw [if_pos (ef.mp y)] at hx
    exact hx rfl M hR
theorem zRr_cl {τ' : Nat → Int32} {σ' : Nat → Nat} (r : zRr σ τ β S) (hs : ∀ l, l < 48 → σ' l = σ l) (ht : ∀ q, q < 24 ∨ q = 26 ∨ q = 31 → τ' q = τ q) (h27 : τ' 27 = 0) : zRr σ' τ' β (zcl S) := by
  obtain ⟨h1, h2, h3, h4, h5, h6⟩ := r
  refine ⟨h1, fun a ha hx => ?_, (ht 26 (by omega)).trans h3, ⟨h27, Nat.zero_le _, fun j hj => absurd hj (Nat.not_lt_zero j)⟩, ⟨(ht 31 (by omega)).trans h5.1, h5.2⟩, h6⟩
  rw [ht a (by omega), hs _ (by omega), hs _ (by omega)]
  exact h2 a ha hx
theorem c6_read (h : zRC G B M0 M S) (hp : ∀ v, (zo_read S).1 = some v → ∀ M', zRC G B M0 M' (zo_read S).2 → post v M') (hx : (zo_read S).1 = none → ∀ M', zRC G B M0 M' (zo_read S).2 → px M') : pX6_read G B post px M := by
  obtain ⟨σ, τ, π, β, h, r⟩ := h
  unfold zo_read at hp hx
  unfold pX6_read
  have hT := r.2.2.2.1
  refine xT h ⟨zC_to h, c4_findFault h hT (fun M1 τ1 k1 f1 => ⟨fun hff => ?_, fun k hff => ?_⟩)⟩
  · rw [hff] at hp hx
    simp only at hp hx
    obtain ⟨f28, f29, f30, fo⟩ := f1
    have r1 : zRr σ τ1 β S := zRr_k r (fun _ _ => rfl) (fun q hq => fo q (by omega))
    refine ⟨fun _ => ⟨zC_xo k1, c6_isFull k1 r1 (fun hf => ⟨fun _ => xT k1 (xB k1 (bR k1 ⟨zC_to k1, c4_tell k1 r1.2.2.2.1 f28 f29 f30 hff (fun M2 σ2 k2 e48 e49 s2 => xT k2 ⟨zC_to k2, c4_clear k2 (fun M3 k3 => xB k3 (bR k3 (gB k3 24 (by decide) ⟨zC_o k3 49 (by decide), c5_isZero k3 49 (by decide) ?_⟩)))⟩)⟩)), fun w => absurd rfl w⟩) (fun hf => ⟨fun w => absurd w (by decide), fun _ => ?_⟩)⟩, fun y => absurd (by decide) y⟩
    · rw [if_pos hf] at hp hx
      have r3 : zRr σ2 (upd (upd τ1 24 (if zfs (sL S) (st S) = 1 then -1 else 1)) 27 0) β (zcl S) := zRr_cl r1 (fun l hl => s2 l (by omega) (by omega)) (fun q hq => by rw [pk_un (by omega), pk_un (by omega)]) pk_us
      have z24 : upd (upd τ1 24 (if zfs (sL S) (st S) = 1 then -1 else 1)) 27 0 24 = (if zfs (sL S) (st S) = 1 then -1 else 1) := by rw [pk_un (by decide), pk_us]
      rw [e49]
      by_cases c : ztD (sL S) (st S) = 0
      · rw [if_pos c]
        rw [if_pos c] at hx
        exact ⟨fun w => absurd w (by decide), fun _ => hx rfl M3 ⟨_, _, _, _, k3, r3⟩⟩
      · rw [if_neg c]
        rw [if_neg c] at hp
        refine ⟨fun _ => ⟨zC_xo k3, c6_keep k3 r3 hf (by rw [e49]; exact c) (fun _ => ?_) ?_⟩, fun w => absurd rfl w⟩
        · rw [z24]
          split
          · exact Or.inr rfl
          · exact Or.inl rfl
        · rw [z24, e48, e49]
          exact hp _ rfl
    · rw [if_neg hf] at hp
      exact hp _ rfl M1 ⟨_, _, _, _, k1, r1⟩
  · rw [hff] at hp
    obtain ⟨f28, f29, f30, fo⟩ := f1
    have hk : k < 2 ^ 30 := by
      have hl := hT.2.1
      obtain ⟨q1, q2, q3, q4, q5⟩ := zT_end (L := sL S) (t := st S) hl
      unfold zff at hff
      by_cases c1 : zfe (sL S) (st S) = zfs (sL S) (st S)
      · rw [if_pos c1] at hff
        have := Option.some.inj hff
        omega
      · rw [if_neg c1] at hff
        have hll : zfl (sL S) (st S) ≤ 1000 := by
          by_cases c2 : zfk (sL S) (st S) = 47 ∨ zfk (sL S) (st S) = 46
          · have := (zT_last (L := sL S) (t := st S) hl c1 c2).2.1
            omega
          · unfold zfl
            rw [if_neg c1, if_neg (fun q => c2 (Or.inl q)), if_neg (fun q => c2 (Or.inr q))]
            omega
        by_cases c2 : (zfk (sL S) (st S) = 47 ∨ zfk (sL S) (st S) = 46) ∧ zfl (sL S) (st S) = zfe (sL S) (st S) + 1
        · rw [if_pos c2] at hff
          have := Option.some.inj hff
          omega
        · rw [if_neg c2] at hff
          by_cases c3 : zfl (sL S) (st S) < sL S
          · rw [if_pos c3] at hff
            have := Option.some.inj hff
            omega
          · rw [if_neg c3] at hff
            cases hff
    refine ⟨fun y => absurd (i32_lt.mp y) (by rw [nI_toInt (by omega)]; omega), fun _ => xT k1 ⟨zC_to k1, c4_clear k1 (fun M2 k2 => hp _ rfl M2 ⟨_, _, _, _, k2, zRr_cl r (fun _ _ => rfl) (fun q hq => by rw [pk_un (by omega)]; exact fo q (by omega)) pk_us⟩)⟩⟩
end O5
