/-! ===== THE CLASS'S CALLS THAT MAY THROW ===== -/
section O4
variable {G : Nat → ClassId} {B : Nat} {M0 M : zm_M} {σ : Nat → Nat} {τ : Nat → Int32} {π : Nat → Nat} {β : Nat → Nat → Int32} {S : zS} {post : Int32 → zm_M → Prop} {px : zm_M → Prop}
theorem c6_shifted (h : zRC G B M0 M S) {n : Int32} (hp : ∀ v, (zo_shifted S n).1 = some v → ∀ M', zRC G B M0 M' (zo_shifted S n).2 → post v M') (hx : (zo_shifted S n).1 = none → ∀ M', zRC G B M0 M' (zo_shifted S n).2 → px M') : pX6_shifted G B n post px M := by
  obtain ⟨σ, τ, π, β, h, r⟩ := h
  have hR : zRC G B M0 M S := ⟨σ, τ, π, β, h, r⟩
  unfold zo_shifted at hp hx
  unfold pX6_shifted
  refine ⟨fun y => ⟨zC_xo h, c6_isFull h r (fun hf => ⟨fun _ => ⟨fun z => ?_, fun z => ?_⟩, fun w => absurd rfl w⟩) (fun hf => ⟨fun w => absurd w (by decide), fun _ => ?_⟩)⟩, fun y => ?_⟩
  · have y' := i32_0.mp y
    have z' : n.toInt < 16 := Int32.lt_iff_toInt_lt.mp z
    have z15 : n ≤ 15 := i32_le.mpr (by show n.toInt ≤ 15; omega)
    rw [if_pos y, if_pos hf, if_pos z15] at hp
    have en := i32_n y'
    have e32 : (32 : Int32) * n = nI (32 * n.toInt.toNat) := by
      rw [en, nI_toInt (by omega)]
      exact pk_mul 32 _
    refine xB h (bR h ⟨zC_ro h 24 (by decide), c2_become h 24 (by decide) (v := 1) rfl (fun M1 k1 => xB k1 (bR k1 (gT k1 24 (by decide) ⟨zC_o k1 48 (by decide), ?_⟩)))⟩)
    rw [e32]
    have e1 : ux (ux σ (2 * 24) 1) (2 * 24 + 1) 1 48 = 1 := rfl
    refine c5_shiftLeft k1 48 (by decide) (by omega) ?_ (fun M2 k2 => ⟨zC_xo k2, c6_keep k2 (zRr_k r (fun l hl => ?_) (fun q hq => pk_un (by omega))) hf ?_ (fun _ => ?_) ?_⟩)
    · rw [e1, Nat.one_mul, show zo_c 48 = 36 from rfl, zB2]
      exact Nat.pow_lt_pow_right (by decide) (by omega)
    · rw [ux_n (by omega), ux_n (by omega), ux_n (by omega)]
    · show (1 : Nat) ≠ 0
      decide
    · rw [pk_us]; exact Or.inl rfl
    · have e48 : ux (ux (ux σ (2 * 24) 1) (2 * 24 + 1) 1) 48 (ux (ux σ (2 * 24) 1) (2 * 24 + 1) 1 48 * 2 ^ (32 * n.toInt.toNat)) 48 = 2 ^ (32 * n.toInt.toNat) := by
        rw [ux_s, e1, Nat.one_mul]
      have e49 : ux (ux (ux σ (2 * 24) 1) (2 * 24 + 1) 1) 48 (ux (ux σ (2 * 24) 1) (2 * 24 + 1) 1 48 * 2 ^ (32 * n.toInt.toNat)) 49 = 1 := rfl
      rw [pk_us, e48, e49]
      exact hp _ rfl
  · rw [if_pos y, if_pos hf, if_neg (fun q => z (Int32.lt_iff_toInt_lt.mpr (by have : n.toInt ≤ 15 := i32_le.mp q; show n.toInt < 16; omega)))] at hp
    exact hp _ rfl M hR
  · rw [if_pos y, if_neg hf] at hp
    exact hp _ rfl M hR
  · rw [if_neg y] at hx
    exact hx rfl M hR
theorem c6_over (h : zRC G B M0 M S) {x y : Int32} (hp : ∀ v, (zo_over S x y).1 = some v → ∀ M', zRC G B M0 M' (zo_over S x y).2 → post v M') (hx : (zo_over S x y).1 = none → ∀ M', zRC G B M0 M' (zo_over S x y).2 → px M') : pX6_over G B x y post px M := by
  obtain ⟨σ, τ, π, β, h, r⟩ := h
  have hR : zRC G B M0 M S := ⟨σ, τ, π, β, h, r⟩
  unfold zo_over at hp hx
  unfold pX6_over
  refine ⟨zC_xo h, c6_find' h r (fun e => ⟨zC_xo h, c6_find' h r (fun e2 => ?_) (fun b e2 hb htb hy => ?_)⟩) (fun a e ha ht hxx => ⟨zC_xo h, c6_find' h r (fun e2 => ?_) (fun b e2 hb htb hy => gR h b (by omega) ?_)⟩)⟩
  · rw [e] at hp
    exact hp _ rfl M hR
  · rw [e] at hp
    exact hp _ rfl M hR
  · rw [e, e2] at hp
    exact hp _ rfl M hR
  · rw [e, e2] at hp hx
    simp only at hp hx
    obtain ⟨t1, t2, t3, t4⟩ := zRr_a r ha ht
    obtain ⟨u1, u2, u3, u4⟩ := zRr_a r hb htb
    rw [u1]
    refine ⟨fun z => ⟨zC_xo h, c6_isFull h r (fun hf => ⟨fun _ => xB h ⟨zC_bo h, c0_quotientOf h a b ha hb (fun M1 k1 => ⟨zC_xo k1, c6_keep k1 (zRr_k r (fun l hl => ?_) (fun q hq => pk_un (by omega))) hf ?_ (fun hne => ?_) ?_⟩)⟩, fun w => absurd rfl w⟩) (fun hf => ⟨fun w => absurd w (by decide), fun _ => ?_⟩)⟩, fun z => ?_⟩
    · rw [ux_n (by omega), ux_n (by omega)]
    · show σ (2 * a + 1) * σ (2 * b) ≠ 0
      rw [t3, u2]
      exact Nat.mul_ne_zero t4.1 (fun q => z ((zgd_s u4).2.2.mp q))
    · have hne' : σ (2 * a) * σ (2 * b + 1) ≠ 0 := hne
      rw [pk_us, t1, u1]
      rw [t2, u3] at hne'
      exact zpm t4 u4 (fun q => hne' (by rw [q, Nat.zero_mul])) (fun q => z ((zgd_s u4).2.2.mp q))
    · have e48 : ux (ux σ 48 (σ (2 * a) * σ (2 * b + 1))) 49 (σ (2 * a + 1) * σ (2 * b)) 48 = sN S a * sD S b := by
        rw [ux_n (by decide), ux_s, t2, u3]
      have e49 : ux (ux σ 48 (σ (2 * a) * σ (2 * b + 1))) 49 (σ (2 * a + 1) * σ (2 * b)) 49 = sD S a * sN S b := by
        rw [ux_s, t3, u2]
      rw [pk_us, e48, e49, t1, u1]
      rw [if_neg z, if_pos hf] at hp
      exact hp _ rfl
    · rw [if_neg z, if_neg hf] at hp
      exact hp _ rfl M hR
    · rw [if_pos z] at hx
      exact hx rfl M hR
theorem c6_apply58 (h : zC G B M0 M σ τ π β) (r : zRr σ τ β S) {a b : Nat} (ha : a < 24) (ht : sT S a = true) (hb : b < 24) (htb : sT S b = true) {op : Int32} (hop : 0 ≤ op.toInt ∧ op.toInt ≤ 3) (hz : op = 3 → sS S b ≠ 0) (hp : ∀ v, (if zF S < 24 then zsm (zap S op a b) else (some (-3), S)).1 = some v → ∀ M', zRC G B M0 M' (if zF S < 24 then zsm (zap S op a b) else (some (-3), S)).2 → post v M') : pX6_apply_58 G post px B op (B + zo_r a) (B + zo_r b) M := by
  have hR : zRC G B M0 M S := ⟨σ, τ, π, β, h, r⟩
  obtain ⟨t1, t2, t3, t4⟩ := zRr_a r ha ht
  obtain ⟨u1, u2, u3, u4⟩ := zRr_a r hb htb
  have sa := zgd_s t4
  have sb := zgd_s u4
  have hDD : sD S a * sD S b ≠ 0 := Nat.mul_ne_zero t4.1 u4.1
  have hT : sN S a * sD S b = 0 ↔ sS S a = 0 := by
    rw [← sa.2.2]
    constructor
    · intro q
      rcases Nat.mul_eq_zero.mp q with w | w
      · exact w
      · exact absurd w u4.1
    · intro q; rw [q, Nat.zero_mul]
  have hU : sN S b * sD S a = 0 ↔ sS S b = 0 := by
    rw [← sb.2.2]
    constructor
    · intro q
      rcases Nat.mul_eq_zero.mp q with w | w
      · exact w
      · exact absurd w t4.1
    · intro q; rw [q, Nat.zero_mul]
  unfold pX6_apply_58
  refine ⟨zC_xo h, c6_isFull h r (fun hf => ⟨fun _ => ?_, fun w => absurd rfl w⟩) (fun hf => ⟨fun w => absurd w (by decide), fun _ => ?_⟩)⟩
  · rw [if_pos hf] at hp
    have hp' : ∀ M', zRC G B M0 M' (zap S op a b).2 → post (zap S op a b).1 M' := hp _ rfl
    unfold zap at hp'
    have sm : ∀ s' : Int32, (s' = 0 ∨ s' = 1 ∨ s' = -1) → (s' = 0 ↔ sS S b = 0) → (∀ M', zRC G B M0 M' (zkp S (zsum (sS S a) (sN S a * sD S b) s' (sN S b * sD S a)).1 (zsum (sS S a) (sN S a * sD S b) s' (sN S b * sD S a)).2 (sD S a * sD S b)).2 → post (zkp S (zsum (sS S a) (sN S a * sD S b) s' (sN S b * sD S a)).1 (zsum (sS S a) (sN S a * sD S b) s' (sN S b * sD S a)).2 (sD S a * sD S b)).1 M') → pX0_sumOf G (B + 123) (B + zo_r a) (B + zo_r b) s' (fun M18 => pX6_apply_160 G post px B M18) M := by
      intro s' hs3 hs0 hq
      refine c0_sumOf h a b ha hb (fun M1 σ1 k1 e48 e49 hs1 => ?_)
      unfold pX6_apply_160
      rw [t1, t2, t3, u2, u3] at e48
      rw [t3, u3] at e49
      have hpm := zsum_pm (zgd_3 t4) hs3 hT (by rw [hU, hs0])
      refine ⟨zC_xo k1, c6_keep k1 (zRr_k r (fun l hl => hs1 l (Or.inl hl)) (fun q hq => pk_un (by omega))) hf (by rw [e49]; exact hDD) (fun hne => ?_) ?_⟩
      · rw [pk_us, t1, t2, t3, u2, u3]
        rw [e48] at hne
        exact hpm hne
      · rw [pk_us, e48, e49, t1, t2, t3, u2, u3]
        exact hq
    refine ⟨fun z => ?_, fun z => ?_, fun z => ?_, fun z => ?_⟩
    · have h3 : op = 3 := by
        rcases i32_in hop with q | q | q | q
        · rw [q] at z; exact absurd z (by decide)
        · rw [q] at z; exact absurd z (by decide)
        · rw [q] at z; exact absurd z (by decide)
        · exact q
      subst h3
      rw [if_neg (by decide), if_neg (by decide), if_neg (by decide)] at hp'
      have hs0 := hz rfl
      have hN0 : sN S b ≠ 0 := fun q => hs0 (sb.2.2.mp q)
      refine xB h ⟨zC_bo h, c0_restOf h a b ha hb (fun M1 σ1 k1 e48 e49 hs1 => ?_) (by rw [u2, t3]; exact Nat.mul_ne_zero hN0 t4.1)⟩
      unfold pX6_apply_160
      rw [t1, u1, t2, t3, u2, u3] at e48
      rw [t3, u3] at e49
      have e48' : σ1 48 = zrt (sS S a) (sS S b) (sN S a * sD S b) (sN S b * sD S a) := e48
      refine ⟨zC_xo k1, c6_keep k1 (zRr_k r (fun l hl => hs1 l (Or.inl hl)) (fun q hq => pk_un (by omega))) hf (by rw [e49]; exact hDD) (fun hne => ?_) ?_⟩
      · rw [pk_us, u1]
        exact (zgd_3 u4).resolve_left hs0
      · rw [pk_us, e48', e49, u1]
        exact hp'
    · have h0 : op = 0 := by
        rcases i32_in hop with q | q | q | q
        · exact q
        · rw [q] at z; exact absurd z (by decide)
        · rw [q] at z; exact absurd z (by decide)
        · rw [q] at z; exact absurd z (by decide)
      subst h0
      rw [if_pos rfl] at hp'
      refine xB h (gR h b (by omega) ⟨zC_bo h, ?_⟩)
      rw [u1]
      exact sm _ (zgd_3 u4) Iff.rfl hp'
    · have h0 : op = 1 := by
        rcases i32_in hop with q | q | q | q
        · rw [q] at z; exact absurd z (by decide)
        · exact q
        · rw [q] at z; exact absurd z (by decide)
        · rw [q] at z; exact absurd z (by decide)
      subst h0
      rw [if_neg (by decide), if_pos rfl] at hp'
      refine xB h (gR h b (by omega) ⟨zC_bo h, ?_⟩)
      rw [u1]
      obtain ⟨n1, n2⟩ := i32_neg3 (zgd_3 u4)
      exact sm _ n1 n2 hp'
    · have h0 : op = 2 := by
        rcases i32_in hop with q | q | q | q
        · rw [q] at z; exact absurd z (by decide)
        · rw [q] at z; exact absurd z (by decide)
        · exact q
        · rw [q] at z; exact absurd z (by decide)
      subst h0
      rw [if_neg (by decide), if_neg (by decide), if_pos rfl] at hp'
      refine xB h ⟨zC_bo h, c0_productOf h a b ha hb (fun M1 k1 => ?_)⟩
      unfold pX6_apply_160
      refine ⟨zC_xo k1, c6_keep k1 (zRr_k r (fun l hl => ?_) (fun q hq => pk_un (by omega))) hf ?_ (fun hne => ?_) ?_⟩
      · rw [ux_n (by omega), ux_n (by omega)]
      · show σ (2 * a + 1) * σ (2 * b + 1) ≠ 0
        rw [t3, u3]
        exact hDD
      · have hne' : σ (2 * a) * σ (2 * b) ≠ 0 := hne
        rw [pk_us, t1, u1]
        rw [t2, u2] at hne'
        exact zpm t4 u4 (fun q => hne' (by rw [q, Nat.zero_mul])) (fun q => hne' (by rw [q, Nat.mul_zero]))
      · have e48 : ux (ux σ 48 (σ (2 * a) * σ (2 * b))) 49 (σ (2 * a + 1) * σ (2 * b + 1)) 48 = sN S a * sN S b := by
          rw [ux_n (by decide), ux_s, t2, u2]
        have e49 : ux (ux σ 48 (σ (2 * a) * σ (2 * b))) 49 (σ (2 * a + 1) * σ (2 * b + 1)) 49 = sD S a * sD S b := by
          rw [ux_s, t3, u3]
        rw [pk_us, e48, e49, t1, u1]
        exact hp'
  · rw [if_neg hf] at hp
    exact hp _ rfl M hR
theorem c6_apply (h : zRC G B M0 M S) {op x y : Int32} (hp : ∀ v, (zo_apply S op x y).1 = some v → ∀ M', zRC G B M0 M' (zo_apply S op x y).2 → post v M') (hx : (zo_apply S op x y).1 = none → ∀ M', zRC G B M0 M' (zo_apply S op x y).2 → px M') : pX6_apply G B op x y post px M := by
  obtain ⟨σ, τ, π, β, h, r⟩ := h
  have hR : zRC G B M0 M S := ⟨σ, τ, π, β, h, r⟩
  unfold zo_apply at hp hx
  unfold pX6_apply
  refine ⟨zC_xo h, c6_find' h r (fun e => ⟨zC_xo h, c6_find' h r (fun e2 => ?_) (fun b e2 hb htb hy => ?_)⟩) (fun a e ha ht hxx => ⟨zC_xo h, c6_find' h r (fun e2 => ?_) (fun b e2 hb htb hy => ?_)⟩)⟩
  · rw [e] at hp
    exact hp _ rfl M hR
  · rw [e] at hp
    exact hp _ rfl M hR
  · rw [e, e2] at hp
    exact hp _ rfl M hR
  · rw [e, e2] at hp hx
    simp only at hp hx
    obtain ⟨u1, u2, u3, u4⟩ := zRr_a r hb htb
    refine ⟨fun z => ?_, fun z => ⟨fun w => ?_, fun w => ?_⟩⟩
    · rw [if_neg (fun q => by have := i32_0.mp q.1; have := i32_lt.mp z; omega)] at hp
      exact hp _ rfl M hR
    · have z' : 0 ≤ op.toInt := by
        rcases Int.lt_or_le op.toInt 0 with q | q
        · exact absurd (i32_lt.mpr q) z
        · exact q
      have w' : op.toInt ≤ 3 := i32_le.mp w
      rw [if_pos ⟨i32_0.mpr z', w⟩] at hp hx
      refine ⟨fun v => ?_, fun v => gR h b (by omega) ?_⟩
      · rw [if_neg (fun q => v q.1)] at hp
        exact c6_apply58 h r ha ht hb htb ⟨z', w'⟩ (fun q => absurd q v) hp
      · rw [u1]
        refine ⟨fun u => ?_, fun u => ?_⟩
        · rw [if_neg (fun q => u q.2)] at hp
          exact c6_apply58 h r ha ht hb htb ⟨z', w'⟩ (fun _ => u) hp
        · rw [if_pos ⟨v, u⟩] at hx
          exact hx rfl M hR
    · rw [if_neg (fun q => w q.2)] at hp
      exact hp _ rfl M hR
theorem zkp_wide {s : Int32} {T D : Nat} (hg : Nat.gcd T D = 1) (hw : 512 < zbl T ∨ 512 < zbl D) : zkp S s T D = (-4, S) := by
  unfold zkp
  rw [hg, Nat.div_one, Nat.div_one, if_pos hw]
theorem zpw_0 {b e : Nat} (h : 512 < zbl (b ^ e)) : b ≠ 0 := fun c => by
  subst c
  have : zbl (0 ^ e) ≤ 1 := by
    rcases Nat.eq_zero_or_pos e with q | q
    · rw [q]; decide
    · rw [Nat.zero_pow q]; decide
  omega
theorem c6_power (h : zRC G B M0 M S) {x n : Int32} (hp : ∀ v, (zo_power S x n).1 = some v → ∀ M', zRC G B M0 M' (zo_power S x n).2 → post v M') (hx : (zo_power S x n).1 = none → ∀ M', zRC G B M0 M' (zo_power S x n).2 → px M') : pX6_power G B x n post px M := by
  obtain ⟨σ, τ, π, β, h, r⟩ := h
  have hR : zRC G B M0 M S := ⟨σ, τ, π, β, h, r⟩
  unfold zo_power at hp hx
  unfold pX6_power
  have l1 : (-512 : Int32).toInt = -512 := by decide
  have l2 : (512 : Int32).toInt = 512 := by decide
  refine ⟨zC_xo h, c6_find' h r (fun e => ?_) (fun a e ha ht hxx => ?_)⟩
  · rw [e] at hp
    exact hp _ rfl M hR
  · rw [e] at hp hx
    simp only at hp hx
    obtain ⟨t1, t2, t3, t4⟩ := zRr_a r ha ht
    have sa := zgd_s t4
    refine ⟨fun z => ?_, fun z => ⟨fun w => ?_, fun w => ?_⟩⟩
    · rw [if_neg (fun q => by have := i32_le.mp q.1; have := Int32.lt_iff_toInt_lt.mp z; omega)] at hp
      exact hp _ rfl M hR
    · have z' : -512 ≤ n.toInt := by
        rcases Int.lt_or_le n.toInt (-512) with q | q
        · exact absurd (Int32.lt_iff_toInt_lt.mpr (by rw [l1]; exact q)) z
        · exact q
      have w' : n.toInt ≤ 512 := by have := i32_le.mp w; rw [l2] at this; exact this
      rw [if_pos ⟨i32_le.mpr (by rw [l1]; exact z'), w⟩] at hp hx
      have p47 : ¬ (n < 0 ∧ sS S a = 0) → pX6_power_47 G post px B n (B + zo_r a) M := by
        intro hz
        rw [if_neg hz] at hp
        unfold pX6_power_47
        refine ⟨zC_xo h, c6_isFull h r (fun hf => ⟨fun _ => xB h ⟨zC_bo h, ?_⟩, fun w => absurd rfl w⟩) (fun hf => ⟨fun w => absurd w (by decide), fun _ => ?_⟩)⟩
        · rw [if_pos hf] at hp
          have hp' : ∀ M', zRC G B M0 M' (zkp S (if n.toInt.natAbs % 2 = 1 then sS S a else 1) ((if n < 0 then sD S a else sN S a) ^ n.toInt.natAbs) ((if n < 0 then sN S a else sD S a) ^ n.toInt.natAbs)).2 → post (zkp S (if n.toInt.natAbs % 2 = 1 then sS S a else 1) ((if n < 0 then sD S a else sN S a) ^ n.toInt.natAbs) ((if n < 0 then sN S a else sD S a) ^ n.toInt.natAbs)).1 M' := hp _ rfl
          have hv : (if n.toInt < 0 then σ (2 * a + 1) else σ (2 * a)) = (if n < 0 then sD S a else sN S a) := by
            by_cases q : n < 0
            · rw [if_pos q, if_pos (i32_lt.mp q), t3]
            · rw [if_neg q, if_neg (fun w => q (i32_lt.mpr w)), t2]
          have hw : (if n.toInt < 0 then σ (2 * a) else σ (2 * a + 1)) = (if n < 0 then sN S a else sD S a) := by
            by_cases q : n < 0
            · rw [if_pos q, if_pos (i32_lt.mp q), t2]
            · rw [if_neg q, if_neg (fun w => q (i32_lt.mpr w)), t3]
          -- the two bases
          have hb : Nat.gcd (if n < 0 then sD S a else sN S a) (if n < 0 then sN S a else sD S a) = 1 ∧ (if n < 0 then sN S a else sD S a) ≠ 0 ∧ ((if n < 0 then sD S a else sN S a) ≠ 0 → sS S a = 1 ∨ sS S a = -1) := by
            by_cases q : n < 0
            · rw [if_pos q, if_pos q]
              have hs0 : sS S a ≠ 0 := fun w => hz ⟨q, w⟩
              exact ⟨by rw [Nat.gcd_comm]; exact t4.2.1, fun w => hs0 (sa.2.2.mp w), fun _ => (zgd_3 t4).resolve_left hs0⟩
            · rw [if_neg q, if_neg q]
              exact ⟨t4.2.1, t4.1, fun w => (zgd_3 t4).resolve_left (fun w2 => w (sa.2.2.mpr w2))⟩
          refine c0_powerOf h a ha (t := n.toInt.natAbs) (by omega) (by omega) (fun M1 σ1 k1 p48 p49 hs1 => ⟨zC_xo k1, ?_⟩)
          rw [hv] at p48
          rw [hw] at p49
          generalize hV : (if n < 0 then sD S a else sN S a) = V at *
          generalize hW : (if n < 0 then sN S a else sD S a) = W at *
          generalize n.toInt.natAbs = T at *
          obtain ⟨e1, q1, w1⟩ := p48
          obtain ⟨e2, q2, w2⟩ := p49
          refine c6_keep k1 (zRr_k r (fun l hl => hs1 l (Or.inl hl)) (fun q hq => pk_un (by omega))) hf ?_ (fun hne => ?_) ?_
          · rw [q2]
            exact Nat.ne_of_gt (Nat.pow_pos (Nat.pos_of_ne_zero hb.2.1))
          · rw [pk_us, t1]
            by_cases o : T % 2 = 1
            · rw [if_pos o]
              refine hb.2.2 (fun c => ?_)
              rcases w1 with w1 | ⟨_, w1⟩
              · rw [q1, c, w1, Nat.zero_pow (by omega)] at hne
                exact hne rfl
              · rw [q1] at w1
                exact zpw_0 w1 c
            · rw [if_neg o]
              exact Or.inl rfl
          · rw [pk_us, t1, q1, q2]
            have hgg : Nat.gcd (V ^ e1) (W ^ e2) = 1 := zcopow hb.1 e1 e2
            have hgT : Nat.gcd (V ^ T) (W ^ T) = 1 := zcopow hb.1 T T
            have heq : zkp S (if T % 2 = 1 then sS S a else 1) (V ^ e1) (W ^ e2) = zkp S (if T % 2 = 1 then sS S a else 1) (V ^ T) (W ^ T) := by
              rcases w1 with w1 | ⟨w1, w1'⟩
              · rcases w2 with w2 | ⟨w2, w2'⟩
                · rw [w1, w2]
                · rw [q2] at w2'
                  rw [zkp_wide hgg (Or.inr w2'), zkp_wide hgT (Or.inr (zpw_up w2 w2'))]
              · rw [q1] at w1'
                rw [zkp_wide hgg (Or.inl w1'), zkp_wide hgT (Or.inl (zpw_up w1 w1'))]
            rw [heq]
            exact hp'
        · rw [if_neg hf] at hp
          exact hp _ rfl M hR
      refine ⟨fun v => p47 (fun q => ?_), fun v => gR h a (by omega) ?_⟩
      · have := i32_lt.mp q.1
        have := i32_0.mp v
        omega
      · rw [t1]
        have hneg : n < 0 := i32_lt.mpr (by
          rcases Int.lt_or_le n.toInt 0 with q | q
          · exact q
          · exact absurd (i32_0.mpr q) v)
        refine ⟨fun u => p47 (fun q => u q.2), fun u => ?_⟩
        rw [if_pos ⟨hneg, u⟩] at hx
        exact hx rfl M hR
    · rw [if_neg (fun q => w q.2)] at hp
      exact hp _ rfl M hR
theorem c6_limb (h : zRC G B M0 M S) {x p i : Int32} (hp : ∀ v, (zo_limb S x p i).1 = some v → ∀ M', zRC G B M0 M' (zo_limb S x p i).2 → post v M') (hx : (zo_limb S x p i).1 = none → ∀ M', zRC G B M0 M' (zo_limb S x p i).2 → px M') : pX6_limb G B x p i post px M := by
  obtain ⟨σ, τ, π, β, h, r⟩ := h
  have hR : zRC G B M0 M S := ⟨σ, τ, π, β, h, r⟩
  unfold zo_limb at hp hx
  unfold pX6_limb
  have l1 : (1 : Int32).toInt = 1 := by decide
  refine ⟨zC_xo h, c6_find' h r (fun e => ?_) (fun a e ha ht hxx => ?_)⟩
  · rw [e] at hp
    exact hp _ rfl M hR
  · rw [e] at hp hx
    simp only at hp hx
    obtain ⟨t1, t2, t3, t4⟩ := zRr_a r ha ht
    refine ⟨fun z => ?_, fun z => ⟨fun w => ?_, fun w => ?_⟩⟩
    · rw [if_neg (fun q => by have := i32_0.mp q.1; have := i32_lt.mp z; omega)] at hp
      exact hp _ rfl M hR
    · have z' : 0 ≤ p.toInt := by
        rcases Int.lt_or_le p.toInt 0 with q | q
        · exact absurd (i32_lt.mpr q) z
        · exact q
      rw [if_pos ⟨i32_0.mpr z', w⟩] at hp hx
      have l40 : ∀ j, j < 67 → σ j = (if p = 0 then sN S a else sD S a) → pX6_limb_40 G post px i (B + zo_w j) M := by
        intro j hj hw
        rw [← hw] at hp hx
        obtain ⟨u, f, hd, hv, htop⟩ := zC_w h j hj
        have hlt : ∀ q, q < u → uI (f q) < 4294967296 := fun q _ => uI_lt _
        have hcap : u ≤ 1000 := Nat.le_trans hd.2.2.1 hd.2.2.2
        unfold pX6_limb_40 pX6_limb_55
        refine ⟨fun y => ?_, fun y => ⟨_, _, hd.1, rfl, fun v => ⟨zC_o h j hj, ?_⟩, fun v => ?_⟩⟩
        · rw [if_neg (fun q => by have := i32_0.mp q.1; have := i32_lt.mp y; omega)] at hx
          exact hx rfl M hR
        · have y' : 0 ≤ i.toInt := by
            rcases Int.lt_or_le i.toInt 0 with q | q
            · exact absurd (i32_lt.mpr q) y
            · exact q
          have v' : i.toInt < u := by
            have := Int32.lt_iff_toInt_lt.mp v
            rw [nI_toInt (by omega)] at this
            exact this
          have hiu : i.toInt.toNat < u := by omega
          have htop' := zs_top (d := fun q => uI (f q)) (u := u) (by omega) (fun c => htop (by omega) (uI_z.mpr c))
          rw [← hv] at htop'
          have hle : 4294967296 ^ i.toInt.toNat ≤ σ j := Nat.le_trans (Nat.pow_le_pow_right (by decide) (by omega)) htop'
          rw [if_pos ⟨i32_0.mpr y', hle⟩] at hp
          have en := i32_n y'
          have hq := q5_limb (zC_w h j hj) (j := i.toInt.toNat) (by omega) (post := fun r7 M6 => post r7.toInt32 M6) (hp _ rfl M hR)
          rw [← en] at hq
          exact hq
        · have y' : 0 ≤ i.toInt := by
            rcases Int.lt_or_le i.toInt 0 with q | q
            · exact absurd (i32_lt.mpr q) y
            · exact q
          have v' : (u : Int) ≤ i.toInt := by
            rcases Int.lt_or_le i.toInt u with q | q
            · exact absurd (Int32.lt_iff_toInt_lt.mpr (by rw [nI_toInt (by omega)]; exact q)) v
            · exact q
          have hvl : σ j < 4294967296 ^ u := by rw [hv]; exact zs_lt hlt
          have hpw : (4294967296 : Nat) ^ u ≤ 4294967296 ^ i.toInt.toNat := Nat.pow_le_pow_right (by decide) (by omega)
          rw [if_neg (fun q => by have := q.2; omega)] at hx
          exact hx rfl M hR
      refine ⟨fun v => gB h a (by omega) (l40 _ (by omega) ?_), fun v => gT h a (by omega) (l40 _ (by omega) ?_)⟩
      · rw [if_neg v, t3]
      · rw [if_pos v, t2]
    · rw [if_neg (fun q => w q.2)] at hp
      exact hp _ rfl M hR
end O4
