/-! ===== THE REFERENCE'S CALLS: part, best ===== -/
/-- the parts of a chain behind its head -/
def zcv (D r X Y p q p0 q0 : Nat) : Prop := Y < X ∧ 1 ≤ q ∧ p ≤ q ∧ (p0 ≤ q0 ∨ p0 = 1 ∧ p = 0 ∧ q0 = 0) ∧ q * X + q0 * Y = D ∧ p * X + p0 * Y = r ∧ (p * q0 + 1 = p0 * q ∨ p0 * q + 1 = p * q0)
theorem zcv_0 {D r : Nat} (h : r < D) : zcv D r D r 0 1 1 0 := ⟨h, by decide, by decide, Or.inr ⟨rfl, rfl, rfl⟩, by omega, by omega, Or.inl rfl⟩
theorem zcv_st {D r X Y p q p0 q0 : Nat} (h : zcv D r X Y p q p0 q0) (hY : Y ≠ 0) : zcv D r Y (X % Y) (p0 + X / Y * p) (q0 + X / Y * q) p q := by
  obtain ⟨h1, h2, h3, h4, h5, h6, h7⟩ := h
  have ht1 : 1 ≤ X / Y := (Nat.le_div_iff_mul_le (by omega)).mpr (by omega)
  have hq : 1 * q ≤ X / Y * q := Nat.mul_le_mul_right _ ht1
  have hpq : X / Y * p ≤ X / Y * q := Nat.mul_le_mul_left _ h3
  refine ⟨Nat.mod_lt _ (by omega), by omega, ?_, Or.inl h3, (zga_b hY h5).1, (zga_b hY h6).1, ?_⟩
  · rcases h4 with c | ⟨c1, c2, c3⟩
    · omega
    · rw [c1, c2, c3, Nat.mul_zero]
      omega
  · have e1 : (p0 + X / Y * p) * q = p0 * q + X / Y * p * q := Nat.add_mul _ _ _
    have e2 : p * (q0 + X / Y * q) = p * q0 + X / Y * p * q := by
      rw [Nat.mul_add, Nat.mul_left_comm p (X / Y) q, Nat.mul_assoc]
    rw [e1, e2]
    generalize X / Y * p * q = Z
    omega
theorem zdet {p q p0 q0 : Nat} (h : p * q0 + 1 = p0 * q ∨ p0 * q + 1 = p * q0) : Nat.gcd p q = 1 := by
  have h1 : Nat.gcd p q ∣ p * q0 := Nat.dvd_trans (Nat.gcd_dvd_left p q) (Nat.dvd_mul_right _ _)
  have h2 : Nat.gcd p q ∣ p0 * q := Nat.dvd_trans (Nat.gcd_dvd_right p q) (Nat.dvd_mul_left _ _)
  apply Nat.dvd_one.mp
  rcases h with c | c
  · rw [← c] at h2
    exact (Nat.dvd_add_right h1).mp h2
  · rw [← c] at h1
    exact (Nat.dvd_add_right h2).mp h1
theorem zdet2 {p q p0 q0 m : Nat} (h : p * q0 + 1 = p0 * q ∨ p0 * q + 1 = p * q0) : p * (q0 + m * q) + 1 = (p0 + m * p) * q ∨ (p0 + m * p) * q + 1 = p * (q0 + m * q) := by
  have e1 : (p0 + m * p) * q = p0 * q + m * p * q := Nat.add_mul _ _ _
  have e2 : p * (q0 + m * q) = p * q0 + m * p * q := by
    rw [Nat.mul_add, Nat.mul_left_comm p m q, Nat.mul_assoc]
  rw [e1, e2]
  generalize m * p * q = Z
  omega
theorem zgp {p q : Nat} (h : Nat.gcd p q = 1) (m : Nat) : Nat.gcd (m * q + p) q = 1 := by
  apply Nat.dvd_one.mp
  rw [← h]
  refine Nat.dvd_gcd ?_ (Nat.gcd_dvd_right _ _)
  exact (Nat.dvd_add_right (Nat.dvd_trans (Nat.gcd_dvd_right (m * q + p) q) (Nat.dvd_mul_left _ _))).mp (Nat.gcd_dvd_left (m * q + p) q)
theorem zgm {p q m : Nat} (h : Nat.gcd p q = 1) (hl : p ≤ m * q) : Nat.gcd (m * q - p) q = 1 := by
  apply Nat.dvd_one.mp
  rw [← h]
  refine Nat.dvd_gcd ?_ (Nat.gcd_dvd_right _ _)
  have := Nat.dvd_sub (Nat.dvd_trans (Nat.gcd_dvd_right (m * q - p) q) (Nat.dvd_mul_left q m)) (Nat.gcd_dvd_left (m * q - p) q)
  rw [show m * q - (m * q - p) = p by omega] at this
  exact this
section R79
variable {G : Nat → ClassId} {Bm : Nat} {M0 M : zm_M} {ι : Nat → Int32} {α : Nat → Nat → Int32} {K : Nat → Int64} {ρ : Nat → Nat} {S : zS} {t : Int32} {post : Int32 → zm_M → Prop}
theorem r7_asLong {post : Int64 → zm_M → Prop} (h : zP G Bm M0 M ι α K ρ) (r : Nat) (hv : ρ r < 18446744073709551616) (hp : post (lN (ρ r)) M) (hr : r < 24 := by decide) : pX7_asLong G Bm (nI r) post M := by
  obtain ⟨g, n, k, hz⟩ := h
  obtain ⟨u, h1, h2, h3, h4, h5⟩ := hz r hr
  have hu : u ≤ 2 := zsmall36 h4 h5 (k := 2) hv
  unfold pX7_asLong
  refine nA k (nR k hr ?_)
  rw [h1]
  refine ⟨fun y => nA k (nR k hr ?_), fun y => ?_⟩
  · have hu0 : u ≠ 0 := fun c => y (by rw [c]; rfl)
    rw [h1]
    rw [show (72 : Int32) * nI r + (1 : Int32) = nI (72 * r + 1) from z72 r 1, z720]
    refine ⟨fun z => gA k (gR7 k rfl (by omega) (gA k (gR7 k rfl (by omega) ?_))), fun z => gA k (gR7 k rfl (by omega) ?_)⟩
    · have hu2 : u = 2 := by
        have : u ≠ 1 := fun c => z (by rw [c]; rfl)
        omega
      subst hu2
      have d0 := h3 0 (by decide)
      have d1 := h3 1 (by decide)
      have e0 : g (72 * r) = lN (dgt g r 0) := gLN (g := g) (r := r) (i := 0)
      rw [gLN (g := g) (r := r) (i := 1), e0, lN_pair d1 d0]
      have e : dgt g r 1 * 4294967296 + dgt g r 0 = ρ r := by
        rw [h4, zs_step, zs_step]
        show _ = 0 + _ * 4294967296 ^ 0 + _ * 4294967296 ^ 1
        omega
      rw [e]
      exact hp
    · have hu1 : u = 1 := (nI_eq (b := 1) (by omega) (by decide)).mp z
      subst hu1
      have e0 : g (72 * r) = lN (dgt g r 0) := gLN (g := g) (r := r) (i := 0)
      rw [e0]
      have e : dgt g r 0 = ρ r := by
        rw [h4, zs_step]
        show _ = 0 + _ * 4294967296 ^ 0
        omega
      rw [e]
      exact hp
  · have hu0 : u = 0 := (nI_eq (b := 0) (by omega) (by decide)).mp y
    subst hu0
    have e : ρ r = 0 := h4
    rw [e] at hp
    exact hp
theorem r7_keepMixed (h : zP G Bm M0 M ι α K ρ) (r : zRn ι α K S) (hf : zF S < 24) {s0 : Int32} (hs0 : s0 = 0 ∨ s0 = 1 ∨ s0 = -1) (hh0 : s0 = 0 → ρ 15 = 0) (hh : ρ 15 ≤ 4294967296 ^ 16) (hpq : ρ 2 ≤ ρ 3) (hq : ρ 3 < 4294967296 ^ 16) (hq0 : ρ 3 ≠ 0) (hg : Nat.gcd (ρ 2) (ρ 3) = 1) (ht : ι 0 = t) (hp : ∀ M', zRM G Bm M0 M' (zkp S (zmx s0 (ρ 15) (ρ 2) (ρ 3)).1 (zmx s0 (ρ 15) (ρ 2) (ρ 3)).2 (ρ 3)).2 t → post (zkp S (zmx s0 (ρ 15) (ρ 2) (ρ 3)).1 (zmx s0 (ρ 15) (ρ 2) (ρ 3)).2 (ρ 3)).1 M') : pX7_keepMixed G Bm (zsr s0) post M := by
  have h36 : (4294967296 : Nat) ^ 16 < 4294967296 ^ 36 := Nat.pow_lt_pow_right (by decide) (by decide)
  have hT : ρ 15 * ρ 3 < 4294967296 ^ 71 := by
    have h1 : ρ 15 * ρ 3 ≤ 4294967296 ^ 16 * 4294967296 ^ 16 := Nat.mul_le_mul hh (by omega)
    rw [← Nat.pow_add] at h1
    exact Nat.lt_of_le_of_lt h1 (Nat.pow_lt_pow_right (by decide) (by decide))
  unfold pX7_keepMixed
  refine ⟨zP_o h, r7_times h 0 15 3 (by omega) (zl36 hq) (fun M1 k1 => ⟨zP_o k1, r7_copy k1 1 3 (fun M2 k2 => ?_)⟩)⟩
  have add : zmx s0 (ρ 15) (ρ 2) (ρ 3) = (1, ρ 15 * ρ 3 + ρ 2) → pX7_keepMixed_39 G post Bm M2 := by
    intro e
    rw [e] at hp
    unfold pX7_keepMixed_39
    refine ⟨zP_o k2, r7_add k2 0 2 hT (zl71 (by show ρ 2 < _; omega)) (fun M3 k3 x4 e4 => ?_)⟩
    rw [e4]
    unfold pX7_keepMixed_47
    exact ⟨zP_o k3, r7_keep (s := 1) k3 r hf (zgp hg _) hq0 (fun _ => Or.inl rfl) ht (fun M5 => hp M5)⟩
  refine ⟨fun y => add ?_, fun y => r7_np k2 15 (fun q => add ?_) (fun q => ⟨zP_o k2, r7_less k2 0 2 ?_ (fun M3 k3 => ?_)⟩)⟩
  · have hn : ¬ s0 < 0 := fun c => by
      unfold zsr at y
      rw [if_pos c] at y
      exact absurd y (by decide)
    unfold zmx zsum
    by_cases c : ρ 15 * ρ 3 = 0
    · rw [if_pos c, c, Nat.zero_add]
    · rw [if_neg c]
      rcases hs0 with q | q | q
      · exact absurd (by rw [hh0 q, Nat.zero_mul]) c
      · rw [if_pos q, q]
      · rw [q] at hn
        exact absurd (by decide) hn
  · have q' : ρ 15 = 0 := q
    unfold zmx zsum
    rw [q', Nat.zero_mul, if_pos rfl, Nat.zero_add]
  · have q' : ρ 15 ≠ 0 := q
    show ρ 2 ≤ ρ 15 * ρ 3
    have := Nat.mul_le_mul_right (ρ 3) (show 1 ≤ ρ 15 by omega)
    omega
  · have q' : ρ 15 ≠ 0 := q
    have hl := Nat.mul_le_mul_right (ρ 3) (show 1 ≤ ρ 15 by omega)
    have hneg : s0 < 0 := by
      unfold zsr at y
      by_cases c : s0 < 0
      · exact c
      · rw [if_neg c] at y
        exact absurd (by decide) y
    have hs1 : s0 = -1 := by
      rcases hs0 with q | q | q
      · rw [q] at hneg; exact absurd hneg (by decide)
      · rw [q] at hneg; exact absurd hneg (by decide)
      · exact q
    have e : zmx s0 (ρ 15) (ρ 2) (ρ 3) = (-1, ρ 15 * ρ 3 - ρ 2) := by
      unfold zmx zsum
      rw [if_neg (by omega), hs1, if_neg (by decide), if_neg (by omega)]
    rw [e] at hp
    have ez : zsr s0 = -1 := by rw [hs1]; rfl
    rw [ez]
    unfold pX7_keepMixed_47
    exact ⟨zP_o k3, r7_keep (s := -1) k3 r hf (zgm hg (by show ρ 2 ≤ ρ 15 * ρ 3; omega)) hq0 (fun _ => Or.inr rfl) ht (fun M5 => hp M5)⟩
theorem r7_step {post : zm_M → Prop} (h : zP G Bm M0 M ι α K ρ) (a b : Nat) (h1 : ρ a < 4294967296 ^ 16) (h2 : ρ b < 4294967296 ^ 16) (h10 : ρ 10 < 4294967296 ^ 16) (hp : ∀ (M' : zm_M) (ρ' : Nat → Nat), zP G Bm M0 M' ι α K ρ' → ρ' a = ρ b + ρ 10 * ρ a → ρ' b = ρ a → (∀ q, q ≠ a → q ≠ b → q ≠ 6 → ρ' q = ρ q) → post M') (ha : a < 6 := by decide) (hb : b < 6 := by decide) (hab : a ≠ b := by decide) : pX7_step G Bm (nI a) (nI b) post M := by
  have hT : ρ a * ρ 10 < 4294967296 ^ 71 := by
    have h3 : ρ a * ρ 10 ≤ 4294967296 ^ 16 * 4294967296 ^ 16 := Nat.mul_le_mul (by omega) (by omega)
    rw [← Nat.pow_add] at h3
    exact Nat.lt_of_le_of_lt h3 (Nat.pow_lt_pow_right (by decide) (by decide))
  unfold pX7_step
  refine ⟨zP_o h, r7_times h 6 a 10 (zl36 h1) (zl36 h10) (fun M1 k1 => ⟨zP_o k1, r7_add k1 6 b (by rw [rgu_s]; exact hT) (by rw [rgu_n (by omega)]; exact zl71 h2) (fun M2 k2 => ⟨zP_o k2, r7_copy k2 b a (fun M3 k3 => ⟨zP_o k3, r7_copy k3 a 6 (fun M4 k4 => hp M4 _ k4 ?_ ?_ (fun q q1 q2 q3 => ?_)) (by omega) (by decide)⟩) (by omega) (by omega)⟩) (by decide) (by omega) (by omega)⟩) (by decide) (by omega) (by decide) (by omega) (by decide)⟩
  · rw [rgu_s, rgu_n (by omega), rgu_s, rgu_s, rgu_n (by omega), Nat.add_comm, Nat.mul_comm]
  · rw [rgu_n (Ne.symm hab), rgu_s, rgu_n (by omega), rgu_n (by omega)]
  · rw [rgu_n q1, rgu_n q2, rgu_n q3, rgu_n q3]
theorem r7_partL {k101 : Nat → Int32 → zm_M → Prop} {s : Int32} {D r n : Nat} (hD : D < 4294967296 ^ 16) (hrD : r < D) (hn31 : n < 2 ^ 31) {o : Option (Nat × Nat)} {ρ0 : Nat → Nat} (hy : ∀ (M' : zm_M) (ρ' : Nat → Nat), zP G Bm M0 M' ι α K ρ' → o = some (ρ' 2, ρ' 3) → ρ' 15 = ρ0 15 → ρ' 2 ≤ ρ' 3 → ρ' 3 ≤ D → ρ' 3 ≠ 0 → Nat.gcd (ρ' 2) (ρ' 3) = 1 → k101 Bm s M') (hn : ∀ (M' : zm_M) (ρ' : Nat → Nat), zP G Bm M0 M' ι α K ρ' → o = none → post (-1) M') : ∀ (d k : Nat) (M : zm_M) (ρ : Nat → Nat), k + d = n → zP G Bm M0 M ι α K ρ → zcv D r (ρ 11) (ρ 12) (ρ 2) (ρ 3) (ρ 4) (ρ 5) → ρ 15 = ρ0 15 → zga d (ρ 11) (ρ 12) (ρ 2) (ρ 3) (ρ 4) (ρ 5) = o → ρ 11 ≤ D → pX7_part_61 G post k101 (d + 1) Bm (nI n) s (nI k) M
  | 0, k, M, ρ, hk, h, hc, h15, ho, hl => by
    rw [pX7_part_61]
    have e : k = n := by omega
    subst e
    obtain ⟨c1, c2, c3, c4, c5, c6, c7⟩ := hc
    have hqD : ρ 3 ≤ D := by
      have := Nat.mul_le_mul_left (ρ 3) (show 1 ≤ ρ 11 by omega)
      omega
    exact ⟨fun _ => hy M ρ h ho.symm h15 c3 hqD (by omega) (zdet c7), fun y => absurd ((nI_leI (by omega) (by omega)).mpr (Nat.le_refl _)) y⟩
  | d + 1, k, M, ρ, hk, h, hc, h15, ho, hl => by
    rw [pX7_part_61]
    unfold zga at ho
    refine ⟨fun y => absurd ((nI_leI (by omega) (by omega)).mp y) (by omega), fun _ => r7_nz' h 12 (fun q => ?_) (fun q => ?_)⟩
    · rw [if_pos q] at ho
      exact hn M ρ h ho.symm
    · rw [if_neg q] at ho
      have hc' := zcv_st hc q
      obtain ⟨c1, c2, c3, c4, c5, c6, c7⟩ := hc
      have x1 : 1 ≤ ρ 11 := by omega
      have hqD : ρ 3 ≤ D := by
        have := Nat.mul_le_mul_left (ρ 3) x1
        omega
      have hpD : ρ 2 ≤ D := by omega
      have hq0D : ρ 5 ≤ D := by
        have := Nat.mul_le_mul_left (ρ 5) (show 1 ≤ ρ 12 by omega)
        omega
      have hp0D : ρ 4 ≤ D := by
        have := Nat.mul_le_mul_left (ρ 4) (show 1 ≤ ρ 12 by omega)
        omega
      have htD : ρ 11 / ρ 12 ≤ D := Nat.le_trans (Nat.div_le_self _ _) hl
      refine ⟨zP_o h, r7_next h q (by omega) (fun M1 ρ1 k1 e10 e11 e12 f1 => ⟨zP_o k1, r7_step k1 2 4 (by rw [f1 2 (by omega)]; omega) (by rw [f1 4 (by omega)]; omega) (by rw [e10]; omega) (fun M2 ρ2 k2 g2 g4 f2 => ⟨zP_o k2, r7_step k2 3 5 (by rw [f2 3 (by decide) (by decide) (by decide), f1 3 (by omega)]; omega) (by rw [f2 5 (by decide) (by decide) (by decide), f1 5 (by omega)]; omega) (by rw [f2 10 (by decide) (by decide) (by decide), e10]; omega) (fun M3 ρ3 k3 g3 g5 f3 x17 e17 => ?_)⟩)⟩)⟩
      rw [e17, nI_1]
      have v11 : ρ3 11 = ρ 12 := by rw [f3 11 (by decide) (by decide) (by decide), f2 11 (by decide) (by decide) (by decide), e11]
      have v12 : ρ3 12 = ρ 11 % ρ 12 := by rw [f3 12 (by decide) (by decide) (by decide), f2 12 (by decide) (by decide) (by decide), e12]
      have v2 : ρ3 2 = ρ 4 + ρ 11 / ρ 12 * ρ 2 := by rw [f3 2 (by decide) (by decide) (by decide), g2, f1 4 (by omega), f1 2 (by omega), e10]
      have v4 : ρ3 4 = ρ 2 := by rw [f3 4 (by decide) (by decide) (by decide), g4, f1 2 (by omega)]
      have v3 : ρ3 3 = ρ 5 + ρ 11 / ρ 12 * ρ 3 := by rw [g3, f2 5 (by decide) (by decide) (by decide), f2 3 (by decide) (by decide) (by decide), f2 10 (by decide) (by decide) (by decide), f1 5 (by omega), f1 3 (by omega), e10]
      have v5 : ρ3 5 = ρ 3 := by rw [g5, f2 3 (by decide) (by decide) (by decide), f1 3 (by omega)]
      have v15 : ρ3 15 = ρ0 15 := by rw [f3 15 (by decide) (by decide) (by decide), f2 15 (by decide) (by decide) (by decide), f1 15 (by omega), h15]
      refine r7_partL hD hrD hn31 hy hn d (k + 1) M3 ρ3 (by omega) k3 ?_ v15 ?_ (by rw [v11]; omega)
      · rw [v11, v12, v2, v3, v4, v5]
        exact hc'
      · rw [v11, v12, v2, v3, v4, v5]
        exact ho
theorem zgd_3 {s : Int32} {N D : Nat} (h : zgd s N D) : s = 0 ∨ s = 1 ∨ s = -1 := by
  rcases h.2.2.1 with ⟨e, _⟩ | ⟨e | e, _⟩
  · exact Or.inl e
  · exact Or.inr (Or.inl e)
  · exact Or.inr (Or.inr e)
theorem m7_part (h : zRM G Bm M0 M S t) {x n : Int32} (hp : ∀ M', zRM G Bm M0 M' (zo_part S x n).2 0 → post (zo_part S x n).1 M') : pX7_part G Bm x n post M := by
  obtain ⟨ι, α, K, ρ, h, r, _⟩ := h
  unfold zo_part at hp
  unfold pX7_part
  refine r7_thr h (fun M1 k1 => ?_)
  have r1 : zRn (upd ι 0 0) α K S := zRn_ι r (pk_un (by decide)) (pk_un (by decide))
  have one : (1 : Int32).toInt = 1 := rfl
  refine ⟨zP_o k1, r7_isNumber k1 r1 (fun e => ⟨fun _ => ?_, fun z => absurd rfl z⟩) (fun a e ha ht hx => ⟨fun z => absurd z (by decide), fun _ => ⟨fun z => ⟨zP_o k1, ?_⟩, fun z => ?_⟩⟩)⟩
  · rw [e] at hp
    exact hp M1 ⟨_, _, _, _, k1, r1, pk_us⟩
  · rw [e] at hp
    simp only at hp
    subst hx
    have z' := i32_le.mp z
    rw [one] at z'
    rw [if_neg (fun q => by have := Int32.lt_iff_toInt_lt.mp q; rw [one] at this; omega)] at hp
    obtain ⟨a1, a2, a3, ga⟩ := zRn_a r1 ha ht
    have hin := i32_n (x := n) (by omega)
    have hn31 : n.toInt.toNat < 2 ^ 31 := by
      have := Int32.toInt_lt n
      omega
    refine r7_floor k1 r1 ha ht (fun M2 ρ2 k2 e10 e11 e12 f2 => ⟨zP_o k2, r7_copy k2 15 10 (fun M3 k3 => ⟨zP_o k3, r7_small k3 2 (fun M4 k4 => ⟨zP_o k4, r7_small k4 3 (fun M5 k5 => ⟨zP_o k5, r7_small k5 4 (fun M6 k6 => ⟨zP_o k6, r7_small k6 5 (fun M7 k7 x11 e11' => ⟨n.toInt.toNat - 1 + 1, ?_⟩)⟩)⟩)⟩)⟩)⟩)
    rw [e11', hin, nI_toInt hn31]
    have hrD : zrs (sS S a) (sN S a) (sD S a) < sD S a := zrs_lt ga.1
    refine r7_partL (G := G) (Bm := Bm) (M0 := M0) (ι := upd ι 0 0) (α := α) (K := K) (post := post) (n := n.toInt.toNat) (D := sD S a) (r := zrs (sS S a) (sN S a) (sD S a)) (o := zga (n.toInt.toNat - 1) (sD S a) (zrs (sS S a) (sN S a) (sD S a)) 0 1 1 0) (ρ0 := rgu ρ2 15 (ρ2 10)) ga.2.2.2.2 hrD hn31 (fun M8 ρ8 k8 ho h15 hpq hqD hq0 hgg => ⟨zP_o k8, r7_isFull k8 r1 (fun c => ⟨zP_o k8, ?_⟩) (fun c => ?_)⟩) (fun M8 ρ8 k8 ho => ?_) (n.toInt.toNat - 1) 1 M7 _ (by omega) k7 ?_ rfl ?_ ?_
    · rw [ho] at hp
      exact hp M8 ⟨_, _, _, _, k8, r1, pk_us⟩
    · show zcv _ _ (ρ2 11) (ρ2 12) 0 1 1 0
      rw [e11, e12]
      exact zcv_0 hrD
    · show zga _ (ρ2 11) (ρ2 12) 0 1 1 0 = _
      rw [e11, e12]
    · show ρ2 11 ≤ _
      rw [e11]
      exact Nat.le_refl _
    · rw [ho] at hp
      simp only at hp
      rw [if_pos c] at hp
      have v15 : ρ8 15 = zhd (sS S a) (sN S a) (sD S a) := by rw [h15, rgu_s, e10]
      rw [← v15] at hp
      refine r7_keepMixed k8 r1 c (zgd_3 ga) (fun q => ?_) ?_ hpq (Nat.lt_of_le_of_lt hqD ga.2.2.2.2) hq0 hgg pk_us hp
      · rw [v15, (zgd_s ga).2.2.mpr q]
        exact zhd_0
      · rw [v15]
        have := zhd_le (s := sS S a) (N := sN S a) (D := sD S a)
        have := ga.2.2.2.1
        omega
    · rw [ho] at hp
      simp only at hp
      rw [if_neg c] at hp
      exact hp M8 ⟨_, _, _, _, k8, r1, pk_us⟩
  · rw [e] at hp
    simp only at hp
    rw [if_pos (Int32.lt_iff_toInt_lt.mpr (by
      rw [one]
      rcases Int.lt_or_le n.toInt 1 with c | c
      · exact c
      · exact absurd (i32_le.mpr (by rw [one]; exact c)) z))] at hp
    exact hp M1 ⟨_, _, _, _, k1, r1, pk_us⟩
/-! best -/
theorem r7_cmp (h : zP G Bm M0 M ι α K ρ) (a b va vb : Nat) (ea : ρ a = va) (eb : ρ b = vb) (hp : post (if va < vb then -1 else if va = vb then 0 else 1) M) (ha : a < 24 := by decide) (hb : b < 24 := by decide) : pX7_compared G Bm (nI a) (nI b) post M := by
  subst ea
  subst eb
  exact r7_compared h a b hp ha hb
theorem r7_distance {post : zm_M → Prop} (h : zP G Bm M0 M ι α K ρ) {p q : Nat} (hp63 : p < 2 ^ 63) (hq63 : q < 2 ^ 63) (h21 : ρ 21 < 4294967296 ^ 16) (h22 : ρ 22 < 4294967296 ^ 16) (hp : ∀ (M' : zm_M) (ρ' : Nat → Nat), zP G Bm M0 M' ι α K ρ' → ρ' 6 = zdf (ρ 21 * q) (ρ 22 * p) → (∀ j, j ≠ 4 → j ≠ 5 → j ≠ 6 → ρ' j = ρ j) → post M') : pX7_distance G Bm (nI 6) (lN p) (lN q) post M := by
  have h2 : (2 : Nat) ^ 63 < 4294967296 ^ 36 := Nat.lt_of_lt_of_le (show (2 : Nat) ^ 63 < 4294967296 ^ 2 by decide) (Nat.pow_le_pow_right (by decide) (by decide))
  unfold pX7_distance
  have eq : uN (lN q) = q := uN_lN (by omega)
  have ep : uN (lN p) = p := uN_lN (by omega)
  refine ⟨zP_o h, r7_small h 4 (fun M1 k1 => ⟨zP_o k1, r7_times k1 6 21 4 (zl36 h21) (by show uN (lN q) < _; omega) (fun M2 k2 => ⟨zP_o k2, r7_small k2 4 (fun M3 k3 => ⟨zP_o k3, r7_times k3 5 22 4 (zl36 h22) (by show uN (lN p) < _; omega) (fun M4 k4 => ⟨zP_o k4, r7_cmp k4 6 5 (ρ 21 * q) (ρ 22 * p) (by show ρ 21 * uN (lN q) = _; rw [eq]) (by show ρ 22 * uN (lN p) = _; rw [ep]) ?_⟩)⟩)⟩)⟩)⟩
  by_cases c : ρ 21 * q < ρ 22 * p
  · rw [if_pos c]
    refine ⟨fun _ => ⟨zP_o k4, r7_less k4 5 6 (by show ρ 21 * uN (lN q) ≤ ρ 22 * uN (lN p); rw [eq, ep]; omega) (fun M5 k5 => ⟨zP_o k5, r7_copy k5 6 5 (fun M6 k6 => hp M6 _ k6 ?_ (fun j j1 j2 j3 => ?_))⟩)⟩, fun y => absurd (by decide) y⟩
    · show ρ 22 * uN (lN p) - ρ 21 * uN (lN q) = _
      rw [eq, ep]
      unfold zdf
      rw [if_neg (by omega)]
    · rw [rgu_n j3, rgu_n j2, rgu_n j2, rgu_n j1, rgu_n j3, rgu_n j1]
  · rw [if_neg c]
    refine ⟨fun y => absurd y (by split <;> decide), fun _ => ⟨zP_o k4, r7_less k4 6 5 (by show ρ 22 * uN (lN p) ≤ ρ 21 * uN (lN q); rw [eq, ep]; omega) (fun M5 k5 => hp M5 _ k5 ?_ (fun j j1 j2 j3 => ?_))⟩⟩
    · show ρ 21 * uN (lN q) - ρ 22 * uN (lN p) = _
      rw [eq, ep]
      unfold zdf
      rw [if_pos (by omega)]
    · rw [rgu_n j3, rgu_n j2, rgu_n j1, rgu_n j3, rgu_n j1]
theorem zdf_le {a b m : Nat} (ha : a ≤ m) (hb : b ≤ m) : zdf a b ≤ m := by
  unfold zdf
  split <;> omega
theorem r7_nearer (h : zP G Bm M0 M ι α K ρ) (r : zRn ι α K S) (hf : zF S < 24) {s0 : Int32} (hs0 : s0 = 0 ∨ s0 = 1 ∨ s0 = -1) (hh0 : s0 = 0 → ρ 15 = 0) (hh : ρ 15 ≤ 4294967296 ^ 16) (h21 : ρ 21 < 4294967296 ^ 16) (h22 : ρ 22 < 4294967296 ^ 16) {p q p2 q2 : Nat} (hpq : p ≤ q) (hpq2 : p2 ≤ q2) (hq : q < 2 ^ 63) (hq2 : q2 < 2 ^ 63) (hq0 : q ≠ 0) (hq20 : q2 ≠ 0) (hg : Nat.gcd p q = 1) (hg2 : Nat.gcd p2 q2 = 1) (ht : ι 0 = t) (hp : ∀ M', zRM G Bm M0 M' (zkp S (zmx s0 (ρ 15) (zch (ρ 21) (ρ 22) p q p2 q2).1 (zch (ρ 21) (ρ 22) p q p2 q2).2).1 (zmx s0 (ρ 15) (zch (ρ 21) (ρ 22) p q p2 q2).1 (zch (ρ 21) (ρ 22) p q p2 q2).2).2 (zch (ρ 21) (ρ 22) p q p2 q2).2).2 t → post (zkp S (zmx s0 (ρ 15) (zch (ρ 21) (ρ 22) p q p2 q2).1 (zch (ρ 21) (ρ 22) p q p2 q2).2).1 (zmx s0 (ρ 15) (zch (ρ 21) (ρ 22) p q p2 q2).1 (zch (ρ 21) (ρ 22) p q p2 q2).2).2 (zch (ρ 21) (ρ 22) p q p2 q2).2).1 M') : pX7_nearer G Bm (zsr s0) (lN p) (lN q) (lN p2) (lN q2) post M := by
  have eq : uN (lN q) = q := uN_lN (by omega)
  have eq2 : uN (lN q2) = q2 := uN_lN (by omega)
  have ep : uN (lN p) = p := uN_lN (by omega)
  have ep2 : uN (lN p2) = p2 := uN_lN (by omega)
  have h16 : (2 : Nat) ^ 63 < 4294967296 ^ 16 := Nat.lt_of_lt_of_le (show (2 : Nat) ^ 63 < 4294967296 ^ 2 by decide) (Nat.pow_le_pow_right (by decide) (by decide))
  have h36' : (4294967296 : Nat) ^ 16 < 4294967296 ^ 36 := Nat.pow_lt_pow_right (by decide) (by decide)
  have hdl : ∀ x y : Nat, x < 2 ^ 63 → y < 2 ^ 63 → zdf (ρ 21 * x) (ρ 22 * y) < 4294967296 ^ 36 := by
    intro x y hx hy
    have h1 : ρ 21 * x ≤ 4294967296 ^ 16 * 4294967296 ^ 16 := Nat.mul_le_mul (by omega) (by omega)
    have h2 : ρ 22 * y ≤ 4294967296 ^ 16 * 4294967296 ^ 16 := Nat.mul_le_mul (by omega) (by omega)
    have h3 := zdf_le h1 h2
    rw [← Nat.pow_add] at h3
    exact Nat.lt_of_le_of_lt h3 (Nat.pow_lt_pow_right (by decide) (by decide))
  -- the one that is chosen
  have pick : ∀ (x y : Nat) (M' : zm_M) (ρ' : Nat → Nat), zP G Bm M0 M' ι α K ρ' → ρ' 15 = ρ 15 → ρ' 2 = x → x ≤ y → y < 2 ^ 63 → y ≠ 0 → Nat.gcd x y = 1 → zch (ρ 21) (ρ 22) p q p2 q2 = (x, y) → pX7_nearer_131 G post Bm (zsr s0) Bm (3 : Int32) (lN y) M' := by
    intro x y M' ρ' k' e15 v2 hxy hy hy0 hgg hz
    rw [hz] at hp
    have ey : uN (lN y) = y := uN_lN (by omega)
    unfold pX7_nearer_131
    refine ⟨zP_o k', r7_small k' 3 (fun M10 k10 => ⟨zP_o k10, ?_⟩)⟩
    have v15 : rgu ρ' 3 (uN (lN y)) 15 = ρ 15 := e15
    have v2' : rgu ρ' 3 (uN (lN y)) 2 = x := v2
    have v3 : rgu ρ' 3 (uN (lN y)) 3 = y := ey
    refine r7_keepMixed k10 r hf hs0 (fun q => by rw [v15]; exact hh0 q) (by rw [v15]; exact hh) (by rw [v2', v3]; exact hxy) (by rw [v3]; omega) (by rw [v3]; exact hy0) (by rw [v2', v3]; exact hgg) ht ?_
    rw [v15, v2', v3]
    exact hp
  have first : ∀ (M' : zm_M) (ρ' : Nat → Nat), zP G Bm M0 M' ι α K ρ' → ρ' 15 = ρ 15 → zch (ρ 21) (ρ 22) p q p2 q2 = (p, q) → pX7_nearer_94 G post Bm (zsr s0) (lN p) (lN q) (lN p2) (lN q2) M' := by
    intro M' ρ' k' e15 hz
    unfold pX7_nearer_94 pX7_nearer_99 pX7_nearer_114
    refine ⟨fun y => absurd y (by decide), fun _ => ?_⟩
    exact ⟨zP_o k', r7_small k' 2 (fun M9 k9 => ⟨fun y => absurd y (by decide), fun _ => pick p q M9 _ k9 e15 ep hpq hq hq0 hg hz⟩)⟩
  have second : ∀ (M' : zm_M) (ρ' : Nat → Nat), zP G Bm M0 M' ι α K ρ' → ρ' 15 = ρ 15 → zch (ρ 21) (ρ 22) p q p2 q2 = (p2, q2) → pX7_nearer_98 G post Bm (zsr s0) (lN p) (lN q) (lN p2) (lN q2) M' := by
    intro M' ρ' k' e15 hz
    unfold pX7_nearer_98 pX7_nearer_99 pX7_nearer_114
    refine ⟨fun _ => ?_, fun y => absurd rfl y⟩
    exact ⟨zP_o k', r7_small k' 2 (fun M9 k9 => ⟨fun _ => pick p2 q2 M9 _ k9 e15 ep2 hpq2 hq2 hq20 hg2 hz, fun y => absurd rfl y⟩)⟩
  unfold pX7_nearer
  refine ⟨zP_o h, r7_distance h (by omega) hq h21 h22 (fun M1 ρ1 k1 e6 f1 => ⟨zP_o k1, r7_small k1 4 (fun M2 k2 => ⟨zP_o k2, r7_times k2 7 6 4 (by show ρ1 6 < _; rw [e6]; exact hdl _ _ hq (by omega)) (by show uN (lN q2) < _; omega) (fun M3 k3 => ⟨zP_o k3, r7_distance k3 (p := p2) (q := q2) (by omega) hq2 (by show ρ1 21 < _; rw [f1 21 (by decide) (by decide) (by decide)]; exact h21) (by show ρ1 22 < _; rw [f1 22 (by decide) (by decide) (by decide)]; exact h22) (fun M4 ρ4 k4 e6' f4 => ⟨zP_o k4, r7_small k4 4 (fun M5 k5 => ⟨zP_o k5, r7_times k5 8 6 4 (by show ρ4 6 < _; rw [e6']; show zdf (ρ1 21 * q2) (ρ1 22 * p2) < _; rw [f1 21 (by decide) (by decide) (by decide), f1 22 (by decide) (by decide) (by decide)]; exact hdl _ _ hq2 (by omega)) (by show uN (lN q) < _; omega) (fun M6 k6 => ⟨zP_o k6, r7_compared k6 7 8 ?_⟩)⟩)⟩)⟩)⟩)⟩)⟩
  have v21 : ρ1 21 = ρ 21 := f1 21 (by decide) (by decide) (by decide)
  have v22 : ρ1 22 = ρ 22 := f1 22 (by decide) (by decide) (by decide)
  have v15 : rgu (rgu ρ4 4 (uN (lN q))) 8 (rgu ρ4 4 (uN (lN q)) 6 * rgu ρ4 4 (uN (lN q)) 4) 15 = ρ 15 := by
    show ρ4 15 = _
    rw [f4 15 (by decide) (by decide) (by decide)]
    show ρ1 15 = _
    rw [f1 15 (by decide) (by decide) (by decide)]
  have v7 : rgu (rgu ρ4 4 (uN (lN q))) 8 (rgu ρ4 4 (uN (lN q)) 6 * rgu ρ4 4 (uN (lN q)) 4) 7 = zdf (ρ 21 * q) (ρ 22 * p) * q2 := by
    show ρ4 7 = _
    rw [f4 7 (by decide) (by decide) (by decide)]
    show ρ1 6 * uN (lN q2) = _
    rw [e6, eq2]
  have v8 : rgu (rgu ρ4 4 (uN (lN q))) 8 (rgu ρ4 4 (uN (lN q)) 6 * rgu ρ4 4 (uN (lN q)) 4) 8 = zdf (ρ 21 * q2) (ρ 22 * p2) * q := by
    show ρ4 6 * uN (lN q) = _
    rw [e6', eq]
    show zdf (ρ1 21 * q2) (ρ1 22 * p2) * q = _
    rw [v21, v22]
  rw [v7, v8]
  generalize hA : zdf (ρ 21 * q) (ρ 22 * p) * q2 = A at *
  generalize hB : zdf (ρ 21 * q2) (ρ 22 * p2) * q = B at *
  have hz : zch (ρ 21) (ρ 22) p q p2 q2 = if A < B ∨ A = B ∧ (q < q2 ∨ q = q2 ∧ p ≤ p2) then (p, q) else (p2, q2) := by
    unfold zch
    rw [hA, hB]
  by_cases c : A < B
  · rw [if_pos c]
    exact ⟨fun _ => first M6 _ k6 v15 (by rw [hz, if_pos (Or.inl c)]), fun y => absurd (by decide) y⟩
  · rw [if_neg c]
    by_cases c2 : A = B
    · rw [if_pos c2]
      refine ⟨fun y => absurd y (by decide), fun _ => ⟨fun y => absurd rfl y, fun _ => ⟨fun y => ?_, fun y => ⟨fun z => ?_, fun z => ⟨fun w => ?_, fun w => ?_⟩⟩⟩⟩⟩
      · have y' := (pk_lLT (by omega) (by omega)).mp y
        exact first M6 _ k6 v15 (by rw [hz, if_pos (Or.inr ⟨c2, Or.inl y'⟩)])
      · have y' : ¬ q < q2 := fun c => y ((pk_lLT (by omega) (by omega)).mpr c)
        have z' : q ≠ q2 := fun c => z (by rw [c])
        exact second M6 _ k6 v15 (by rw [hz, if_neg (by omega)])
      · have z' : q = q2 := (pk_lEQ (by omega) (by omega)).mp z
        have w' : p2 ≤ p := (pk_lLE (by omega) (by omega)).mp w
        refine second M6 _ k6 v15 ?_
        rw [hz]
        by_cases c3 : p = p2
        · rw [if_pos (Or.inr ⟨c2, Or.inr ⟨z', by omega⟩⟩), c3, z']
        · rw [if_neg (by omega)]
      · have z' : q = q2 := (pk_lEQ (by omega) (by omega)).mp z
        have w' : ¬ p2 ≤ p := fun c => w ((pk_lLE (by omega) (by omega)).mpr c)
        exact first M6 _ k6 v15 (by rw [hz, if_pos (Or.inr ⟨c2, Or.inr ⟨z', by omega⟩⟩)])
    · rw [if_neg c2]
      exact ⟨fun y => absurd y (by decide), fun _ => ⟨fun _ => second M6 _ k6 v15 (by rw [hz, if_neg (by omega)]), fun y => absurd y (by decide)⟩⟩
end R79
