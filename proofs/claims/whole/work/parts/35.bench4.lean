/-! ===== BENCH: the nearest whole number, factors, scales ===== -/
section C04
variable {G : Nat → ClassId} {B : Nat} {M0 M : zm_M} {σ : Nat → Nat} {τ : Nat → Int32} {π : Nat → Nat} {β : Nat → Nat → Int32}
theorem c0_rup {post : Int32 → zm_M → Prop} (h : zC G B M0 M σ τ π β) (i j : Nat) (hi : i < 67) (hj : j < 67) (hij : j ≠ i) (hb : σ i * 2 < 4294967296 ^ zo_c i) {o : Int32} {odd : Prop} (ho : o ≠ 0 ↔ odd) (hp1 : (σ j < 2 * σ i ∨ σ j = 2 * σ i ∧ odd) → ∀ M', zC G B M0 M' (ux σ i (2 * σ i)) τ π β → post 1 M') (hp0 : ¬ (σ j < 2 * σ i ∨ σ j = 2 * σ i ∧ odd) → ∀ M', zC G B M0 M' (ux σ i (2 * σ i)) τ π β → post 0 M') : pX0_isRoundedUp G (B + zo_w i) (B + zo_w j) o post M := by
  unfold pX0_isRoundedUp
  refine ⟨zC_o h i hi, c5_shiftLeft h i hi (s := 1) (by decide) (by rw [Nat.pow_one]; exact hb) (fun M1 k1 => ⟨zC_o k1 i hi, c5_order k1 i j hi hj ?_⟩)⟩
  rw [Nat.pow_one, Nat.mul_comm] at k1
  rw [Nat.pow_one, Nat.mul_comm, ux_s, ux_n hij]
  by_cases c1 : 2 * σ i < σ j
  · rw [if_pos c1]
    exact ⟨fun y => absurd y (by decide), fun _ => ⟨fun _ => ⟨zb_0, hp0 (by omega) M1 k1⟩, fun y => absurd y (by decide)⟩⟩
  · rw [if_neg c1]
    by_cases c2 : 2 * σ i = σ j
    · rw [if_pos c2]
      refine ⟨fun y => absurd y (by decide), fun _ => ⟨fun y => absurd rfl y, fun _ => ⟨fun y => ⟨zb_0, hp0 (fun z => ?_) M1 k1⟩, fun y => ⟨zb_1, hp1 (Or.inr ⟨c2.symm, ho.mp y⟩) M1 k1⟩⟩⟩⟩
      rcases z with z | z
      · omega
      · exact absurd y (ho.mpr z.2)
    · rw [if_neg c2]
      exact ⟨fun _ => ⟨zb_1, hp1 (by omega) M1 k1⟩, fun y => absurd (by decide) y⟩
/-- whether the quotient goes away from 0 -/
def zaw (s how : Int32) (q r D : Nat) : Prop := (how = 0 ∧ s < 0 ∧ r ≠ 0) ∨ (how = 1 ∧ 0 < s ∧ r ≠ 0) ∨ (how = 2 ∧ (D < 2 * r ∨ D = 2 * r ∧ q % 2 = 1))
theorem c0_wholeNear {post : zm_M → Prop} (h : zC G B M0 M σ τ π β) (a : Nat) (ha : a < 24) {how : Int32} (hD : σ (2 * a + 1) ≠ 0) (hp : ∀ (M' : zm_M) (σ' : Nat → Nat), zC G B M0 M' σ' (upd τ 24 (τ a)) π β → (zaw (τ a) how (σ (2 * a) / σ (2 * a + 1)) (σ (2 * a) % σ (2 * a + 1)) (σ (2 * a + 1)) → σ' 48 = σ (2 * a) / σ (2 * a + 1) + 1) → (¬ zaw (τ a) how (σ (2 * a) / σ (2 * a + 1)) (σ (2 * a) % σ (2 * a + 1)) (σ (2 * a + 1)) → σ' 48 = σ (2 * a) / σ (2 * a + 1)) → σ' 49 = 1 → (∀ l, l < 48 ∨ 54 ≤ l → σ' l = σ l) → post M') : pX0_wholeNear G (B + 123) (B + zo_r a) how post M := by
  have hNl := zC_n h (2 * a) (by omega)
  have hDl := zC_n h (2 * a + 1) (by omega)
  generalize hN : σ (2 * a) = N at *
  generalize hDD : σ (2 * a + 1) = D at *
  have hml : N % D < D := Nat.mod_lt _ (by omega)
  have hql : N / D ≤ N := Nat.div_le_self _ _
  have hpow : 4294967296 ^ 16 * 2 < 4294967296 ^ 36 := by decide
  -- the end
  have fin : ∀ (M' : zm_M) (σ' : Nat → Nat), zC G B M0 M' σ' τ π β → (zaw (τ a) how (N / D) (N % D) D → σ' 48 = N / D + 1) → (¬ zaw (τ a) how (N / D) (N % D) D → σ' 48 = N / D) → (∀ l, l < 48 ∨ 54 ≤ l → σ' l = σ l) → pX0_wholeNear_135 G post (B + 123) (B + zo_r a) M' := by
    intro M' σ' k h1 h2 hs
    unfold pX0_wholeNear_135
    refine bR k (gR k a (by omega) (pS k 24 (by decide) (fun M2 k2 => bR k2 (gB k2 24 (by decide) ⟨zC_o k2 49 (by decide), c5_become k2 49 (by decide) uN_1 (fun M3 k3 => hp M3 _ k3 (fun z => ?_) (fun z => ?_) ux_s (fun l hl => ?_))⟩))))
    · rw [ux_n (by decide)]; exact h1 z
    · rw [ux_n (by decide)]; exact h2 z
    · rw [ux_n (by omega)]; exact hs l hl
  have mid : ∀ (M' : zm_M) (σ' : Nat → Nat) (v : Int32), zC G B M0 M' σ' τ π β → (zaw (τ a) how (N / D) (N % D) D → v ≠ 0) → (¬ zaw (τ a) how (N / D) (N % D) D → v = 0) → σ' 48 = N / D → (∀ l, l < 48 ∨ 54 ≤ l → σ' l = σ l) → pX0_wholeNear_119 G post (B + 123) (B + zo_r a) v M' := by
    intro M' σ' v k h1 h2 h3 hs
    unfold pX0_wholeNear_119
    refine ⟨fun y => fin M' σ' k (fun z => absurd y (h1 z)) (fun _ => h3) hs, fun y => bR k (gT k 24 (by decide) ⟨zC_o k 48 (by decide), c5_timesPlus k 48 (by decide) (q := 1) (m0 := 1) (by decide) (by decide) ?_ (fun M2 k2 => fin M2 _ k2 (fun z => ?_) (fun z => absurd (h2 z) y) (fun l hl => ?_))⟩)⟩
    · rw [h3]
      show N / D * 1 + 1 < 4294967296 ^ 36
      omega
    · rw [ux_s, h3, Nat.mul_one]
    · rw [ux_n (by omega), hs l hl]
  unfold pX0_wholeNear
  refine bS h (gT h a (by omega) ⟨zC_o h 53 (by decide), c5_copy h 53 (2 * a) (by decide) (by omega) ?_ (fun M1 k1 => bS k1 (gB k1 a (by omega) (bR k1 (gT k1 24 (by decide) ⟨zC_o k1 53 (by decide), c5_divide k1 53 (2 * a + 1) 48 (by decide) (by omega) (by decide) (by omega) (by decide) (by omega) (by decide) (fun M2 k2 x9 e9 => ?_)⟩))))⟩)
  · rw [hN]
    show N < 4294967296 ^ 36
    omega
  · rw [ux_s, ux_n (i := 53) (j := 2 * a + 1) (by omega), hN, hDD] at k2
    have e53 : ux (ux (ux σ 53 N) 53 (N % D)) 48 (N / D) 53 = N % D := rfl
    have e48 : ux (ux (ux σ 53 N) 53 (N % D)) 48 (N / D) 48 = N / D := rfl
    have hs2 : ∀ l, l < 48 ∨ 54 ≤ l → ux (ux (ux σ 53 N) 53 (N % D)) 48 (N / D) l = σ l := fun l hl => by
      rw [ux_n (by omega), ux_n (by omega), ux_n (by omega)]
    refine ⟨fun y0 => ⟨fun y1 => ⟨fun y2 => ?_, fun y2 => ?_⟩, fun y1 => ?_⟩, fun y0 => ?_⟩
    · have hz : ¬ zaw (τ a) how (N / D) (N % D) D := fun z => by
        rcases z with z | z | z
        · exact y0 z.1
        · exact y1 z.1
        · exact y2 z.1
      exact mid M2 _ x9 k2 (fun z => absurd z hz) (fun _ => e9) e48 hs2
    · refine bS k2 (gB k2 a (by omega) (bR k2 (gT k2 24 (by decide) ⟨zC_o k2 48 (by decide), c5_isOdd k2 48 (by decide) ?_⟩)))
      have hz : zaw (τ a) how (N / D) (N % D) D ↔ (D < 2 * (N % D) ∨ D = 2 * (N % D) ∧ N / D % 2 = 1) := by
        refine ⟨fun z => ?_, fun z => Or.inr (Or.inr ⟨y2, z⟩)⟩
        rcases z with z | z | z
        · exact absurd z.1 y0
        · exact absurd z.1 y1
        · exact z.2
      have e0 : ux (ux (ux σ 53 N) 53 (N % D)) 48 (N / D) (2 * a + 1) = D := by rw [hs2 _ (by omega), hDD]
      refine c0_rup k2 53 (2 * a + 1) (by decide) (by omega) (by omega) ?_ (odd := N / D % 2 = 1) ?_ (fun z M3 k3 => ?_) (fun z M3 k3 => ?_)
      · rw [e53]
        show N % D * 2 < 4294967296 ^ 36
        omega
      · rw [e48]
        by_cases c : N / D % 2 = 1
        · rw [if_pos c]; exact ⟨fun _ => c, fun _ => by decide⟩
        · rw [if_neg c]; exact ⟨fun y => absurd rfl y, fun y => absurd y c⟩
      · rw [e0, e53] at z
        refine mid M3 _ 1 k3 (fun _ => by decide) (fun y => absurd (hz.mpr z) y) ?_ (fun l hl => ?_)
        · rw [ux_n (by decide)]; exact e48
        · rw [ux_n (by omega)]; exact hs2 l hl
      · rw [e0, e53] at z
        refine mid M3 _ 0 k3 (fun y => absurd (hz.mp y) z) (fun _ => rfl) ?_ (fun l hl => ?_)
        · rw [ux_n (by decide)]; exact e48
        · rw [ux_n (by omega)]; exact hs2 l hl
    · have hz : zaw (τ a) how (N / D) (N % D) D ↔ (0 < τ a ∧ N % D ≠ 0) := by
        refine ⟨fun z => ?_, fun z => Or.inr (Or.inl ⟨y1, z⟩)⟩
        rcases z with z | z | z
        · exact absurd z.1 y0
        · exact z.2
        · exact absurd (y1.symm.trans z.1) (by decide)
      refine gR k2 a (by omega) ⟨fun y2 => ?_, fun y2 => bS k2 ⟨zC_o k2 53 (by decide), c5_isZero k2 53 (by decide) ⟨fun y3 => ?_, fun y3 => ?_⟩⟩⟩
      · unfold pX0_wholeNear_87 pX0_wholeNear_88
        exact mid M2 _ 0 k2 (fun z => absurd (hz.mp z).1 (Int32.not_lt.mpr y2)) (fun _ => rfl) e48 hs2
      · rw [e53] at y3
        have c : N % D = 0 := by
          by_cases c : N % D = 0
          · exact c
          · rw [if_neg c] at y3; exact absurd rfl y3
        unfold pX0_wholeNear_87 pX0_wholeNear_88
        exact mid M2 _ 0 k2 (fun z => absurd c (hz.mp z).2) (fun _ => rfl) e48 hs2
      · rw [e53] at y3
        have c : N % D ≠ 0 := fun c => by rw [if_pos c] at y3; exact absurd y3 (by decide)
        unfold pX0_wholeNear_88
        exact mid M2 _ 1 k2 (fun _ => by decide) (fun z => absurd (hz.mpr ⟨Int32.not_le.mp y2, c⟩) z) e48 hs2
    · have hz : zaw (τ a) how (N / D) (N % D) D ↔ (τ a < 0 ∧ N % D ≠ 0) := by
        refine ⟨fun z => ?_, fun z => Or.inl ⟨y0, z⟩⟩
        rcases z with z | z | z
        · exact z.2
        · exact absurd (y0.symm.trans z.1) (by decide)
        · exact absurd (y0.symm.trans z.1) (by decide)
      refine gR k2 a (by omega) ⟨fun y2 => ?_, fun y2 => bS k2 ⟨zC_o k2 53 (by decide), c5_isZero k2 53 (by decide) ⟨fun y3 => ?_, fun y3 => ?_⟩⟩⟩
      · unfold pX0_wholeNear_56 pX0_wholeNear_57
        exact mid M2 _ 0 k2 (fun z => absurd (hz.mp z).1 (Int32.not_lt.mpr y2)) (fun _ => rfl) e48 hs2
      · rw [e53] at y3
        have c : N % D = 0 := by
          by_cases c : N % D = 0
          · exact c
          · rw [if_neg c] at y3; exact absurd rfl y3
        unfold pX0_wholeNear_56 pX0_wholeNear_57
        exact mid M2 _ 0 k2 (fun z => absurd c (hz.mp z).2) (fun _ => rfl) e48 hs2
      · rw [e53] at y3
        have c : N % D ≠ 0 := fun c => by rw [if_pos c] at y3; exact absurd y3 (by decide)
        unfold pX0_wholeNear_57
        exact mid M2 _ 1 k2 (fun _ => by decide) (fun z => absurd (hz.mpr ⟨Int32.not_le.mp y2, c⟩) z) e48 hs2
theorem c0_tfL {post : Int32 → zm_M → Prop} {σ0 : Nat → Nat} {f v0 : Nat} (hf2 : 2 ≤ f) (hf : f < 2 ^ 31) (hv0 : v0 ≠ 0) (hk : ∀ (M' : zm_M) (σ' : Nat → Nat) (k : Nat), zC G B M0 M' σ' τ π β → k < 512 → v0 = f ^ k * σ' 50 → σ' 50 % f ≠ 0 → (∀ l, l ≠ 50 → l ≠ 53 → σ' l = σ0 l) → post (nI k) M') : ∀ (d n : Nat) (M : zm_M) (σ : Nat → Nat), n + d = 512 → zC G B M0 M σ τ π β → σ 50 < 2 ^ d → v0 = f ^ n * σ 50 → (∀ l, l ≠ 50 → l ≠ 53 → σ l = σ0 l) → pX0_takeFactors_2 G post (d + 1) (B + 123) (B + zo_w 50) (nI f) (nI n) M
  | 0, n, M, σ, hn, h, hl, he, hs => by
    have : σ 50 = 0 := by rw [Nat.pow_zero] at hl; omega
    rw [this, Nat.mul_zero] at he
    exact absurd he hv0
  | d + 1, n, M, σ, hn, h, hl, he, hs => by
    rw [pX0_takeFactors_2]
    refine ⟨fun y => absurd ((nI_leI (a := 512) (by decide) (by omega)).mp y) (by omega), fun _ => bS h ⟨zC_o h 53 (by decide), c5_copy h 53 50 (by decide) (by decide) (zC_lt h 50 (by decide)) (fun M1 k1 => bS k1 ⟨zC_o k1 53 (by decide), c5_divideBy k1 53 (by decide) (by omega) hf (fun M2 k2 => ?_)⟩)⟩⟩
    rw [ux_s] at k2 ⊢
    have hz : nI (σ 50 % f) = (0 : Int32) ↔ σ 50 % f = 0 := nI_eq (b := 0) (by have := Nat.mod_lt (σ 50) (show 0 < f by omega); omega) (by decide)
    refine ⟨fun y => bS k2 ⟨zC_o k2 50 (by decide), c5_copy k2 50 53 (by decide) (by decide) ?_ (fun M3 k3 x9 e9 => ?_)⟩, fun y => ?_⟩
    · rw [ux_s]
      exact Nat.lt_of_le_of_lt (Nat.div_le_self _ _) (zC_lt h 50 (by decide))
    · have y' := hz.mp y
      rw [e9, nI_1]
      rw [ux_s] at k3
      have hdm := Nat.div_add_mod (σ 50) f
      refine c0_tfL hf2 hf hv0 hk d (n + 1) M3 _ (by omega) k3 ?_ ?_ (fun l h1 h2 => ?_)
      · rw [ux_s]
        refine (Nat.div_lt_iff_lt_mul (by omega)).mpr (Nat.lt_of_lt_of_le hl ?_)
        rw [Nat.pow_succ]
        exact Nat.mul_le_mul_left _ hf2
      · rw [ux_s, he, Nat.pow_succ, Nat.mul_assoc]
        congr 1
        omega
      · rw [ux_n h1, ux_n h2, ux_n h2]
        exact hs l h1 h2
    · refine hk M2 _ n k2 (by omega) ?_ (fun z => y (hz.mpr ?_)) (fun l h1 h2 => ?_)
      · rw [ux_n (by decide), ux_n (by decide)]
        exact he
      · rw [ux_n (by decide), ux_n (by decide)] at z
        exact z
      · rw [ux_n h2, ux_n h2]
        exact hs l h1 h2
theorem c0_takeFactors {post : Int32 → zm_M → Prop} (h : zC G B M0 M σ τ π β) {f : Nat} (hf2 : 2 ≤ f) (hf : f < 2 ^ 31) (hv0 : σ 50 ≠ 0) (hl : σ 50 < 2 ^ 512) (hp : ∀ (M' : zm_M) (σ' : Nat → Nat) (k : Nat), zC G B M0 M' σ' τ π β → k < 512 → σ 50 = f ^ k * σ' 50 → σ' 50 % f ≠ 0 → (∀ l, l ≠ 50 → l ≠ 53 → σ' l = σ l) → post (nI k) M') : pX0_takeFactors G (B + 123) (B + zo_w 50) (nI f) post M := by
  unfold pX0_takeFactors
  refine fun x1 e1 => ⟨513, ?_⟩
  rw [e1]
  exact c0_tfL (σ0 := σ) hf2 hf hv0 hp 512 0 M σ rfl h hl (by rw [Nat.pow_zero, Nat.one_mul]) (fun _ _ _ => rfl)
/-- left / right becomes the number a by 2 to the e-th -/
theorem c0_scale {post : zm_M → Prop} (h : zC G B M0 M σ τ π β) (a : Nat) (ha : a < 24) {x : Int32} {e : Int} (hx : x.toInt = e) (h1 : σ (2 * a) * 2 ^ (-e).toNat < 4294967296 ^ 36) (h2 : σ (2 * a + 1) * 2 ^ e.toNat < 4294967296 ^ 36) (he : -2000 < e) (he2 : e < 2000) (hp : ∀ (M' : zm_M) (σ' : Nat → Nat), zC G B M0 M' σ' τ π β → σ' 50 = σ (2 * a) * 2 ^ (-e).toNat → σ' 51 = σ (2 * a + 1) * 2 ^ e.toNat → (∀ l, l ≠ 50 → l ≠ 51 → σ' l = σ l) → post M') : pX0_scale G (B + 123) (B + zo_r a) x post M := by
  have hNl := zC_n h (2 * a) (by omega)
  have hDl := zC_n h (2 * a + 1) (by omega)
  have hpow : 4294967296 ^ 16 < 4294967296 ^ 36 := by decide
  have hneg : (-x).toInt = -e := by
    rw [Int32.toInt_neg, hx, Int.bmod_eq_of_le (by omega) (by omega)]
  unfold pX0_scale
  refine bL h (gT h a (by omega) ⟨zC_o h 50 (by decide), c5_copy h 50 (2 * a) (by decide) (by omega) (by show σ (2 * a) < 4294967296 ^ 36; omega) (fun M1 k1 => bG k1 (gB k1 a (by omega) ⟨zC_o k1 51 (by decide), c5_copy k1 51 (2 * a + 1) (by decide) (by omega) (by rw [ux_n (by omega)]; show σ (2 * a + 1) < 4294967296 ^ 36; omega) (fun M2 k2 => bL k2 ⟨zC_o k2 50 (by decide), ?_⟩)⟩))⟩)
  rw [ux_n (i := 50) (j := 2 * a + 1) (by omega)] at k2
  have e50 : ux (ux σ 50 (σ (2 * a))) 51 (σ (2 * a + 1)) 50 = σ (2 * a) := rfl
  have e51 : ux (ux σ 50 (σ (2 * a))) 51 (σ (2 * a + 1)) 51 = σ (2 * a + 1) := rfl
  rcases Int.lt_or_le e 0 with c | c
  · have hx1 : -x = nI (-e).toNat := by
      apply Int32.toInt_inj.mp
      rw [hneg, nI_toInt (by omega)]
      omega
    rw [hx1]
    refine c5_shiftLeft k2 50 (by decide) (by omega) (by rw [e50]; exact h1) (fun M3 k3 => bG k3 ⟨zC_o k3 51 (by decide), c5_shiftN (by omega) ?_⟩)
    refine hp M3 _ k3 ?_ ?_ (fun l l1 l2 => ?_)
    · rw [ux_s, e50]
    · rw [ux_n (by decide), e51, show e.toNat = 0 by omega, Nat.pow_zero, Nat.mul_one]
    · rw [ux_n l1, ux_n l2, ux_n l1]
  · have hx1 : x = nI e.toNat := by
      apply Int32.toInt_inj.mp
      rw [hx, nI_toInt (by omega)]
      omega
    refine c5_shiftN (by rw [hneg]; omega) (bG k2 ⟨zC_o k2 51 (by decide), ?_⟩)
    rw [hx1]
    refine c5_shiftLeft k2 51 (by decide) (by omega) (by rw [e51]; exact h2) (fun M3 k3 => hp M3 _ k3 ?_ ?_ (fun l l1 l2 => ?_))
    · rw [ux_n (by decide), e50, show (-e).toNat = 0 by omega, Nat.pow_zero, Nat.mul_one]
    · rw [ux_s, e51]
    · rw [ux_n l2, ux_n l2, ux_n l1]
end C04
