/-! ===== BENCH: what is reckoned of two fractions ===== -/
section C0
variable {G : Nat → ClassId} {B : Nat} {M0 M : zm_M} {σ : Nat → Nat} {τ : Nat → Int32} {π : Nat → Nat} {β : Nat → Nat → Int32} {post : zm_M → Prop}
theorem zC_n (h : zC G B M0 M σ τ π β) (i : Nat) (hi : i < 48) : σ i < 4294967296 ^ 16 := by
  have := zC_lt h i (by omega)
  unfold zo_c at this
  rw [if_pos hi] at this
  exact this
theorem zC_nn (h : zC G B M0 M σ τ π β) (i j : Nat) (hi : i < 48) (hj : j < 48) : σ i * σ j < 4294967296 ^ 32 := by
  have h1 := zC_n h i hi
  have h2 := zC_n h j hj
  have h3 : σ i * σ j ≤ σ i * 4294967296 ^ 16 := Nat.mul_le_mul_left _ (Nat.le_of_lt h2)
  have h4 : σ i * 4294967296 ^ 16 < 4294967296 ^ 16 * 4294967296 ^ 16 := Nat.mul_lt_mul_of_pos_right h1 (Nat.pow_pos (by decide))
  rw [← Nat.pow_add] at h4
  exact Nat.lt_of_le_of_lt h3 h4
theorem p3236 : 4294967296 ^ 32 < 4294967296 ^ 36 := Nat.pow_lt_pow_right (by decide) (by decide)
theorem zC_nm (h : zC G B M0 M σ τ π β) (i j : Nat) (hi : i < 48) (hj : j < 48) : σ i * σ j < 4294967296 ^ 36 := Nat.lt_trans (zC_nn h i j hi hj) p3236
theorem c0_productOf (h : zC G B M0 M σ τ π β) (a b : Nat) (ha : a < 24) (hb : b < 24) (hp : ∀ M', zC G B M0 M' (ux (ux σ 48 (σ (2 * a) * σ (2 * b))) 49 (σ (2 * a + 1) * σ (2 * b + 1))) (upd τ 24 (τ a * τ b)) π β → post M') : pX0_productOf G (B + 123) (B + zo_r a) (B + zo_r b) post M := by
  unfold pX0_productOf
  refine bR h (gR h a (by omega) (gR h b (by omega) (pS h 24 (by decide) (fun M1 k1 => bR k1 (gT k1 24 (by decide) (gT k1 a (by omega) (gT k1 b (by omega) ⟨zC_o k1 48 (by decide), c5_multiply k1 48 (2 * a) (2 * b) (by decide) (by omega) (by omega) (by omega) (by omega) (by decide) (zC_nm h _ _ (by omega) (by omega)) (fun M2 k2 => bR k2 (gB k2 24 (by decide) (gB k2 a (by omega) (gB k2 b (by omega) ⟨zC_o k2 49 (by decide), c5_multiply k2 49 (2 * a + 1) (2 * b + 1) (by decide) (by omega) (by omega) (by omega) (by omega) (by decide) ?_ (fun M3 k3 => hp M3 ?_)⟩))))⟩)))))))
  · rw [ux_n (by omega), ux_n (by omega)]
    exact zC_nm h _ _ (by omega) (by omega)
  · rw [ux_n (i := 48) (j := 2 * a + 1) (by omega), ux_n (i := 48) (j := 2 * b + 1) (by omega)] at k3
    exact k3
theorem c0_quotientOf (h : zC G B M0 M σ τ π β) (a b : Nat) (ha : a < 24) (hb : b < 24) (hp : ∀ M', zC G B M0 M' (ux (ux σ 48 (σ (2 * a) * σ (2 * b + 1))) 49 (σ (2 * a + 1) * σ (2 * b))) (upd τ 24 (τ a * τ b)) π β → post M') : pX0_quotientOf G (B + 123) (B + zo_r a) (B + zo_r b) post M := by
  unfold pX0_quotientOf
  refine bR h (gR h a (by omega) (gR h b (by omega) (pS h 24 (by decide) (fun M1 k1 => bR k1 (gT k1 24 (by decide) (gT k1 a (by omega) (gB k1 b (by omega) ⟨zC_o k1 48 (by decide), c5_multiply k1 48 (2 * a) (2 * b + 1) (by decide) (by omega) (by omega) (by omega) (by omega) (by decide) (zC_nm h _ _ (by omega) (by omega)) (fun M2 k2 => bR k2 (gB k2 24 (by decide) (gB k2 a (by omega) (gT k2 b (by omega) ⟨zC_o k2 49 (by decide), c5_multiply k2 49 (2 * a + 1) (2 * b) (by decide) (by omega) (by omega) (by omega) (by omega) (by decide) ?_ (fun M3 k3 => hp M3 ?_)⟩))))⟩)))))))
  · rw [ux_n (by omega), ux_n (by omega)]
    exact zC_nm h _ _ (by omega) (by omega)
  · rw [ux_n (i := 48) (j := 2 * a + 1) (by omega), ux_n (i := 48) (j := 2 * b) (by omega)] at k3
    exact k3
theorem c0_sumOf (h : zC G B M0 M σ τ π β) (a b : Nat) (ha : a < 24) (hb : b < 24) {s : Int32} (hp : ∀ (M' : zm_M) (σ' : Nat → Nat), zC G B M0 M' σ' (upd τ 24 (zsum (τ a) (σ (2 * a) * σ (2 * b + 1)) s (σ (2 * b) * σ (2 * a + 1))).1) π β → σ' 48 = (zsum (τ a) (σ (2 * a) * σ (2 * b + 1)) s (σ (2 * b) * σ (2 * a + 1))).2 → σ' 49 = σ (2 * a + 1) * σ (2 * b + 1) → (∀ l, l < 48 ∨ 54 ≤ l → σ' l = σ l) → post M') : pX0_sumOf G (B + 123) (B + zo_r a) (B + zo_r b) s post M := by
  unfold pX0_sumOf
  refine bR h (gR h a (by omega) (pS h 24 (by decide) (fun M1 k1 => bR k1 (gT k1 24 (by decide) (gT k1 a (by omega) (gB k1 b (by omega) ⟨zC_o k1 48 (by decide), c5_multiply k1 48 (2 * a) (2 * b + 1) (by decide) (by omega) (by omega) (by omega) (by omega) (by decide) (zC_nm h _ _ (by omega) (by omega)) (fun M2 k2 => bS k2 (gT k2 b (by omega) (gB k2 a (by omega) ⟨zC_o k2 53 (by decide), c5_multiply k2 53 (2 * b) (2 * a + 1) (by decide) (by omega) (by omega) (by omega) (by omega) (by decide) ?_ (fun M3 k3 => bR k3 (bS k3 ⟨zC_ro k3 24 (by decide), c2_addToTop k3 24 53 (by decide) (by decide) (by decide) ?_ (fun M4 k4 => bR k4 (gB k4 24 (by decide) (gB k4 a (by omega) (gB k4 b (by omega) ⟨zC_o k4 49 (by decide), c5_multiply k4 49 (2 * a + 1) (2 * b + 1) (by decide) (by omega) (by omega) (by omega) (by omega) (by decide) ?_ (fun M5 k5 => ?_)⟩))))⟩))⟩)))⟩))))))
  · rw [ux_n (by omega), ux_n (by omega)]
    exact zC_nm h _ _ (by omega) (by omega)
  · show σ (2 * a) * σ (2 * b + 1) + ux σ 48 (σ (2 * a) * σ (2 * b + 1)) (2 * b) * ux σ 48 (σ (2 * a) * σ (2 * b + 1)) (2 * a + 1) < 4294967296 ^ 36
    rw [ux_n (by omega), ux_n (by omega)]
    have h1 := zC_nn h (2 * a) (2 * b + 1) (by omega) (by omega)
    have h2 := zC_nn h (2 * b) (2 * a + 1) (by omega) (by omega)
    have h3 : 4294967296 ^ 32 + 4294967296 ^ 32 < 4294967296 ^ 36 := by decide
    omega
  · rw [ux_n (by omega), ux_n (by omega), ux_n (by omega), ux_n (by omega), ux_n (by omega), ux_n (by omega)]
    exact zC_nm h _ _ (by omega) (by omega)
  · have e1 : ux (ux σ 48 (σ (2 * a) * σ (2 * b + 1))) 53 (ux σ 48 (σ (2 * a) * σ (2 * b + 1)) (2 * b) * ux σ 48 (σ (2 * a) * σ (2 * b + 1)) (2 * a + 1)) (2 * 24) = σ (2 * a) * σ (2 * b + 1) := rfl
    have e2 : ux (ux σ 48 (σ (2 * a) * σ (2 * b + 1))) 53 (ux σ 48 (σ (2 * a) * σ (2 * b + 1)) (2 * b) * ux σ 48 (σ (2 * a) * σ (2 * b + 1)) (2 * a + 1)) 53 = σ (2 * b) * σ (2 * a + 1) := by
      rw [ux_s, ux_n (by omega), ux_n (by omega)]
    have e3 : upd (upd τ 24 (τ a)) 24 = upd τ 24 := by
      funext x q
      by_cases e : q = 24
      · rw [e, pk_us, pk_us]
      · rw [pk_un e, pk_un e, pk_un e]
    rw [e1, e2, pk_us, e3] at k5
    refine hp M5 _ k5 ?_ ?_ (fun l hl => ?_)
    · rw [ux_n (by decide)]
      rfl
    · rw [ux_s, ux_n (by omega), ux_n (by omega), ux_n (by omega), ux_n (by omega), ux_n (by omega), ux_n (by omega)]
    · rw [ux_n (by omega), ux_n (by omega), ux_n (by omega), ux_n (by omega)]
theorem c0_restOf (h : zC G B M0 M σ τ π β) (a b : Nat) (ha : a < 24) (hb : b < 24) (hp : ∀ (M' : zm_M) (σ' : Nat → Nat), zC G B M0 M' σ' (upd τ 24 (τ b)) π β → σ' 48 = (if τ a = τ b ∨ σ (2 * a) * σ (2 * b + 1) % (σ (2 * b) * σ (2 * a + 1)) = 0 then σ (2 * a) * σ (2 * b + 1) % (σ (2 * b) * σ (2 * a + 1)) else σ (2 * b) * σ (2 * a + 1) - σ (2 * a) * σ (2 * b + 1) % (σ (2 * b) * σ (2 * a + 1))) → σ' 49 = σ (2 * a + 1) * σ (2 * b + 1) → (∀ l, l < 48 ∨ 54 ≤ l → σ' l = σ l) → post M') (hb0 : σ (2 * b) * σ (2 * a + 1) ≠ 0) : pX0_restOf G (B + 123) (B + zo_r a) (B + zo_r b) post M := by
  obtain ⟨P, hP⟩ : ∃ P, P = σ (2 * a) * σ (2 * b + 1) := ⟨_, rfl⟩
  obtain ⟨Q, hQ⟩ : ∃ Q, Q = σ (2 * b) * σ (2 * a + 1) := ⟨_, rfl⟩
  have hmul : σ (2 * a + 1) * σ (2 * b + 1) < 4294967296 ^ 36 := zC_nm h _ _ (by omega) (by omega)
  have hQl : Q < 4294967296 ^ 36 := by rw [hQ]; exact zC_nm h _ _ (by omega) (by omega)
  rw [← hP, ← hQ] at hp
  rw [← hQ] at hb0
  have fin : ∀ (M' : zm_M) (σ' : Nat → Nat), zC G B M0 M' σ' (upd τ 24 (τ b)) π β → σ' 48 = (if τ a = τ b ∨ P % Q = 0 then P % Q else Q - P % Q) → (∀ l, l < 48 ∨ 54 ≤ l → σ' l = σ l) → pX0_restOf_107 G post (B + 123) (B + zo_r a) (B + zo_r b) M' := by
    intro M' σ' k e hs
    unfold pX0_restOf_107
    refine bR k (gB k 24 (by decide) (gB k a (by omega) (gB k b (by omega) ⟨zC_o k 49 (by decide), c5_multiply k 49 (2 * a + 1) (2 * b + 1) (by decide) (by omega) (by omega) (by omega) (by omega) (by decide) ?_ (fun M5 k5 => hp M5 _ k5 ?_ ?_ (fun l hl => ?_))⟩)))
    · rw [hs _ (by omega), hs _ (by omega)]
      exact hmul
    · rw [ux_n (by decide)]
      exact e
    · rw [ux_s, hs _ (by omega), hs _ (by omega)]
    · rw [ux_n (by omega), hs l hl]
  unfold pX0_restOf
  refine bR h (gR h b (by omega) (pS h 24 (by decide) (fun M1 k1 => bR k1 (gT k1 24 (by decide) (gT k1 a (by omega) (gB k1 b (by omega) ⟨zC_o k1 48 (by decide), c5_multiply k1 48 (2 * a) (2 * b + 1) (by decide) (by omega) (by omega) (by omega) (by omega) (by decide) (zC_nm h _ _ (by omega) (by omega)) (fun M2 k2 => bS k2 (gT k2 b (by omega) (gB k2 a (by omega) ⟨zC_o k2 53 (by decide), c5_multiply k2 53 (2 * b) (2 * a + 1) (by decide) (by omega) (by omega) (by omega) (by omega) (by decide) ?_ (fun M3 k3 => bR k3 (gT k3 24 (by decide) (bS k3 (bQ k3 ⟨zC_o k3 48 (by decide), c5_divide k3 48 53 52 (by decide) (by decide) (by decide) (by decide) (by decide) (by decide) (by decide) (fun M4 k4 => gR k4 a (by omega) (gR k4 b (by omega) ?_))⟩))))⟩)))⟩))))))
  · rw [ux_n (by omega), ux_n (by omega)]
    exact zC_nm h _ _ (by omega) (by omega)
  · rw [ux_n (i := 48) (j := 2 * b) (by omega), ux_n (i := 48) (j := 2 * a + 1) (by omega), ← hP, ← hQ] at k4
    have e1 : ux (ux σ 48 P) 53 Q 48 = P := rfl
    have e2 : ux (ux σ 48 P) 53 Q 53 = Q := rfl
    rw [e1, e2] at k4
    rw [pk_un (by omega), pk_un (by omega)]
    have hs4 : ∀ l, l < 48 ∨ 54 ≤ l → ux (ux (ux (ux σ 48 P) 53 Q) 48 (P % Q)) 52 (P / Q) l = σ l := fun l hl => by
      rw [ux_n (by omega), ux_n (by omega), ux_n (by omega), ux_n (by omega)]
    refine ⟨fun y => fin M4 _ k4 ?_ hs4, fun y => bR k4 (gT k4 24 (by decide) ⟨zC_o k4 48 (by decide), c5_isZero k4 48 (by decide) ⟨fun z => fin M4 _ k4 ?_ hs4, fun z => ?_⟩⟩)⟩
    · rw [if_pos (Or.inl y)]
      rfl
    · have z' : P % Q = 0 := by
        by_cases c : P % Q = 0
        · exact c
        · exact absurd (if_neg c) z
      rw [if_pos (Or.inr z')]
      rfl
    · have z' : P % Q ≠ 0 := fun c => by
        have : (if P % Q = 0 then (1 : Int32) else 0) = 0 := z
        rw [if_pos c] at this
        exact absurd this (by decide)
      refine bR k4 (gT k4 24 (by decide) (bS k4 (bR k4 (gT k4 24 (by decide) ⟨zC_o k4 48 (by decide), c5_subtract k4 48 53 48 (by decide) (by decide) (by decide) ?_ ?_ (fun M5 k5 => fin M5 _ k5 ?_ (fun l hl => ?_))⟩))))
      · show P % Q ≤ Q
        exact Nat.le_of_lt (Nat.mod_lt _ (by omega))
      · show Q < 4294967296 ^ 36
        exact hQl
      · rw [if_neg (fun c => c.elim y z')]
        rfl
      · rw [ux_n (by omega)]
        exact hs4 l hl
theorem c0_orderOf {post : Int32 → zm_M → Prop} (h : zC G B M0 M σ τ π β) (a b : Nat) (ha : a < 24) (hb : b < 24) (hp1 : τ a ≠ τ b → post (if τ a < τ b then -1 else 1) M) (hp : τ a = τ b → ∀ (M' : zm_M) (σ' : Nat → Nat), zC G B M0 M' σ' τ π β → (∀ l, l < 48 ∨ 54 ≤ l → σ' l = σ l) → post (τ a * (if σ (2 * a) * σ (2 * b + 1) < σ (2 * b) * σ (2 * a + 1) then -1 else if σ (2 * a) * σ (2 * b + 1) = σ (2 * b) * σ (2 * a + 1) then 0 else 1)) M') : pX0_orderOf G (B + 123) (B + zo_r a) (B + zo_r b) post M := by
  unfold pX0_orderOf
  refine gR h a (by omega) (gR h b (by omega) ⟨fun y => bL h (gT h a (by omega) (gB h b (by omega) ⟨zC_o h 50 (by decide), c5_multiply h 50 (2 * a) (2 * b + 1) (by decide) (by omega) (by omega) (by omega) (by omega) (by decide) (zC_nm h _ _ (by omega) (by omega)) (fun M1 k1 => bG k1 (gT k1 b (by omega) (gB k1 a (by omega) ⟨zC_o k1 51 (by decide), c5_multiply k1 51 (2 * b) (2 * a + 1) (by decide) (by omega) (by omega) (by omega) (by omega) (by decide) ?_ (fun M2 k2 => gR k2 a (by omega) (bL k2 (bG k2 ⟨zC_o k2 50 (by decide), c5_order k2 50 51 (by decide) (by decide) ?_⟩)))⟩)))⟩)), fun y => ?_⟩)
  · rw [ux_n (by omega), ux_n (by omega)]
    exact zC_nm h _ _ (by omega) (by omega)
  · have e1 : ux (ux σ 50 (σ (2 * a) * σ (2 * b + 1))) 51 (ux σ 50 (σ (2 * a) * σ (2 * b + 1)) (2 * b) * ux σ 50 (σ (2 * a) * σ (2 * b + 1)) (2 * a + 1)) 50 = σ (2 * a) * σ (2 * b + 1) := rfl
    have e2 : ux (ux σ 50 (σ (2 * a) * σ (2 * b + 1))) 51 (ux σ 50 (σ (2 * a) * σ (2 * b + 1)) (2 * b) * ux σ 50 (σ (2 * a) * σ (2 * b + 1)) (2 * a + 1)) 51 = σ (2 * b) * σ (2 * a + 1) := by
      rw [ux_s, ux_n (by omega), ux_n (by omega)]
    rw [e1, e2]
    refine hp y M2 _ k2 (fun l hl => ?_)
    rw [ux_n (by omega), ux_n (by omega)]
  · have := hp1 y
    refine gR h a (by omega) (gR h b (by omega) ⟨fun z => ?_, fun z => ?_⟩)
    · rw [if_neg (fun c => absurd z (Int32.not_le.mpr c))] at this
      exact this
    · rw [if_pos (Int32.not_le.mp z)] at this
      exact this
end C0
