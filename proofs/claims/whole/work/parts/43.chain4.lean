/-! ===== CHAIN: the nearest fraction of a bound ===== -/
def zdf (a b : Nat) : Nat := if b ≤ a then a - b else b - a
/-- which of two fractions is nearer to r / D, the lesser bottom if neither -/
def zch (r D p q p' q' : Nat) : Nat × Nat := if zdf (r * q) (D * p) * q' < zdf (r * q') (D * p') * q ∨ zdf (r * q) (D * p) * q' = zdf (r * q') (D * p') * q ∧ (q < q' ∨ q = q' ∧ p ≤ p') then (p, q) else (p', q')
/-- the terms that the bound has room for, and as much of the next one as it has room for -/
def zsn (bd : Nat) : Nat → Nat → Nat → Nat → Nat → Nat → Nat → Option (Nat × Nat × Nat × Nat)
  | 0, _, _, _, _, _, _ => none
  | m + 1, X, Y, p, q, p0, q0 => if Y = 0 then none else if (bd - q0) / q < X / Y then some (p, q, p0 + (bd - q0) / q * p, q0 + (bd - q0) / q * q) else zsn bd m Y (X % Y) (p0 + X / Y * p) (q0 + X / Y * q) p q
section CH4
variable {G : Nat → ClassId} {B : Nat} {M0 M : zm_M} {σ : Nat → Nat} {τ : Nat → Int32} {π : Nat → Nat} {β : Nat → Nat → Int32} {post : zm_M → Prop}
theorem uN_63 {n : Nat} (h : n < 2 ^ 63) : uN (lN n) = n := uN_lN (by omega)
theorem p16_63 {a b : Nat} (ha : a < 4294967296 ^ 16) (hb : b < 2 ^ 63) : a * b < 4294967296 ^ 18 := by
  have h1 : a * b ≤ a * 2 ^ 63 := Nat.mul_le_mul_left _ (by omega)
  have h2 : a * 2 ^ 63 < 4294967296 ^ 16 * 2 ^ 63 := Nat.mul_lt_mul_of_pos_right ha (by decide)
  have h3 : 4294967296 ^ 16 * 2 ^ 63 ≤ 4294967296 ^ 18 := by decide
  omega
theorem c1_gap (h : zH G B M0 M σ τ π β) (i d : Nat) (hi : i = 57 ∨ i = 58) (hd : d < 48) {i' : Nat} (ei : zφ π i = i') {p q f : Nat} (hp63 : p < 2 ^ 63) (hq63 : q < 2 ^ 63) (hf63 : f < 2 ^ 63) (hr : σ 55 < 4294967296 ^ 16) (hp : ∀ (M' : zm_M) (σ' : Nat → Nat), zH G B M0 M' σ' τ π β → σ' i = zdf (σ 55 * q) (σ d * p) * f → (∀ l, l ≠ i → l < 61 ∨ 64 ≤ l → σ' l = σ l) → post M') : pX1_gap G (B + 137) (B + zo_w i') (B + zo_w d) (lN p) (lN q) (lN f) post M := by
  have hdl := zH_n h d hd
  have m1 := p16_63 hr hq63
  have m2 := p16_63 hdl hp63
  have hpow : 4294967296 ^ 18 < 4294967296 ^ 36 := by decide
  have hz : zdf (σ 55 * q) (σ d * p) < 4294967296 ^ 18 := by unfold zdf; split <;> omega
  have hzf : zdf (σ 55 * q) (σ d * p) * f < 4294967296 ^ 36 := by
    have h1 : zdf (σ 55 * q) (σ d * p) * f ≤ 4294967296 ^ 18 * 2 ^ 63 := Nat.mul_le_mul (by omega) (by omega)
    have h2 : 4294967296 ^ 18 * 2 ^ 63 < 4294967296 ^ 36 := by decide
    omega
  have fin : ∀ (M' : zm_M) (σ' : Nat → Nat), zH G B M0 M' σ' τ π β → σ' 61 = zdf (σ 55 * q) (σ d * p) → (∀ l, l < 61 ∨ 64 ≤ l → σ' l = σ l) → pX1_gap_91 G post (B + 137) (B + zo_w i') (lN f) M' := by
    intro M' σ' k e hs
    unfold pX1_gap_91
    refine hk k rfl ⟨zH_o k 63 (by decide) rfl, h5_become k 63 (by decide) rfl (uN_63 hf63) (fun M2 k2 => hk k2 rfl (hk k2 rfl ⟨zH_o k2 i (by omega) ei, h5_multiply k2 i 61 63 (by omega) (by decide) (by decide) (by omega) (by omega) (by omega) ei rfl rfl ?_ (fun M3 k3 => hp M3 _ k3 ?_ (fun l h1 h2 => ?_))⟩))⟩
    · rw [ux_n (by decide), e, ux_s]
      exact hzf
    · rw [ux_s, ux_n (by decide), e, ux_s]
    · rw [ux_n h1, ux_n (by omega)]
      exact hs l h2
  unfold pX1_gap
  refine hk h rfl ⟨zH_o h 63 (by decide) rfl, h5_become h 63 (by decide) rfl (uN_63 hq63) (fun M1 k1 => hk k1 rfl (hk k1 rfl (hk k1 rfl ⟨zH_o k1 61 (by decide) rfl, h5_multiply k1 61 55 63 (by decide) (by decide) (by decide) (by decide) (by decide) (by decide) rfl rfl rfl ?_ (fun M2 k2 => hk k2 rfl ⟨zH_o k2 63 (by decide) rfl, h5_become k2 63 (by decide) rfl (uN_63 hp63) (fun M3 k3 => hk k3 rfl (hk k3 rfl ⟨zH_o k3 62 (by decide) rfl, h5_multiply k3 62 d 63 (by decide) (by omega) (by decide) (by omega) (by decide) (by decide) rfl (zφ_n (by omega)) rfl ?_ (fun M4 k4 => hk k4 rfl (hk k4 rfl ⟨zH_o k4 61 (by decide) rfl, h5_order k4 61 62 (by decide) (by decide) rfl rfl ?_⟩))⟩))⟩)⟩)))⟩
  · rw [ux_n (by decide), ux_s]
    omega
  · rw [ux_n (by omega), ux_n (by omega), ux_n (by omega), ux_s]
    omega
  · obtain ⟨σ4, hσ4⟩ : ∃ σ4, σ4 = ux (ux (ux (ux σ 63 q) 61 (ux σ 63 q 55 * ux σ 63 q 63)) 63 p) 62 (ux (ux (ux σ 63 q) 61 (ux σ 63 q 55 * ux σ 63 q 63)) 63 p d * ux (ux (ux σ 63 q) 61 (ux σ 63 q 55 * ux σ 63 q 63)) 63 p 63) := ⟨_, rfl⟩
    have f61 : σ4 61 = σ 55 * q := by rw [hσ4]; rfl
    have f62 : σ4 62 = σ d * p := by
      rw [hσ4, ux_s, ux_n (by omega), ux_n (by omega), ux_n (by omega), ux_s]
    have fo : ∀ l, l < 61 ∨ 64 ≤ l → σ4 l = σ l := fun l hl => by
      rw [hσ4, ux_n (by omega), ux_n (by omega), ux_n (by omega), ux_n (by omega)]
    rw [← hσ4] at k4 ⊢
    rw [f61, f62]
    refine ⟨fun y => hk k4 rfl (hk k4 rfl (hk k4 rfl ⟨zH_o k4 61 (by decide) rfl, h5_subtract k4 61 62 61 (by decide) (by decide) (by decide) (by decide) rfl rfl rfl ?_ (fun M5 k5 => fin M5 _ k5 ?_ (fun l hl => ?_))⟩)), fun y => hk k4 rfl (hk k4 rfl (hk k4 rfl ⟨zH_o k4 61 (by decide) rfl, h5_subtract k4 61 61 62 (by decide) (by decide) (by decide) (by decide) rfl rfl rfl ?_ (fun M5 k5 => fin M5 _ k5 ?_ (fun l hl => ?_))⟩))⟩
    all_goals try (rw [ux_n (by omega)]; exact fo l hl)
    · have : σ 55 * q < σ d * p := by
        by_cases c : σ 55 * q < σ d * p
        · exact c
        · rw [if_neg c] at y
          by_cases c2 : σ 55 * q = σ d * p
          · rw [if_pos c2] at y; exact absurd y (by decide)
          · rw [if_neg c2] at y; exact absurd y (by decide)
      rw [f61, f62]
      omega
    · have : σ 55 * q < σ d * p := by
        by_cases c : σ 55 * q < σ d * p
        · exact c
        · rw [if_neg c] at y
          by_cases c2 : σ 55 * q = σ d * p
          · rw [if_pos c2] at y; exact absurd y (by decide)
          · rw [if_neg c2] at y; exact absurd y (by decide)
      rw [ux_s, f61, f62]
      unfold zdf
      rw [if_neg (by omega)]
    · have : ¬ σ 55 * q < σ d * p := fun c => y (by rw [if_pos c]; decide)
      rw [f61, f62]
      omega
    · have : ¬ σ 55 * q < σ d * p := fun c => y (by rw [if_pos c]; decide)
      rw [ux_s, f61, f62]
      unfold zdf
      rw [if_pos (by omega)]
theorem qJ_cmp {post : Int32 → zm_M → Prop} {a b : Nat} (ha : a < 2 ^ 63) (hb : b < 2 ^ 63) (hp : post (if a < b then -1 else if a = b then 0 else 1) M) : pJ13_compare_74951 G (lN a) (lN b) post M := by
  unfold pJ13_compare_74951
  refine ⟨fun y => ⟨fun z => ?_, fun z => ?_⟩, fun y => ?_⟩
  · have y' := (pk_lLE hb ha).mp y
    have z' : a ≠ b := fun c => z (by rw [c])
    rw [if_neg (by omega), if_neg z'] at hp
    exact hp
  · have z' := (pk_lEQ ha hb).mp z
    rw [if_neg (by omega), if_pos z'] at hp
    exact hp
  · have y' : ¬ b ≤ a := fun c => y ((pk_lLE hb ha).mpr c)
    rw [if_pos (by omega)] at hp
    exact hp
theorem c1_choose (h : zH G B M0 M σ τ π β) (d : Nat) (hd : d < 48) {p q p' q' : Nat} (hp63 : p < 2 ^ 63) (hq63 : q < 2 ^ 63) (hp63' : p' < 2 ^ 63) (hq63' : q' < 2 ^ 63) (hr : σ 55 < 4294967296 ^ 16) (hp : ∀ (M' : zm_M) (σ' : Nat → Nat), zH G B M0 M' σ' τ π β → (σ' 59, σ' 60) = zch (σ 55) (σ d) p q p' q' → (∀ l, l < 57 → σ' l = σ l) → post M') : pX1_choose G (B + 137) (B + zo_w d) (lN p) (lN q) (lN p') (lN q') post M := by
  -- the end: o says which
  have fin : ∀ (M' : zm_M) (σ' : Nat → Nat) (o : Int32), zH G B M0 M' σ' τ π β → (∀ l, l < 57 → σ' l = σ l) → (0 < o ↔ zch (σ 55) (σ d) p q p' q' ≠ (p, q) ∨ ¬ ((zdf (σ 55 * q) (σ d * p) * q' < zdf (σ 55 * q') (σ d * p') * q ∨ zdf (σ 55 * q) (σ d * p) * q' = zdf (σ 55 * q') (σ d * p') * q ∧ (q < q' ∨ q = q' ∧ p ≤ p')))) → pX1_choose_73 G post (B + 137) (lN p) (lN q) (lN p') (lN q') o M' := by
    intro M' σ' o k hs ho
    unfold pX1_choose_73
    have hz : (0 < o → zch (σ 55) (σ d) p q p' q' = (p', q')) ∧ (¬ 0 < o → zch (σ 55) (σ d) p q p' q' = (p, q)) := by
      refine ⟨fun y => ?_, fun y => ?_⟩
      · rcases ho.mp y with c | c
        · unfold zch at c ⊢
          by_cases e : zdf (σ 55 * q) (σ d * p) * q' < zdf (σ 55 * q') (σ d * p') * q ∨ zdf (σ 55 * q) (σ d * p) * q' = zdf (σ 55 * q') (σ d * p') * q ∧ (q < q' ∨ q = q' ∧ p ≤ p')
          · rw [if_pos e] at c; exact absurd rfl c
          · rw [if_neg e]
        · unfold zch
          rw [if_neg c]
      · unfold zch
        have e : zdf (σ 55 * q) (σ d * p) * q' < zdf (σ 55 * q') (σ d * p') * q ∨ zdf (σ 55 * q) (σ d * p) * q' = zdf (σ 55 * q') (σ d * p') * q ∧ (q < q' ∨ q = q' ∧ p ≤ p') := Decidable.byContradiction (fun c => y (ho.mpr (Or.inr c)))
        rw [if_pos e]
    have mid : ∀ (P Q : Nat), P < 2 ^ 63 → Q < 2 ^ 63 → zch (σ 55) (σ d) p q p' q' = (P, Q) → ((0 < o → Q = q') ∧ (¬ 0 < o → Q = q)) → pX1_choose_88 G post (B + 137) (lN q) (lN q') o (B + zo_w (57 + π 2)) (lN P) M' := by
      intro P Q hP hQ he hoq
      unfold pX1_choose_88
      have last : ∀ (M2 : zm_M), zH G B M0 M2 (ux σ' 59 P) τ π β → pX1_choose_107 G post (B + zo_w (57 + π 3)) (lN Q) M2 := by
        intro M2 k2
        unfold pX1_choose_107
        refine ⟨zH_o k2 60 (by decide) rfl, h5_become k2 60 (by decide) rfl (uN_63 hQ) (fun M3 k3 => hp M3 _ k3 ?_ (fun l hl => ?_))⟩
        · rw [he, ux_n (by decide), ux_s, ux_s]
        · rw [ux_n (by omega), ux_n (by omega)]
          exact hs l hl
      refine ⟨zH_o k 59 (by decide) rfl, h5_become k 59 (by decide) rfl (uN_63 hP) (fun M2 k2 => hk k2 rfl ⟨fun y => ?_, fun y => ?_⟩)⟩
      · rw [← hoq.1 y]
        exact last M2 k2
      · rw [← hoq.2 y]
        exact last M2 k2
    refine hk k rfl ⟨fun y => mid p' q' hp63' hq63' (hz.1 y) ⟨fun _ => rfl, fun c => absurd y c⟩, fun y => mid p q hp63 hq63 (hz.2 y) ⟨fun c => absurd c y, fun _ => rfl⟩⟩
  unfold pX1_choose
  refine hk h rfl ⟨zH_co h, c1_gap h 57 d (by decide) hd rfl hp63 hq63 hq63' hr (fun M1 σ1 k1 e1 s1 => hk k1 rfl ⟨zH_co k1, c1_gap k1 58 d (by decide) hd rfl hp63' hq63' hq63 (by rw [s1 55 (by decide) (by decide)]; exact hr) (fun M2 σ2 k2 e2 s2 => hk k2 rfl (hk k2 rfl ⟨zH_o k2 57 (by decide) rfl, h5_order k2 57 58 (by decide) (by decide) rfl rfl ?_⟩))⟩)⟩
  rw [s1 55 (by decide) (by decide), s1 d (by omega) (by omega)] at e2
  rw [e2, s2 57 (by decide) (by decide), e1]
  have hs2 : ∀ l, l < 57 → σ2 l = σ l := fun l hl => by rw [s2 l (by omega) (by omega), s1 l (by omega) (by omega)]
  have hzch : ∀ c : Prop, (zch (σ 55) (σ d) p q p' q' ≠ (p, q) ∨ ¬ ((zdf (σ 55 * q) (σ d * p) * q' < zdf (σ 55 * q') (σ d * p') * q ∨ zdf (σ 55 * q) (σ d * p) * q' = zdf (σ 55 * q') (σ d * p') * q ∧ (q < q' ∨ q = q' ∧ p ≤ p'))) ↔ c) ↔ (¬ ((zdf (σ 55 * q) (σ d * p) * q' < zdf (σ 55 * q') (σ d * p') * q ∨ zdf (σ 55 * q) (σ d * p) * q' = zdf (σ 55 * q') (σ d * p') * q ∧ (q < q' ∨ q = q' ∧ p ≤ p'))) ↔ c) := by
    intro c
    have : (zch (σ 55) (σ d) p q p' q' ≠ (p, q) ∨ ¬ ((zdf (σ 55 * q) (σ d * p) * q' < zdf (σ 55 * q') (σ d * p') * q ∨ zdf (σ 55 * q) (σ d * p) * q' = zdf (σ 55 * q') (σ d * p') * q ∧ (q < q' ∨ q = q' ∧ p ≤ p')))) ↔ ¬ ((zdf (σ 55 * q) (σ d * p) * q' < zdf (σ 55 * q') (σ d * p') * q ∨ zdf (σ 55 * q) (σ d * p) * q' = zdf (σ 55 * q') (σ d * p') * q ∧ (q < q' ∨ q = q' ∧ p ≤ p'))) := by
      refine ⟨fun z => ?_, fun z => Or.inr z⟩
      rcases z with z | z
      · intro e
        unfold zch at z
        rw [if_pos e] at z
        exact z rfl
      · exact z
    rw [this]
  generalize hA : zdf (σ 55 * q) (σ d * p) * q' = A at *
  generalize hC : zdf (σ 55 * q') (σ d * p') * q = C at *
  by_cases c1 : A < C
  · rw [if_pos c1]
    refine ⟨fun _ => fin M2 σ2 _ k2 hs2 ?_, fun y => absurd y (by decide)⟩
    refine Iff.symm ((hzch _).mpr ⟨fun z => absurd (Or.inl c1) z, fun z => absurd z (by decide)⟩)
  · rw [if_neg c1]
    by_cases c2 : A = C
    · rw [if_pos c2]
      refine ⟨fun y => absurd rfl y, fun _ => ⟨fun y => ?_, fun y => ?_⟩⟩
      · have y' : q ≠ q' := fun e => y (by rw [e])
        refine qJ_cmp hq63 hq63' ?_
        unfold pX1_choose_71
        refine fin M2 σ2 _ k2 hs2 (Iff.symm ((hzch _).mpr ?_))
        by_cases c3 : q < q'
        · rw [if_pos c3]
          exact ⟨fun z => absurd (Or.inr ⟨c2, Or.inl c3⟩) z, fun z => absurd z (by decide)⟩
        · rw [if_neg c3, if_neg y']
          exact ⟨fun _ => by decide, fun _ => by omega⟩
      · have y' : q = q' := (pk_lEQ hq63 hq63').mp y
        refine qJ_cmp hp63 hp63' ?_
        unfold pX1_choose_71
        refine fin M2 σ2 _ k2 hs2 (Iff.symm ((hzch _).mpr ?_))
        by_cases c3 : p < p'
        · rw [if_pos c3]
          exact ⟨fun z => absurd (Or.inr ⟨c2, Or.inr ⟨y', by omega⟩⟩) z, fun z => absurd z (by decide)⟩
        · rw [if_neg c3]
          by_cases c4 : p = p'
          · rw [if_pos c4]
            exact ⟨fun z => absurd (Or.inr ⟨c2, Or.inr ⟨y', by omega⟩⟩) z, fun z => absurd z (by decide)⟩
          · rw [if_neg c4]
            exact ⟨fun _ => by decide, fun _ => by omega⟩
    · rw [if_neg c2]
      refine ⟨fun _ => fin M2 σ2 _ k2 hs2 ?_, fun y => absurd y (by decide)⟩
      refine Iff.symm ((hzch _).mpr ⟨fun _ => by decide, fun _ => by omega⟩)
end CH4
