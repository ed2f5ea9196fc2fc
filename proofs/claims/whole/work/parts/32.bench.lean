/-! ===== RATIO, BENCH ===== -/
section C2
variable {G : Nat → ClassId} {B : Nat} {M0 M : zm_M} {σ : Nat → Nat} {τ : Nat → Int32} {π : Nat → Nat} {β : Nat → Nat → Int32} {post : zm_M → Prop}
theorem gR (h : zC G B M0 M σ τ π β) (a : Nat) (ha : a ≤ 24) {K : Int32 → Prop} (hk : K (τ a)) : zw_gi M (B + zo_r a) 5 0 K := ⟨_, _, zC_r h a ha, rfl, hk⟩
theorem gT (h : zC G B M0 M σ τ π β) (a : Nat) (ha : a ≤ 24) {K : Nat → Prop} (hk : K (B + zo_w (2 * a))) : zw_ga M (B + zo_r a) 5 1 K := ⟨_, _, zC_r h a ha, rfl, hk⟩
theorem gB (h : zC G B M0 M σ τ π β) (a : Nat) (ha : a ≤ 24) {K : Nat → Prop} (hk : K (B + zo_w (2 * a + 1))) : zw_ga M (B + zo_r a) 5 2 K := ⟨_, _, zC_r h a ha, rfl, hk⟩
theorem bR (h : zC G B M0 M σ τ π β) {K : Nat → Prop} (hk : K (B + zo_r 24)) : zw_ga M (B + 123) 3 0 K := ⟨_, _, zC_b h, rfl, hk⟩
theorem bL (h : zC G B M0 M σ τ π β) {K : Nat → Prop} (hk : K (B + zo_w 50)) : zw_ga M (B + 123) 3 1 K := ⟨_, _, zC_b h, rfl, hk⟩
theorem bG (h : zC G B M0 M σ τ π β) {K : Nat → Prop} (hk : K (B + zo_w 51)) : zw_ga M (B + 123) 3 2 K := ⟨_, _, zC_b h, rfl, hk⟩
theorem bQ (h : zC G B M0 M σ τ π β) {K : Nat → Prop} (hk : K (B + zo_w 52)) : zw_ga M (B + 123) 3 3 K := ⟨_, _, zC_b h, rfl, hk⟩
theorem bS (h : zC G B M0 M σ τ π β) {K : Nat → Prop} (hk : K (B + zo_w 53)) : zw_ga M (B + 123) 3 4 K := ⟨_, _, zC_b h, rfl, hk⟩
theorem pS (h : zC G B M0 M σ τ π β) (a : Nat) (ha : a ≤ 24) {s : Int32} {K : zm_M → Prop} (hk : ∀ M', zC G B M0 M' σ (upd τ a s) π β → K M') : zw_p M (B + zo_r a) 5 0 (.int s) K := ⟨_, zC_r h a ha, Nat.succ_pos _, hk _ (zC_psign h ha s)⟩
theorem c5t (h : zC G B M0 M σ τ π β) (i : Nat) (hi : i < 67) : zw_ob M (B + zo_w i) 8 := zC_o h i hi
theorem c2_copy (h : zC G B M0 M σ τ π β) (a b : Nat) (ha : a ≤ 24) (hb : b ≤ 24) (h1 : σ (2 * b) < 4294967296 ^ zo_c (2 * a)) (h2 : σ (2 * b + 1) < 4294967296 ^ zo_c (2 * a + 1)) (hp : ∀ M', zC G B M0 M' (ux (ux σ (2 * a) (σ (2 * b))) (2 * a + 1) (σ (2 * b + 1))) (upd τ a (τ b)) π β → post M') : pX2_copy G (B + zo_r a) (B + zo_r b) post M := by
  unfold pX2_copy
  refine gR h b hb (pS h a ha (fun M1 k1 => gT k1 a ha (gT k1 b hb ⟨zC_o k1 _ (by omega), c5_copy k1 (2 * a) (2 * b) (by omega) (by omega) h1 (fun M2 k2 => gB k2 a ha (gB k2 b hb ⟨zC_o k2 _ (by omega), c5_copy k2 (2 * a + 1) (2 * b + 1) (by omega) (by omega) ?_ (fun M3 k3 => hp M3 ?_)⟩))⟩)))
  · rw [ux_n (by omega)]
    exact h2
  · rw [ux_n (i := 2 * a) (by omega)] at k3
    exact k3
theorem c2_become (h : zC G B M0 M σ τ π β) (a : Nat) (ha : a ≤ 24) {s : Int32} {x : Int64} {v : Nat} (hv : uN x = v) (hp : ∀ M', zC G B M0 M' (ux (ux σ (2 * a) v) (2 * a + 1) 1) (upd τ a s) π β → post M') : pX2_become G (B + zo_r a) s x post M := by
  unfold pX2_become
  exact pS h a ha (fun M1 k1 => gT k1 a ha ⟨zC_o k1 _ (by omega), c5_become k1 (2 * a) (by omega) hv (fun M2 k2 => gB k2 a ha ⟨zC_o k2 _ (by omega), c5_become k2 (2 * a + 1) (by omega) uN_1 (fun M3 k3 => hp M3 k3)⟩)⟩)
theorem c2_becomeWhole (h : zC G B M0 M σ τ π β) (a j : Nat) (ha : a ≤ 24) (hj : j < 67) {s : Int32} (h1 : σ j < 4294967296 ^ zo_c (2 * a)) (hp : ∀ M', zC G B M0 M' (ux (ux σ (2 * a) (σ j)) (2 * a + 1) 1) (upd τ a s) π β → post M') : pX2_becomeWhole G (B + zo_r a) s (B + zo_w j) post M := by
  unfold pX2_becomeWhole
  exact pS h a ha (fun M1 k1 => gT k1 a ha ⟨zC_o k1 _ (by omega), c5_copy k1 (2 * a) j (by omega) hj h1 (fun M2 k2 => gB k2 a ha ⟨zC_o k2 _ (by omega), c5_become k2 (2 * a + 1) (by omega) uN_1 (fun M3 k3 => hp M3 k3)⟩)⟩)
theorem zb_if {p : Prop} [Decidable p] : zb (if p then (1 : Int32) else 0) := by
  split
  · exact zb_1
  · exact zb_0
theorem c2_isWhole (h : zC G B M0 M σ τ π β) (a : Nat) (ha : a ≤ 24) {post : Int32 → zm_M → Prop} (hp : post (if σ (2 * a + 1) = 1 then 1 else 0) M) : pX2_isWhole G (B + zo_r a) post M := by
  unfold pX2_isWhole
  exact gB h a ha ⟨zC_o h _ (by omega), c5_isOne h (2 * a + 1) (by omega) ⟨zb_if, hp⟩⟩
theorem zbl_512 {v : Nat} : 512 < zbl v ↔ ¬ v < 2 ^ 512 := by
  rw [← zbl_le (v := v) (k := 512)]
  omega
theorem c2_isWide (h : zC G B M0 M σ τ π β) (a : Nat) (ha : a ≤ 24) {post : Int32 → zm_M → Prop} (hp : post (if 512 < zbl (σ (2 * a)) ∨ 512 < zbl (σ (2 * a + 1)) then 1 else 0) M) : pX2_isWide G (B + zo_r a) post M := by
  unfold pX2_isWide
  have b1 := zC_bl h (2 * a) (by omega)
  have b2 := zC_bl h (2 * a + 1) (by omega)
  refine gT h a ha ⟨zC_o h _ (by omega), c5_bits h (2 * a) (by omega) ⟨fun y => ?_, fun y => ?_⟩⟩
  · have y' : 512 < zbl (σ (2 * a)) := (nI_ltI (a := 512) (by omega) (by omega)).mp y
    rw [if_pos (Or.inl y')] at hp
    exact ⟨zb_1, hp⟩
  · have y' : ¬ 512 < zbl (σ (2 * a)) := fun z => y ((nI_ltI (a := 512) (by omega) (by omega)).mpr z)
    refine gB h a ha ⟨zC_o h _ (by omega), c5_bits h (2 * a + 1) (by omega) ⟨fun z => ?_, fun z => ?_⟩⟩
    · have z' : zbl (σ (2 * a + 1)) ≤ 512 := (nI_leI (b := 512) (by omega) (by omega)).mp z
      rw [if_neg (by omega)] at hp
      exact ⟨zb_0, hp⟩
    · have z' : ¬ zbl (σ (2 * a + 1)) ≤ 512 := fun y => z ((nI_leI (b := 512) (by omega) (by omega)).mpr y)
      rw [if_pos (by omega)] at hp
      exact ⟨zb_1, hp⟩
/-- what addToTop makes of a sign and a size -/
def zsum (s : Int32) (T : Nat) (s' : Int32) (U : Nat) : Int32 × Nat := if T = 0 then (s', U) else if s = s' then (s, T + U) else if T < U then (s', U - T) else (s, T - U)
theorem c2_addToTop (h : zC G B M0 M σ τ π β) (a j : Nat) (ha : a ≤ 24) (hj : j < 67) (hja : j ≠ 2 * a) {s : Int32} (h1 : σ (2 * a) + σ j < 4294967296 ^ zo_c (2 * a)) (hp : ∀ M', zC G B M0 M' (ux σ (2 * a) (zsum (τ a) (σ (2 * a)) s (σ j)).2) (upd τ a (zsum (τ a) (σ (2 * a)) s (σ j)).1) π β → post M') : pX2_addToTop G (B + zo_r a) s (B + zo_w j) post M := by
  have hus : upd τ a (τ a) = τ := by
    funext q
    by_cases e : q = a
    · rw [e, pk_us]
    · rw [pk_un e]
  unfold pX2_addToTop
  refine gT h a ha ⟨zC_o h _ (by omega), c5_isZero h (2 * a) (by omega) ⟨fun y => ?_, fun y => ?_⟩⟩
  · have y' : σ (2 * a) ≠ 0 := fun z => by rw [if_pos z] at y; exact absurd y (by decide)
    unfold zsum at hp
    rw [if_neg y'] at hp
    refine gR h a ha ⟨fun z => ?_, fun z => ?_⟩
    · rw [if_neg z] at hp
      refine gT h a ha ⟨zC_o h _ (by omega), c5_order h (2 * a) j (by omega) hj ⟨fun x => ?_, fun x => ?_⟩⟩
      · have x' : σ (2 * a) < σ j := by
          by_cases c : σ (2 * a) < σ j
          · exact c
          · rw [if_neg c] at x
            by_cases c2 : σ (2 * a) = σ j
            · rw [if_pos c2] at x; exact absurd x (by decide)
            · rw [if_neg c2] at x; exact absurd x (by decide)
        rw [if_pos x'] at hp
        exact pS h a ha (fun M1 k1 => gT k1 a ha (gT k1 a ha ⟨zC_o k1 _ (by omega), c5_subtract k1 (2 * a) j (2 * a) (by omega) hj (by omega) (by omega) (by omega) (fun M2 k2 => hp M2 k2)⟩))
      · have x' : ¬ σ (2 * a) < σ j := fun c => x (by rw [if_pos c]; decide)
        rw [if_neg x', hus] at hp
        exact gT h a ha (gT h a ha ⟨zC_o h _ (by omega), c5_subtract h (2 * a) (2 * a) j (by omega) (by omega) hj (by omega) (by omega) (fun M2 k2 => hp M2 k2)⟩)
    · rw [if_pos z, hus] at hp
      exact gT h a ha ⟨zC_o h _ (by omega), c5_add h (2 * a) j (by omega) hj h1 (fun M2 k2 => hp M2 k2)⟩
  · have y' : σ (2 * a) = 0 := by
      by_cases c : σ (2 * a) = 0
      · exact c
      · rw [if_neg c] at y
        exact absurd rfl y
    unfold zsum at hp
    rw [if_pos y'] at hp
    exact pS h a ha (fun M1 k1 => gT k1 a ha ⟨zC_o k1 _ (by omega), c5_copy k1 (2 * a) j (by omega) hj (by omega) (fun M2 k2 => hp M2 k2)⟩)
theorem upd_id {τ : Nat → Int32} {a : Nat} : upd τ a (τ a) = τ := by
  funext q
  by_cases e : q = a
  · rw [e, pk_us]
  · rw [pk_un e]
/-- Euclid's way ends within m steps -/
def zE : Nat → Nat → Nat → Prop
  | 0, _, Y => Y = 0
  | m + 1, X, Y => Y = 0 ∨ zE m Y (X % Y)
theorem zE_of : ∀ (k X Y : Nat), Y < 2 ^ k → zE (2 * k) X Y
  | 0, X, Y, h => by
    show Y = 0
    omega
  | k + 1, X, Y, h => by
    show Y = 0 ∨ (X % Y = 0 ∨ zE (2 * k) (X % Y) (Y % (X % Y)))
    rcases Nat.eq_zero_or_pos Y with z | z
    · exact Or.inl z
    · rcases Nat.eq_zero_or_pos (X % Y) with y | y
      · exact Or.inr (Or.inl y)
      · refine Or.inr (Or.inr (zE_of k _ _ ?_))
        have h1 := Nat.mod_lt X z
        have h2 := Nat.mod_lt Y y
        have h3 := Nat.div_add_mod Y (X % Y)
        have h4 : 1 ≤ Y / (X % Y) := (Nat.le_div_iff_mul_le y).mpr (by omega)
        have h5 : X % Y * 1 ≤ X % Y * (Y / (X % Y)) := Nat.mul_le_mul_left _ h4
        rw [Nat.pow_succ] at h
        omega
theorem c0_gdL {post : Option Nat → zm_M → Prop} {σ0 : Nat → Nat} {g : Nat} (hk : ∀ (M' : zm_M) (σ' : Nat → Nat) (i : Nat), (i = 50 ∨ i = 51) → zC G B M0 M' σ' τ π β → σ' i = g → (∀ l, l ≠ 50 → l ≠ 51 → l ≠ 52 → σ' l = σ0 l) → post (some (B + zo_w i)) M') : ∀ (m c : Nat) (M : zm_M) (σ : Nat → Nat) (i j : Nat), c + m ≤ 4000 → (i = 50 ∧ j = 51 ∨ i = 51 ∧ j = 50) → zC G B M0 M σ τ π β → Nat.gcd (σ i) (σ j) = g → (∀ l, l ≠ 50 → l ≠ 51 → l ≠ 52 → σ l = σ0 l) → zE m (σ i) (σ j) → pX0_greatestDivisor_25 G post (m + 1) (B + 123) (B + zo_w i) (B + zo_w j) (nI c) M
  | m, c, M, σ, i, j, hc, hij, h, hg, hs, he => by
    have done : σ j = 0 → post (some (B + zo_w i)) M := fun z => hk M σ i (by omega) h (by rw [z, Nat.gcd_zero_right] at hg; exact hg) hs
    rw [pX0_greatestDivisor_25]
    refine ⟨fun y => done ?_, fun y => ⟨zC_o h j (by omega), c5_isZero h j (by omega) ⟨fun z => done ?_, fun z => ?_⟩⟩⟩
    · have y' : 4000 ≤ c := (nI_leI (a := 4000) (by omega) (by omega)).mp y
      have hm : m = 0 := by omega
      rw [hm] at he
      exact he
    · by_cases x : σ j = 0
      · exact x
      · rw [if_neg x] at z
        exact absurd rfl z
    · have x : σ j ≠ 0 := fun x => by rw [if_pos x] at z; exact absurd z (by decide)
      refine bQ h ⟨zC_o h i (by omega), c5_divide h i j 52 (by omega) (by omega) (by decide) (by omega) (by omega) (by omega) (by decide) (fun M' k' x10 e10 => ?_)⟩
      rw [e10, nI_1]
      cases m with
      | zero => exact absurd he x
      | succ m =>
        have e1 : ux (ux σ i (σ i % σ j)) 52 (σ i / σ j) j = σ j := by rw [ux_n (by omega), ux_n (by omega)]
        have e2 : ux (ux σ i (σ i % σ j)) 52 (σ i / σ j) i = σ i % σ j := by rw [ux_n (by omega), ux_s]
        refine c0_gdL hk m (c + 1) M' _ j i (by omega) (by omega) k' ?_ (fun l h1 h2 h3 => ?_) ?_
        · rw [e1, e2, ← hg, Nat.gcd_comm (σ i), Nat.gcd_rec (σ j) (σ i), Nat.gcd_comm]
        · rw [ux_n h3, ux_n (by omega)]
          exact hs l h1 h2 h3
        · rw [e1, e2]
          exact he.resolve_left x
theorem c0_gd {post : Option Nat → zm_M → Prop} (h : zC G B M0 M σ τ π β) (p q : Nat) (hp1 : p < 67) (hq1 : q < 67) (hq2 : q ≠ 50) (hp : ∀ (M' : zm_M) (σ' : Nat → Nat) (i : Nat), (i = 50 ∨ i = 51) → zC G B M0 M' σ' τ π β → σ' i = Nat.gcd (σ p) (σ q) → (∀ l, l ≠ 50 → l ≠ 51 → l ≠ 52 → σ' l = σ l) → post (some (B + zo_w i)) M') : pX0_greatestDivisor G (B + 123) (B + zo_w p) (B + zo_w q) post M := by
  have hle : ∀ l, l < 67 → σ l < 4294967296 ^ 36 := fun l hl => Nat.lt_of_lt_of_le (zC_lt h l hl) (Nat.pow_le_pow_right (by decide) (by unfold zo_c; split <;> decide))
  unfold pX0_greatestDivisor
  refine bL h (bG h ⟨zC_o h 50 (by decide), c5_copy h 50 p (by decide) hp1 (hle p hp1) (fun M1 k1 => ⟨zC_o k1 51 (by decide), c5_copy k1 51 q (by decide) hq1 ?_ (fun M2 k2 x5 e5 => ⟨2 * 1152 + 1, ?_⟩)⟩)⟩)
  · rw [ux_n hq2]
    exact hle q hq1
  · rw [e5]
    rw [ux_n hq2] at k2
    have e50 : ux (ux σ 50 (σ p)) 51 (σ q) 50 = σ p := rfl
    have e51 : ux (ux σ 50 (σ p)) 51 (σ q) 51 = σ q := rfl
    refine c0_gdL (σ0 := σ) hp (2 * 1152) 0 M2 _ 50 51 (by omega) (by omega) k2 (by rw [e50, e51]) (fun l h1 h2 h3 => by rw [ux_n h2, ux_n h1]) ?_
    rw [e50, e51]
    refine zE_of 1152 _ _ ?_
    have := hle q hq1
    rw [show (4294967296 : Nat) = 2 ^ 32 by decide, ← Nat.pow_mul] at this
    exact this
theorem c0_divideOut (h : zC G B M0 M σ τ π β) (p q : Nat) (hp1 : p = 48 ∨ p = 49) (hq1 : q = 50 ∨ q = 51) (hp : ∀ (M' : zm_M) (σ' : Nat → Nat), zC G B M0 M' σ' τ π β → σ' p = σ p / σ q → (∀ l, l ≠ p → l ≠ 53 → σ' l = σ l) → post M') : pX0_divideOut G (B + 123) (B + zo_w p) (B + zo_w q) post M := by
  unfold pX0_divideOut
  have hc := zC_lt h p (by omega)
  have hcp : zo_c p = 36 := by rcases hp1 with e | e <;> (subst e; decide)
  rw [hcp] at hc
  refine bS h ⟨zC_o h 53 (by decide), c5_copy h 53 p (by decide) (by omega) hc (fun M1 k1 => bS k1 ⟨zC_o k1 53 (by decide), c5_divide k1 53 q p (by decide) (by omega) (by omega) (by omega) (by omega) (by omega) (by omega) (fun M2 k2 => ?_)⟩)⟩
  refine hp M2 _ k2 ?_ (fun l h1 h2 => ?_)
  · rw [ux_s, ux_s, ux_n (by omega)]
  · rw [ux_n h1, ux_n h2, ux_n h2]
theorem c0_reduce (h : zC G B M0 M σ τ π β) (hD : σ 49 ≠ 0) (hp : ∀ (M' : zm_M) (σ' : Nat → Nat), zC G B M0 M' σ' (upd τ 24 (if σ 48 = 0 then 0 else τ 24)) π β → σ' 48 = σ 48 / Nat.gcd (σ 48) (σ 49) → σ' 49 = σ 49 / Nat.gcd (σ 48) (σ 49) → (∀ l, l < 48 ∨ 54 ≤ l → σ' l = σ l) → post M') : pX0_reduce G (B + 123) post M := by
  unfold pX0_reduce
  refine bR h (gT h 24 (by decide) ⟨zC_o h 48 (by decide), c5_isZero h 48 (by decide) ⟨fun y => ?_, fun y => ?_⟩⟩)
  · have y' : σ 48 ≠ 0 := fun z => by rw [if_pos z] at y; exact absurd y (by decide)
    rw [if_neg y', upd_id] at hp
    refine bR h (gB h 24 (by decide) ⟨zC_o h 49 (by decide), c5_isOne h 49 (by decide) ⟨fun z => ?_, fun z => ?_⟩⟩)
    · refine bR h (gT h 24 (by decide) (bR h (gB h 24 (by decide) ⟨zC_bo h, c0_gd h 48 49 (by decide) (by decide) (by decide) (fun M1 σ1 i hi k1 hg hs => ⟨_, rfl, zC_o k1 i (by omega), c5_isOne k1 i (by omega) ⟨fun x => ?_, fun x => ?_⟩⟩)⟩)))
      · have x' : σ1 i = 1 := by
          by_cases c : σ1 i = 1
          · exact c
          · rw [if_neg c] at x
            exact absurd rfl x
        rw [hg] at x'
        refine hp M1 σ1 k1 ?_ ?_ (fun l hl => hs l (by omega) (by omega) (by omega))
        · rw [x', Nat.div_one]; exact hs 48 (by decide) (by decide) (by decide)
        · rw [x', Nat.div_one]; exact hs 49 (by decide) (by decide) (by decide)
      · refine bR k1 (gT k1 24 (by decide) ⟨zC_bo k1, c0_divideOut k1 48 i (by decide) hi (fun M2 σ2 k2 h2 hs2 => bR k2 (gB k2 24 (by decide) ⟨zC_bo k2, c0_divideOut k2 49 i (by decide) hi (fun M3 σ3 k3 h3 hs3 => hp M3 σ3 k3 ?_ ?_ (fun l hl => ?_))⟩))⟩)
        · rw [hs3 48 (by decide) (by decide), h2, hg, hs 48 (by decide) (by decide) (by decide)]
        · rw [h3, hs2 49 (by decide) (by decide), hs2 i (by omega) (by omega), hg, hs 49 (by decide) (by decide) (by decide)]
        · rw [hs3 l (by omega) (by omega), hs2 l (by omega) (by omega), hs l (by omega) (by omega) (by omega)]
    · have z' : σ 49 = 1 := by
        by_cases c : σ 49 = 1
        · exact c
        · rw [if_neg c] at z
          exact absurd rfl z
      refine hp M σ h ?_ ?_ (fun _ _ => rfl)
      · rw [z', Nat.gcd_one_right, Nat.div_one]
      · rw [z', Nat.gcd_one_right]
  · have y' : σ 48 = 0 := by
      by_cases c : σ 48 = 0
      · exact c
      · rw [if_neg c] at y
        exact absurd rfl y
    rw [if_pos y'] at hp
    refine bR h ⟨zC_ro h 24 (by decide), c2_become h 24 (by decide) uN_0 (fun M1 k1 => hp M1 _ k1 ?_ ?_ (fun l hl => ?_))⟩
    · rw [y', Nat.zero_div]; rfl
    · rw [y', Nat.gcd_zero_left, Nat.div_self (by omega)]; rfl
    · rw [ux_n (by omega), ux_n (by omega)]
end C2
