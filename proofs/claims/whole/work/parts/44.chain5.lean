/-! ===== CHAIN: seekNearest ===== -/
section CH5
variable {G : Nat → ClassId} {B : Nat} {M0 M : zm_M} {σ : Nat → Nat} {τ : Nat → Int32} {π : Nat → Nat} {β : Nat → Nat → Int32} {post : zm_M → Prop}
/-- what holds of the sizes on the way: of X / Y what is left, p / q and p0 / q0 what was made -/
def zsi (bd D X Y p q p0 q0 : Nat) : Prop := Y < X ∧ 1 ≤ q ∧ q ≤ bd ∧ q0 ≤ bd ∧ p ≤ q ∧ (p0 ≤ q0 ∨ p0 = 1 ∧ p = 0 ∧ q0 = 0) ∧ q * X + q0 * Y = D ∧ Nat.gcd X Y = 1
theorem zsi_step {bd D X Y p q p0 q0 : Nat} (h : zsi bd D X Y p q p0 q0) (hY : Y ≠ 0) (ht : X / Y ≤ (bd - q0) / q) : zsi bd D Y (X % Y) (p0 + X / Y * p) (q0 + X / Y * q) p q := by
  obtain ⟨h1, h2, h3, h4, h5, h6, h7, h8⟩ := h
  have ht1 : 1 ≤ X / Y := (Nat.le_div_iff_mul_le (by omega)).mpr (by omega)
  have hm : X / Y * q ≤ bd - q0 := (Nat.le_div_iff_mul_le (by omega)).mp ht
  have hq : 1 * q ≤ X / Y * q := Nat.mul_le_mul_right _ ht1
  have hpq : X / Y * p ≤ X / Y * q := Nat.mul_le_mul_left _ h5
  refine ⟨Nat.mod_lt _ (by omega), by omega, by omega, h3, ?_, Or.inl h5, (zga_b hY h7).1, ?_⟩
  · rcases h6 with c | ⟨c1, c2, c3⟩
    · omega
    · rw [c1, c2, c3]
      omega
  · rw [Nat.gcd_comm X Y, Nat.gcd_rec, Nat.gcd_comm] at h8
    exact h8
theorem zsi_other {bd D X Y p q p0 q0 : Nat} (h : zsi bd D X Y p q p0 q0) : q0 + (bd - q0) / q * q ≤ bd ∧ p0 + (bd - q0) / q * p ≤ bd := by
  obtain ⟨h1, h2, h3, h4, h5, h6, h7, h8⟩ := h
  have hm : (bd - q0) / q * q ≤ bd - q0 := Nat.div_mul_le_self _ _
  have hpq : (bd - q0) / q * p ≤ (bd - q0) / q * q := Nat.mul_le_mul_left _ h5
  refine ⟨by omega, ?_⟩
  rcases h6 with c | ⟨c1, c2, c3⟩
  · omega
  · rw [c1, c2]
    omega
theorem c1_seekL {σ0 : Nat → Nat} {d bd : Nat} {k65 k120 : Nat → Nat → Int64 → Int64 → Int64 → Int64 → Int64 → zm_M → Prop} {D : Nat} {o : Option (Nat × Nat × Nat × Nat)} (hbd : bd < 2 ^ 63) (hbD : bd < D) (hkk : ∀ (M' : zm_M) (σ' π' : Nat → Nat) (p q p0 q0 t : Nat), zH G B M0 M' σ' τ π' β → p < 2 ^ 63 → q < 2 ^ 63 → p0 + t * p < 2 ^ 63 → q0 + t * q < 2 ^ 63 → o = some (p, q, p0 + t * p, q0 + t * q) → (∀ l, l < 56 → σ' l = σ0 l) → k65 (B + 137) (B + zo_w d) (lN p) (lN q) (lN p0) (lN q0) (lN t) M') : ∀ (m c : Nat) (M : zm_M) (σ π : Nat → Nat) (p q p0 q0 : Nat) (tx : Int64), c + m ≤ 4000 → zH G B M0 M σ τ π β → zE m (σ 57) (σ 58) → zsi bd D (σ 57) (σ 58) p q p0 q0 → zsn bd m (σ 57) (σ 58) p q p0 q0 = o → (∀ l, l < 56 → σ l = σ0 l) → pX1_seekNearest_18 G post k65 k120 (m + 1) (B + 137) (B + zo_w d) (lN bd) (lN p) (lN q) (lN p0) (lN q0) tx (nI c) M
  | m, c, M, σ, π, p, q, p0, q0, tx, hc, h, he, hi, ho, hs => by
    have hY : σ 58 ≠ 0 := by
      intro z
      obtain ⟨h1, h2, h3, h4, h5, h6, h7, h8⟩ := hi
      rw [z, Nat.gcd_zero_right] at h8
      rw [z, h8, Nat.mul_zero, Nat.mul_one] at h7
      omega
    cases m with
    | zero => exact absurd he hY
    | succ m =>
      obtain ⟨h1, h2, h3, h4, h5, h6, h7, h8⟩ := id hi
      rw [pX1_seekNearest_18]
      have hq0 : ¬ lN q ≤ (0 : Int64) := fun y => absurd ((pk_lLE (b := 0) (by omega) (by decide)).mp y) (by omega)
      refine ⟨fun y => absurd ((nI_leI (a := 4000) (by decide) (by omega)).mp y) (by omega), fun _ => ⟨zH_co h, c1_hasMore h (fun z => absurd z hY) (fun _ => ⟨fun y => absurd y (by decide), fun _ => ⟨fun y => absurd y hq0, fun _ => ⟨zH_co h, c1_cut h (fun M1 σ1 π1 k1 e1 e2 e3 hs1 => ⟨fun y => absurd ((pk_lEQ (b := 0) (by omega) (by decide)).mp y) (by omega), fun x10 e10 => hk k1 rfl ⟨zH_o k1 56 (by decide) rfl, ?_⟩⟩)⟩⟩⟩)⟩⟩
      have e10' : x10 = lN ((bd - q0) / q) := by rw [e10, lN_sub h4, pk_lDiv (by omega) (by omega) (by omega)]
      have hrl : (bd - q0) / q ≤ bd := Nat.le_trans (Nat.div_le_self _ _) (Nat.sub_le _ _)
      rw [e10']
      have hs1' : ∀ l, l < 56 → σ1 l = σ0 l := fun l hl => (hs1 l (by omega) (by omega) (by omega)).trans (hs l hl)
      have hu : uN (lN ((bd - q0) / q)) = (bd - q0) / q := uN_63 (by omega)
      refine h5_isAbove k1 56 (by decide) rfl (by rw [hu]; omega) ?_
      rw [hu, e1]
      unfold zsn at ho
      rw [if_neg hY] at ho
      by_cases ca : (bd - q0) / q < σ 57 / σ 58
      · rw [if_pos ca] at ho
        rw [if_pos ca]
        refine ⟨fun y => absurd y (by decide), fun _ => ?_⟩
        obtain ⟨o1, o2⟩ := zsi_other hi
        exact hkk M1 σ1 π1 p q p0 q0 _ k1 (by omega) (by omega) (by omega) (by omega) ho.symm hs1'
      · rw [if_neg ca] at ho
        rw [if_neg ca]
        have htl : σ 57 / σ 58 < 18446744073709551616 := by omega
        refine ⟨fun _ => hk k1 rfl ⟨zH_o k1 56 (by decide) rfl, h5_low k1 56 (by decide) rfl (fun x17 e17 => hk k1 rfl ⟨zH_o k1 56 (by decide) rfl, h5_low k1 56 (by decide) rfl (fun x21 e21 x22 e22 => ?_)⟩)⟩, fun y => absurd rfl y⟩
        rw [e1, Nat.mod_eq_of_lt htl, lN_mul, lN_add, Nat.add_comm] at e17 e21
        rw [e17, e21, e22, nI_1]
        have hz := zsi_step hi hY (by omega)
        refine c1_seekL hbd hbD hkk m (c + 1) M1 σ1 π1 _ _ _ _ _ (by omega) k1 ?_ ?_ ?_ hs1'
        · rw [e2, e3]
          exact he.resolve_left hY
        · rw [e2, e3]
          exact hz
        · rw [e2, e3]
          exact ho
theorem c1_seek (h : zH G B M0 M σ τ π β) (d bd : Nat) (hd : d < 48) (hbd : bd < 2 ^ 63) (hb1 : 1 ≤ bd) (hX : bd < σ 57) (hYX : σ 58 < σ 57) (hX16 : σ 57 < 4294967296 ^ 16) (hg : Nat.gcd (σ 57) (σ 58) = 1) (hr : σ 55 < 4294967296 ^ 16) (hp : ∀ (M' : zm_M) (σ' π' : Nat → Nat) (p q p' q' : Nat), zH G B M0 M' σ' τ π' β → zsn bd 1024 (σ 57) (σ 58) 0 1 1 0 = some (p, q, p', q') → (σ' 59, σ' 60) = zch (σ 55) (σ d) p q p' q' → (∀ l, l < 56 → σ' l = σ l) → post M') : pX1_seekNearest G (B + 137) (B + zo_w d) (lN bd) post M := by
  unfold pX1_seekNearest
  refine fun x1 e1 x2 e2 x3 e3 x4 e4 x5 e5 x6 e6 => ⟨1025, ?_⟩
  rw [e1, e2, e3, e4, e5, e6]
  refine c1_seekL (σ0 := σ) (bd := bd) (D := σ 57) (o := zsn bd 1024 (σ 57) (σ 58) 0 1 1 0) hbd hX (fun M' σ' π' p q p0 q0 t k1 g1 g2 g3 g4 go gs => ?_) 1024 0 M σ π 0 1 1 0 _ (by decide) h (zE_of 512 _ _ ?_) ⟨hYX, by omega, by omega, by omega, by omega, Or.inr ⟨rfl, rfl, rfl⟩, by omega, hg⟩ rfl (fun _ _ => rfl)
  · unfold pX1_seekNearest_120
    rw [lN_mul, lN_mul, lN_add, lN_add]
    refine ⟨zH_co k1, c1_choose k1 d hd g1 g2 g3 g4 (by rw [gs 55 (by decide)]; exact hr) (fun M2 σ2 k2 c1 c2 => ?_)⟩
    rw [gs 55 (by decide), gs d (by omega)] at c1
    exact hp M2 σ2 π' _ _ _ _ k2 go c1 (fun l hl => (c2 l (by omega)).trans (gs l hl))
  · rw [p512]
    omega
end CH5
