/-! ===== BENCH: the nearest floating number ===== -/
/-- N / D is below 2 to the e-th -/
def zlx (N D : Nat) (e : Int) : Prop := N * 2 ^ (-e).toNat < D * 2 ^ e.toNat
theorem zlx_iff {N D a b : Nat} {e : Int} (h : (b : Int) - a = e) : zlx N D e ↔ N * 2 ^ a < D * 2 ^ b := by
  unfold zlx
  rcases Int.lt_or_le e 0 with c | c
  · rw [show e.toNat = 0 by omega]
    obtain ⟨d, hd⟩ : ∃ d, a = (-e).toNat + d := ⟨b, by omega⟩
    have hb : b = 0 + d := by omega
    rw [hd, hb, Nat.pow_add, Nat.pow_add, ← Nat.mul_assoc, ← Nat.mul_assoc]
    exact (Nat.mul_lt_mul_right (Nat.pow_pos (by decide))).symm
  · rw [show (-e).toNat = 0 by omega]
    obtain ⟨d, hd⟩ : ∃ d, b = e.toNat + d := ⟨a, by omega⟩
    have hb : a = 0 + d := by omega
    rw [hd, hb, Nat.pow_add, Nat.pow_add, ← Nat.mul_assoc, ← Nat.mul_assoc]
    exact (Nat.mul_lt_mul_right (Nat.pow_pos (by decide))).symm
theorem zlx_mono {N D : Nat} {e e' : Int} (h : zlx N D e) (he : e ≤ e') : zlx N D e' := by
  obtain ⟨d, hd⟩ : ∃ d : Nat, e' = e + d := ⟨(e' - e).toNat, by omega⟩
  have h1 : zlx N D e' ↔ N * 2 ^ (-e).toNat < D * 2 ^ (e.toNat + d) := zlx_iff (by omega)
  refine h1.mpr (Nat.lt_of_lt_of_le h (Nat.mul_le_mul_left _ (Nat.pow_le_pow_right (by decide) (by omega))))
/-- the exponent of N / D -/
def zex (N D : Nat) : Int := if N * 2 ^ (-((zbl N : Int) - zbl D)).toNat < D * 2 ^ ((zbl N : Int) - zbl D).toNat then (zbl N : Int) - zbl D - 1 else (zbl N : Int) - zbl D
theorem zex_spec {N D : Nat} (hN : N ≠ 0) (hD : D ≠ 0) : ¬ zlx N D (zex N D) ∧ zlx N D (zex N D + 1) ∧ (zbl N : Int) - zbl D - 1 ≤ zex N D ∧ zex N D ≤ (zbl N : Int) - zbl D := by
  have n1 := zbl_lt N
  have n2 := zbl_ge hN
  have n3 := zbl_pos hN
  have d1 := zbl_lt D
  have d2 := zbl_ge hD
  have d3 := zbl_pos hD
  have up : zlx N D ((zbl N : Int) - zbl D + 1) := by
    have h : zlx N D ((zbl N : Int) - zbl D + 1) ↔ N * 2 ^ (zbl D - 1) < D * 2 ^ zbl N := zlx_iff (by omega)
    refine h.mpr ?_
    have h1 : N * 2 ^ (zbl D - 1) < 2 ^ zbl N * 2 ^ (zbl D - 1) := Nat.mul_lt_mul_of_pos_right n1 (Nat.pow_pos (by decide))
    have h2 : 2 ^ (zbl D - 1) * 2 ^ zbl N ≤ D * 2 ^ zbl N := Nat.mul_le_mul_right _ d2
    rw [Nat.mul_comm] at h2
    omega
  have dn : ¬ zlx N D ((zbl N : Int) - zbl D - 1) := by
    have h : zlx N D ((zbl N : Int) - zbl D - 1) ↔ N * 2 ^ zbl D < D * 2 ^ (zbl N - 1) := zlx_iff (by omega)
    intro c
    have h0 := h.mp c
    have h1 : 2 ^ (zbl N - 1) * 2 ^ zbl D ≤ N * 2 ^ zbl D := Nat.mul_le_mul_right _ n2
    have h2 : D * 2 ^ (zbl N - 1) < 2 ^ zbl D * 2 ^ (zbl N - 1) := Nat.mul_lt_mul_of_pos_right d1 (Nat.pow_pos (by decide))
    rw [Nat.mul_comm] at h1
    omega
  unfold zex
  by_cases c : N * 2 ^ (-((zbl N : Int) - zbl D)).toNat < D * 2 ^ ((zbl N : Int) - zbl D).toNat
  · rw [if_pos c]
    refine ⟨dn, ?_, by omega, by omega⟩
    rw [Int.sub_add_cancel]
    exact c
  · rw [if_neg c]
    exact ⟨c, up, by omega, by omega⟩
/-- L / R to the nearest whole number, a half to the even one -/
def zrn (L R : Nat) : Nat := L / R + (if R < 2 * (L % R) ∨ R = 2 * (L % R) ∧ L / R % 2 = 1 then 1 else 0)
def zun (N D p : Nat) (least : Int) : Int := if zex N D - p + 1 < least then least else zex N D - p + 1
def znb (N D p : Nat) (least : Int) (inf : Nat) : Nat := min ((zun N D p least - least).toNat * 2 ^ (p - 1) + zrn (N * 2 ^ (-(zun N D p least)).toNat) (D * 2 ^ (zun N D p least).toNat)) inf
theorem i32_s {x y : Int32} {a b : Int} (hx : x.toInt = a) (hy : y.toInt = b) (h1 : -2147483648 ≤ a - b) (h2 : a - b < 2147483648) : (x - y).toInt = a - b := by
  rw [Int32.toInt_sub, hx, hy, Int.bmod_eq_of_le (by omega) (by omega)]
theorem i32_a {x y : Int32} {a b : Int} (hx : x.toInt = a) (hy : y.toInt = b) (h1 : -2147483648 ≤ a + b) (h2 : a + b < 2147483648) : (x + y).toInt = a + b := by
  rw [Int32.toInt_add, hx, hy, Int.bmod_eq_of_le (by omega) (by omega)]
theorem zk_sh64 : ∀ b, b < 64 → (((nI b).toInt64 &&& 63).toBitVec.smod 64).toNat = b := by decide +kernel
theorem lN_shl64 {n b : Nat} (hn : n < 18446744073709551616) (hb : b < 64) : lN n <<< ((nI b).toInt64 &&& 63) = lN (n * 2 ^ b % 18446744073709551616) := by
  refine lN_of ?_
  show ((lN n).toBitVec <<< (((nI b).toInt64 &&& 63).toBitVec.smod 64).toNat).toNat = _
  rw [zk_sh64 b hb, BitVec.toNat_shiftLeft, Nat.shiftLeft_eq]
  have hq : (lN n).toBitVec.toNat = n := uN_lN hn
  rw [hq]
section C05
variable {G : Nat → ClassId} {B : Nat} {M0 M : zm_M} {σ : Nat → Nat} {τ : Nat → Int32} {π : Nat → Nat} {β : Nat → Nat → Int32}
theorem p2_36 {N k : Nat} (h : N < 4294967296 ^ 16) (hk : k ≤ 640) : N * 2 ^ k < 4294967296 ^ 36 := by
  rw [← p512] at h
  have h1 : N * 2 ^ k < 2 ^ 512 * 2 ^ k := Nat.mul_lt_mul_of_pos_right h (Nat.pow_pos (by decide))
  rw [← Nat.pow_add] at h1
  have h2 : 2 ^ (512 + k) ≤ 2 ^ 1152 := Nat.pow_le_pow_right (by decide) (by omega)
  have h3 : (2 : Nat) ^ 1152 = 4294967296 ^ 36 := by rw [show (4294967296 : Nat) = 2 ^ 32 by decide, ← Nat.pow_mul]
  omega
theorem c0_nearestBits {post : Int64 → zm_M → Prop} (h : zC G B M0 M σ τ π β) (a : Nat) (ha : a < 24) {p inf : Nat} {lx : Int32} {least : Int} (hl : lx.toInt = least) (hp1 : 1 ≤ p) (hp2 : p ≤ 53) (hl1 : -1074 ≤ least) (hl2 : least ≤ -100) (hl3 : least = -1074 → p = 53) (hl4 : least ≠ -1074 → -200 ≤ least) (hinf : inf < 2 ^ 63) (hN : τ a ≠ 0 → σ (2 * a) ≠ 0) (hD : σ (2 * a + 1) ≠ 0) (hp0 : τ a = 0 → post 0 M) (hp : τ a ≠ 0 → ∀ (M' : zm_M) (σ' : Nat → Nat), zC G B M0 M' σ' τ π β → (∀ l, l < 48 ∨ 54 ≤ l → σ' l = σ l) → post (lN (znb (σ (2 * a)) (σ (2 * a + 1)) p least inf)) M') : pX0_nearestBits G (B + 123) (B + zo_r a) (nI p) lx (lN inf) post M := by
  unfold pX0_nearestBits
  refine gR h a (by omega) ⟨fun y => ?_, hp0⟩
  have hN := hN y
  have hp := hp y
  have hNl := zC_n h (2 * a) (by omega)
  have hDl := zC_n h (2 * a + 1) (by omega)
  generalize hNN : σ (2 * a) = N at *
  generalize hDD : σ (2 * a + 1) = D at *
  have bN : zbl N ≤ 512 := zbl_n.mpr hNl
  have bD : zbl D ≤ 512 := zbl_n.mpr hDl
  have bN1 := zbl_pos hN
  have bD1 := zbl_pos hD
  obtain ⟨s1, s2, s3, s4⟩ := zex_spec hN hD
  have c36 : zo_c 50 = 36 := by decide
  -- behind the exponent
  have fin : ∀ (M' : zm_M) (σ' : Nat → Nat) (x : Int32), zC G B M0 M' σ' τ π β → (∀ l, l < 48 ∨ 54 ≤ l → σ' l = σ l) → x.toInt = zex N D → pX0_nearestBits_50 G post (B + 123) (B + zo_r a) (nI p) lx (lN inf) x M' := by
    intro M' σ' x k hs hx
    unfold pX0_nearestBits_50
    intro x14 e14
    have hx1 : (x - nI p + (1 : Int32)).toInt = zex N D - p + 1 := i32_a (i32_s hx (nI_toInt (by omega)) (by omega) (by omega)) (show (1 : Int32).toInt = 1 by decide) (by omega) (by omega)
    have hx14 : x14.toInt = zun N D p least := by
      rw [e14]
      unfold zun
      have hlt : x - nI p + (1 : Int32) < lx ↔ zex N D - p + 1 < least := by rw [Int32.lt_iff_toInt_lt, hx1, hl]
      by_cases c : zex N D - p + 1 < least
      · rw [if_pos c, if_pos (hlt.mpr c), hl]
      · rw [if_neg c, if_neg (fun z => c (hlt.mp z)), hx1]
    have hu1 : least ≤ zun N D p least := by unfold zun; split <;> omega
    have hu2 : zex N D - p + 1 ≤ zun N D p least := by unfold zun; split <;> omega
    have hu3 : zun N D p least ≤ 512 := by unfold zun; split <;> omega
    have hu4 : -600 ≤ zun N D p least := by unfold zun; split <;> omega
    have hqp : N * 2 ^ (-(zun N D p least)).toNat / (D * 2 ^ (zun N D p least).toNat) < 2 ^ p := by
      have hR : 0 < D * 2 ^ (zun N D p least).toNat := Nat.mul_pos (by omega) (Nat.pow_pos (by decide))
      refine (Nat.div_lt_iff_lt_mul hR).mpr ?_
      have h1 : zlx N D (zun N D p least + p) := zlx_mono s2 (by omega)
      have h2 : zlx N D (zun N D p least + p) ↔ N * 2 ^ (-(zun N D p least)).toNat < D * 2 ^ ((zun N D p least).toNat + p) := zlx_iff (by omega)
      have h3 := h2.mp h1
      rw [Nat.pow_add, ← Nat.mul_assoc, Nat.mul_comm _ (2 ^ p)] at h3
      exact h3
    have hUdef : znb N D p least inf = min ((zun N D p least - least).toNat * 2 ^ (p - 1) + zrn (N * 2 ^ (-(zun N D p least)).toNat) (D * 2 ^ (zun N D p least).toNat)) inf := rfl
    rw [hUdef] at hp
    generalize zun N D p least = U at *
    have hL36 : N * 2 ^ (-U).toNat < 4294967296 ^ 36 := p2_36 hNl (by omega)
    have hR36 : D * 2 ^ U.toNat < 4294967296 ^ 36 := p2_36 hDl (by omega)
    have hR0 : D * 2 ^ U.toNat ≠ 0 := Nat.ne_of_gt (Nat.mul_pos (by omega) (Nat.pow_pos (by decide)))
    have hR2 : D * 2 ^ U.toNat * 2 < 4294967296 ^ 36 := by
      have := p2_36 (k := U.toNat + 1) hDl (by omega)
      rw [Nat.pow_succ, ← Nat.mul_assoc] at this
      exact this
    refine ⟨zC_bo k, c0_scale k a ha hx14 (by rw [hs _ (by omega), hNN]; exact hL36) (by rw [hs _ (by omega), hDD]; exact hR36) (by omega) (by omega) (fun M1 σ1 k1 e50 e51 hs1 => bL k1 (bG k1 (bQ k1 ⟨zC_o k1 50 (by decide), c5_divide k1 50 51 52 (by decide) (by decide) (by decide) (by decide) (by decide) (by decide) (by decide) (fun M2 k2 => bQ k2 ⟨zC_o k2 52 (by decide), c5_low k2 52 (by decide) (fun x23 e23 => bL k2 (bG k2 (bQ k2 ⟨zC_o k2 52 (by decide), c5_isOdd k2 52 (by decide) ?_⟩)))⟩)⟩)))⟩
    rw [hs _ (by omega), hNN] at e50
    rw [hs _ (by omega), hDD] at e51
    rw [e50, e51] at k2 e23 ⊢
    generalize N * 2 ^ (-U).toNat = L at *
    generalize D * 2 ^ U.toNat = R at *
    have f52 : ux (ux σ1 50 (L % R)) 52 (L / R) 52 = L / R := rfl
    have f50 : ux (ux σ1 50 (L % R)) 52 (L / R) 50 = L % R := rfl
    have f51 : ux (ux σ1 50 (L % R)) 52 (L / R) 51 = R := e51
    rw [f52] at e23 ⊢
    have hp53 : 2 ^ p ≤ 2 ^ 53 := Nat.pow_le_pow_right (by decide) hp2
    have hp52 : 2 ^ (p - 1) ≤ 2 ^ 52 := Nat.pow_le_pow_right (by decide) (by omega)
    have hU : (U - least).toNat < 1600 := by omega
    have hUp : (U - least).toNat * 2 ^ (p - 1) ≤ 1600 * 2 ^ 52 := Nat.mul_le_mul (by omega) hp52
    have e23' : x23 = lN ((U - least).toNat * 2 ^ (p - 1) + L / R) := by
      have g1 : x14 - lx = nI (U - least).toNat := by
        apply Int32.toInt_inj.mp
        rw [i32_s hx14 hl (by omega) (by omega), nI_toInt (by omega)]
        omega
      have g2 : nI p - (1 : Int32) = nI (p - 1) := by
        obtain ⟨p', rfl⟩ : ∃ p', p = p' + 1 := ⟨p - 1, by omega⟩
        exact nI_pred p'
      rw [e23, g1, g2, nI_l (by omega), lN_shl64 (by omega) (by omega), Nat.mod_eq_of_lt (by omega), Nat.mod_eq_of_lt (a := L / R) (by omega), lN_add]
    have hmr : L % R < R := Nat.mod_lt _ (by omega)
    have hsf : ∀ l, l < 48 ∨ 54 ≤ l → ux (ux (ux σ1 50 (L % R)) 52 (L / R)) 50 (2 * (L % R)) l = σ l := fun l hl => by
      rw [ux_n (by omega), ux_n (by omega), ux_n (by omega), hs1 l (by omega) (by omega), hs l hl]
    refine c0_rup k2 50 51 (by decide) (by decide) (by decide) ?_ (odd := L / R % 2 = 1) ?_ (fun z M3 k3 => ⟨fun q => absurd q (by decide), fun _ x31 e31 => ?_⟩) (fun z M3 k3 => ⟨fun _ => ?_, fun q => absurd rfl q⟩)
    · rw [f50, c36]
      omega
    · by_cases c : L / R % 2 = 1
      · rw [if_pos c]; exact ⟨fun _ => c, fun _ => by decide⟩
      · rw [if_neg c]; exact ⟨fun y => absurd rfl y, fun y => absurd y c⟩
    · rw [f51, f50] at z
      rw [f50] at k3
      unfold pX0_nearestBits_130
      have e31' : x31 = lN ((U - least).toNat * 2 ^ (p - 1) + (L / R + 1)) := by
        rw [e31, e23']
        exact lN_add _ 1
      have hr : zrn L R = L / R + 1 := by unfold zrn; rw [if_pos z]
      have := hp M3 _ k3 hsf
      rw [hr] at this
      rw [e31']
      have hcmp : lN inf < lN ((U - least).toNat * 2 ^ (p - 1) + (L / R + 1)) ↔ inf < (U - least).toNat * 2 ^ (p - 1) + (L / R + 1) := pk_lLT hinf (by omega)
      by_cases c : inf < (U - least).toNat * 2 ^ (p - 1) + (L / R + 1)
      · rw [if_pos (hcmp.mpr c)]
        rw [Nat.min_eq_right (by omega)] at this
        exact this
      · rw [if_neg (fun q => c (hcmp.mp q))]
        rw [Nat.min_eq_left (by omega)] at this
        exact this
    · rw [f51, f50] at z
      rw [f50] at k3
      unfold pX0_nearestBits_130
      have hr : zrn L R = L / R := by unfold zrn; rw [if_neg z, Nat.add_zero]
      have := hp M3 _ k3 hsf
      rw [hr] at this
      rw [e23']
      have hcmp : lN inf < lN ((U - least).toNat * 2 ^ (p - 1) + L / R) ↔ inf < (U - least).toNat * 2 ^ (p - 1) + L / R := pk_lLT hinf (by omega)
      by_cases c : inf < (U - least).toNat * 2 ^ (p - 1) + L / R
      · rw [if_pos (hcmp.mpr c)]
        rw [Nat.min_eq_right (by omega)] at this
        exact this
      · rw [if_neg (fun q => c (hcmp.mp q))]
        rw [Nat.min_eq_left (by omega)] at this
        exact this
  refine gT h a (by omega) ⟨zC_o h _ (by omega), c5_bits h (2 * a) (by omega) (gB h a (by omega) ⟨zC_o h _ (by omega), c5_bits h (2 * a + 1) (by omega) (fun x8 e8 => ⟨zC_bo h, ?_⟩)⟩)⟩
  rw [hNN, hDD] at e8
  have hx8 : x8.toInt = (zbl N : Int) - zbl D := by
    rw [e8]
    exact i32_s (nI_toInt (by omega)) (nI_toInt (by omega)) (by omega) (by omega)
  refine c0_scale h a ha hx8 (by rw [hNN]; exact p2_36 hNl (by omega)) (by rw [hDD]; exact p2_36 hDl (by omega)) (by omega) (by omega) (fun M1 σ1 k1 e50 e51 hs1 => bL k1 (bG k1 ⟨zC_o k1 50 (by decide), c5_order k1 50 51 (by decide) (by decide) ?_⟩))
  rw [hNN] at e50
  rw [hDD] at e51
  rw [e50, e51]
  have hs1' : ∀ l, l < 48 ∨ 54 ≤ l → σ1 l = σ l := fun l hl => hs1 l (by omega) (by omega)
  by_cases c : N * 2 ^ (-((zbl N : Int) - zbl D)).toNat < D * 2 ^ ((zbl N : Int) - zbl D).toNat
  · rw [if_pos c]
    refine ⟨fun q => absurd q (by decide), fun _ x32 e32 => fin M1 σ1 x32 k1 hs1' ?_⟩
    rw [e32, show zex N D = (zbl N : Int) - zbl D + -1 by unfold zex; rw [if_pos c]; rfl]
    exact i32_a hx8 (show (-1 : Int32).toInt = -1 by decide) (by omega) (by omega)
  · rw [if_neg c]
    refine ⟨fun _ => fin M1 σ1 x8 k1 hs1' ?_, fun q => absurd ?_ q⟩
    · rw [hx8]; unfold zex; rw [if_neg c]
    · split <;> decide
end C05
