/-! ===== THE REFERENCE'S CALLS: real, single ===== -/
theorem zrn_k {k L R : Nat} (hk : 0 < k) : zrn (k * L) (k * R) = zrn L R := by
  unfold zrn
  rw [Nat.mul_div_mul_left _ _ hk, Nat.mul_mod_mul_left]
  have e : 2 * (k * (L % R)) = k * (2 * (L % R)) := Nat.mul_left_comm _ _ _
  have h1 : k * R < 2 * (k * (L % R)) ↔ R < 2 * (L % R) := by
    rw [e]
    exact Nat.mul_lt_mul_left hk
  have h2 : k * R = 2 * (k * (L % R)) ↔ R = 2 * (L % R) := by
    rw [e]
    exact Nat.mul_right_inj (by omega)
  simp only [h1, h2]
theorem zrn_x {L R L' R' : Nat} (hR : 0 < R) (hR' : 0 < R') (h : L * R' = L' * R) : zrn L R = zrn L' R' := by
  rw [← zrn_k (L := L) (R := R) hR', ← zrn_k (L := L') (R := R') hR, Nat.mul_comm R' L, h, Nat.mul_comm L' R, Nat.mul_comm R' R]
/-- what a last bit for all that is cut off says is enough -/
theorem zrn_m {A C s : Nat} (hC : 0 < C) (hs : 2 ≤ s) : zrn (2 * A) (C * 2 ^ s) = zrn (2 * (A / C) + (if A % C = 0 then 0 else 1)) (2 ^ s) := by
  obtain ⟨u, rfl⟩ : ∃ u, s = u + 2 := ⟨s - 2, by omega⟩
  have hH : 0 < 2 ^ u := Nat.two_pow_pos u
  have e4 : (2 : Nat) ^ (u + 2) = 4 * 2 ^ u := by rw [Nat.pow_add, Nat.mul_comm]
  rw [e4]
  generalize hHH : 2 ^ u = H at *
  have hdm := Nat.div_add_mod A C
  have hr := Nat.mod_lt A hC
  generalize A / C = q at *
  generalize A % C = r at *
  obtain ⟨σ, hσ⟩ : ∃ σ, σ = (if r = 0 then 0 else 1) := ⟨_, rfl⟩
  have hσ1 : σ ≤ 1 := by rw [hσ]; split <;> omega
  rw [← hσ]
  -- q = 2 H Q + w
  have hq := Nat.div_add_mod q (2 * H)
  have hw := Nat.mod_lt q (show 0 < 2 * H by omega)
  generalize q / (2 * H) = Q at *
  generalize q % (2 * H) = w at *
  have d1 := zdvm (x := 2 * q + σ) (v := 4 * H) (c := Q) (t := 2 * w + σ) (by
    have : 4 * H * Q = 2 * (2 * H * Q) := by rw [show (4 : Nat) = 2 * 2 from rfl, Nat.mul_assoc, Nat.mul_assoc, Nat.mul_assoc]
    omega) (by omega)
  have hcw : C * w + C ≤ C * (2 * H) := by
    have := Nat.mul_le_mul_left C (show w + 1 ≤ 2 * H by omega)
    rw [Nat.mul_add, Nat.mul_one] at this
    exact this
  have e1 : C * (4 * H) = 2 * (C * (2 * H)) := by
    rw [show 4 * H = 2 * (2 * H) by omega, Nat.mul_left_comm]
  have hA : 2 * A = C * (4 * H) * Q + 2 * (C * w + r) := by
    have e2 : C * q = C * (2 * H) * Q + C * w := by rw [← hq, Nat.mul_add, Nat.mul_assoc C]
    rw [e1, Nat.mul_assoc 2]
    omega
  have d2 := zdvm (x := 2 * A) (v := C * (4 * H)) (c := Q) (t := 2 * (C * w + r)) hA (by omega)
  have e3 : C * (2 * H) = 2 * (C * H) := Nat.mul_left_comm _ _ _
  have key1 : C * (4 * H) < 2 * (2 * (C * w + r)) ↔ 4 * H < 2 * (2 * w + σ) := by
    rcases Nat.lt_trichotomy w H with c | c | c
    · have h9 : C * w + C ≤ C * H := by
        have := Nat.mul_le_mul_left C (show w + 1 ≤ H by omega)
        rw [Nat.mul_add, Nat.mul_one] at this
        exact this
      constructor
      · intro h; omega
      · intro h; omega
    · subst c
      constructor
      · intro h
        have : r ≠ 0 := by omega
        rw [if_neg this] at hσ
        omega
      · intro h
        have : r ≠ 0 := fun c => by
          rw [if_pos c] at hσ
          omega
        omega
    · have h9 : C * H + C ≤ C * w := by
        have := Nat.mul_le_mul_left C (show H + 1 ≤ w by omega)
        rw [Nat.mul_add, Nat.mul_one] at this
        exact this
      constructor
      · intro h; omega
      · intro h; omega
  have key2 : C * (4 * H) = 2 * (2 * (C * w + r)) ↔ 4 * H = 2 * (2 * w + σ) := by
    rcases Nat.lt_trichotomy w H with c | c | c
    · have h9 : C * w + C ≤ C * H := by
        have := Nat.mul_le_mul_left C (show w + 1 ≤ H by omega)
        rw [Nat.mul_add, Nat.mul_one] at this
        exact this
      constructor
      · intro h; omega
      · intro h; omega
    · subst c
      constructor
      · intro h
        have : r = 0 := by omega
        rw [if_pos this] at hσ
        omega
      · intro h
        have : r = 0 := by
          by_cases c : r = 0
          · exact c
          · rw [if_neg c] at hσ
            omega
        omega
    · have h9 : C * H + C ≤ C * w := by
        have := Nat.mul_le_mul_left C (show H + 1 ≤ w by omega)
        rw [Nat.mul_add, Nat.mul_one] at this
        exact this
      constructor
      · intro h; omega
      · intro h; omega
  unfold zrn
  rw [d1.1, d1.2, d2.1, d2.2]
  simp only [key1, key2]
theorem zex_u {N D : Nat} (hN : N ≠ 0) (hD : D ≠ 0) {E : Int} (h1 : ¬ zlx N D E) (h2 : zlx N D (E + 1)) : zex N D = E := by
  obtain ⟨s1, s2, s3, s4⟩ := zex_spec hN hD
  rcases Int.lt_trichotomy (zex N D) E with c | c | c
  · exact absurd (zlx_mono s2 (by omega)) h1
  · exact c
  · exact absurd (zlx_mono h2 (by omega)) s1
theorem nI_l64 {w : Nat} (h : w < 2 ^ 31) : (nI w).toInt64 = lN w := by
  apply Int64.toInt_inj.mp
  rw [i64_of32, nI_toInt h, pk_lT (by omega)]
section R82
variable {G : Nat → ClassId} {Bm : Nat} {M0 M : zm_M} {ι : Nat → Int32} {α : Nat → Nat → Int32} {K : Nat → Int64} {ρ : Nat → Nat} {S : zS} {t : Int32}
theorem r7_topL {post : Int64 → zm_M → Prop} {k33 : Int64 → Int32 → Int32 → Int32 → Int32 → zm_M → Prop} {m : Nat} {e f b : Int32} (m1 : 2 ≤ m) (m2 : m < 2 ^ 58) (hk : ∀ top, 2 ^ top ≤ m → m < 2 ^ (top + 1) → k33 (lN m) e f b (nI top) M) : ∀ (d k : Nat), k + d = 60 → 2 ^ k ≤ m → pX7_nearest_11 G post k33 (d + 1) (lN m) e f b (nI k) M
  | 0, k, hk0, hm => by
    have : k = 60 := by omega
    subst this
    have h9 : (2 : Nat) ^ 58 ≤ 2 ^ 60 := by decide
    omega
  | d + 1, k, hk0, hm => by
    rw [pX7_nearest_11]
    have hkl : k < 58 := by
      rcases Nat.lt_or_ge k 58 with c | c
      · exact c
      · have := Nat.pow_le_pow_right (show 0 < 2 by decide) c
        omega
    have h63 : m < 2 ^ 63 := by omega
    refine ⟨fun y => absurd ((nI_leI (a := 62) (by decide) (by omega)).mp y) (by omega), fun _ => ?_⟩
    rw [sar_n h63 (by omega)]
    have hdl := Nat.div_le_self m (2 ^ k)
    have hle : lN (m / 2 ^ k) ≤ (1 : Int64) ↔ m / 2 ^ k ≤ 1 := pk_lLE (b := 1) (by omega) (by decide)
    have hlt : m / 2 ^ k ≤ 1 ↔ m < 2 ^ (k + 1) := by
      rw [Nat.pow_succ, ← Nat.lt_succ_iff]
      rw [Nat.div_lt_iff_lt_mul (Nat.two_pow_pos k), Nat.mul_comm]
    refine ⟨fun y => hk k hm (hlt.mp (hle.mp y)), fun y x e => ?_⟩
    rw [e, nI_1]
    refine r7_topL m1 m2 hk d (k + 1) (by omega) ?_
    have : ¬ m < 2 ^ (k + 1) := fun c => y (hle.mpr (hlt.mpr c))
    omega
theorem r7_nearest {post : Int64 → zm_M → Prop} {m fr b : Nat} {e : Int32} {e' : Int} (he : e.toInt = e') (h1 : -600 ≤ e') (h2 : e' ≤ 500) (m1 : 2 ^ 56 ≤ m) (m2 : m < 2 ^ 58) (f1 : 20 ≤ fr) (f2 : fr ≤ 52) (b1 : 100 ≤ b) (b2 : b ≤ 1023) (hp : ∀ (top : Nat) (U : Int) (s : Nat), 2 ^ top ≤ m → m < 2 ^ (top + 1) → U = (if (top : Int) + e' ≤ 1 - b then 1 - (b : Int) else top + e') - fr → (s : Int) = U - e' → 4 ≤ s → post (lN (min ((U - (1 - b - fr)).toNat * 2 ^ fr + zrn m (2 ^ s)) ((2 * b + 1) * 2 ^ fr))) M) : pX7_nearest G (lN m) e (nI fr) (nI b) post M := by
  unfold pX7_nearest
  have h63 : m < 2 ^ 63 := by omega
  refine ⟨fun _ x1 e1 => ⟨61, ?_⟩, fun y => absurd ((pk_lEQ (b := 0) h63 (by decide)).mp y) (by omega)⟩
  rw [e1]
  refine r7_topL (by omega) m2 (fun top t1 t2 => ?_) 60 0 rfl (by rw [Nat.pow_zero]; omega)
  have ht : 56 ≤ top ∧ top ≤ 57 := by
    constructor
    · rcases Nat.lt_or_ge top 56 with c | c
      · have := Nat.pow_le_pow_right (show 0 < 2 by decide) (show top + 1 ≤ 56 by omega)
        omega
      · exact c
    · rcases Nat.lt_or_ge 57 top with c | c
      · have := Nat.pow_le_pow_right (show 0 < 2 by decide) (show 58 ≤ top by omega)
        omega
      · exact c
  show pX7_nearest_33 G post (lN m) e (nI fr) (nI b) (nI top) M
  unfold pX7_nearest_33
  intro x9 e9
  have i9 : x9.toInt = 1 - (b : Int) := by
    rw [e9]
    exact i32_s rfl (nI_toInt (by omega)) (by omega) (by omega)
  have it : (nI top + e).toInt = (top : Int) + e' := i32_a (nI_toInt (by omega)) he (by omega) (by omega)
  -- from the place of the last bit on
  have go : ∀ (s0 : Int32) (μ : Int), s0.toInt = μ → μ = (if (top : Int) + e' ≤ 1 - b then 1 - (b : Int) else top + e') → pX7_nearest_57 G post (lN m) e (nI fr) (nI b) x9 s0 M := by
    intro s0 μ hs0 hμ
    have hμ1 : (top : Int) + e' ≤ μ ∧ 1 - (b : Int) ≤ μ ∧ μ ≤ 600 := by
      rw [hμ]
      split <;> omega
    unfold pX7_nearest_57
    intro x10 e10 x11 e11
    have i10 : x10.toInt = μ - fr := by
      rw [e10]
      exact i32_s hs0 (nI_toInt (by omega)) (by omega) (by omega)
    have i11 : x11.toInt = μ - fr - e' := by
      rw [e11]
      exact i32_s i10 he (by omega) (by omega)
    obtain ⟨s, hs⟩ : ∃ s : Nat, (s : Int) = μ - fr - e' := ⟨(μ - fr - e').toNat, by omega⟩
    have hs4 : 4 ≤ s := by omega
    have hs2k : s < 3000 := by omega
    have n11 : x11 = nI s := by
      have := i32_n (x := x11) (by omega)
      rw [this, show x11.toInt.toNat = s by omega]
    have hfin := hp top (μ - fr) s t1 t2 (by rw [hμ]) hs hs4
    have hw : μ - fr - (1 - b - fr) = μ - (1 - b) := by omega
    rw [hw] at hfin
    obtain ⟨w, hww⟩ : ∃ w : Nat, (w : Int) = μ - (1 - b) := ⟨(μ - (1 - b)).toNat, by omega⟩
    have hw2 : (μ - (1 - b)).toNat = w := by omega
    rw [hw2] at hfin
    have hw3 : w ≤ 1700 := by omega
    have hpf : (2 : Nat) ^ fr ≤ 2 ^ 52 := Nat.pow_le_pow_right (by decide) f2
    have hpf0 := Nat.two_pow_pos fr
    have hwm : w * 2 ^ fr ≤ 1700 * 2 ^ 52 := Nat.mul_le_mul hw3 hpf
    have hbm : (2 * b + 1) * 2 ^ fr ≤ 2047 * 2 ^ 52 := Nat.mul_le_mul (by omega) hpf
    -- the end
    have fin : ∀ (v9 : Int64) (z : Nat), v9 = lN z → z = zrn m (2 ^ s) → z ≤ 2 ^ 55 → pX7_nearest_153 G post (nI fr) (nI b) x9 x10 v9 M := by
      intro v9 z hv hz hzl
      unfold pX7_nearest_153
      intro x16 e16 x17 e17
      have ea : (x10 - x9 + nI fr).toInt = (w : Int) := by
        rw [i32_a (i32_s i10 i9 (by omega) (by omega)) (nI_toInt (by omega)) (by omega) (by omega)]
        omega
      have ea' : x10 - x9 + nI fr = nI w := by
        have := i32_n (x := x10 - x9 + nI fr) (by omega)
        rw [this, ea]
        rfl
      have eb : (2 : Int32) * nI b + (1 : Int32) = nI (2 * b + 1) := zix2 b 1
      rw [ea', nI_l64 (by omega), lN_shl64 (by omega) (by omega), Nat.mod_eq_of_lt (by omega), hv, lN_add] at e16
      rw [eb, nI_l64 (by omega), lN_shl64 (by omega) (by omega), Nat.mod_eq_of_lt (by omega)] at e17
      rw [e16, e17]
      rw [← hz] at hfin
      refine ⟨fun y => ?_, fun y => ?_⟩
      · have y' := (pk_lLE (by omega) (by omega)).mp y
        rw [Nat.min_eq_left y'] at hfin
        exact hfin
      · have y' : ¬ w * 2 ^ fr + z ≤ (2 * b + 1) * 2 ^ fr := fun c => y ((pk_lLE (by omega) (by omega)).mpr c)
        rw [Nat.min_eq_right (by omega)] at hfin
        exact hfin
    refine ⟨fun _ => ⟨fun y => ?_, fun y x18 e18 => ?_⟩, fun y => absurd (Int32.lt_iff_toInt_lt.mpr (by rw [i11]; show (0 : Int) < _; omega)) y⟩
    · rw [n11] at y ⊢
      have y' := (nI_leI (b := 62) (by omega) (by decide)).mp y
      intro x12 e12 x13 e13 x14 e14
      rw [sar_n h63 (by omega)] at e12
      have hdl := Nat.div_le_self m (2 ^ s)
      have hdm := Nat.div_add_mod m (2 ^ s)
      rw [Nat.mul_comm] at hdm
      have hml := Nat.mod_lt m (Nat.two_pow_pos s)
      rw [e12, lN_shl64 (by omega) (by omega), Nat.mod_eq_of_lt (by omega), lN_sub (by omega), show m - m / 2 ^ s * 2 ^ s = m % 2 ^ s by omega] at e13
      have e14' : x14 = lN (2 ^ (s - 1)) := by
        rw [e14]
        have : nI s - (1 : Int32) = nI (s - 1) := by
          obtain ⟨s', rfl⟩ : ∃ s', s = s' + 1 := ⟨s - 1, by omega⟩
          exact nI_pred _
        rw [this]
        show lN 1 <<< _ = _
        have hpp : (2 : Nat) ^ (s - 1) ≤ 2 ^ 61 := Nat.pow_le_pow_right (by decide) (by omega)
        rw [lN_shl64 (by decide) (by omega), Nat.one_mul, Nat.mod_eq_of_lt (by omega)]
      have hp1 : (2 : Nat) ^ s = 2 * 2 ^ (s - 1) := by
        rw [← Nat.pow_succ', Nat.succ_eq_add_one, show s - 1 + 1 = s by omega]
      have hq55 : m / 2 ^ s < 2 ^ 54 := by
        have h16 : (2 : Nat) ^ 4 ≤ 2 ^ s := Nat.pow_le_pow_right (by decide) hs4
        have h17 : m / 2 ^ s ≤ m / 2 ^ 4 := Nat.div_le_div_left h16 (by decide)
        omega
      have hpp : (2 : Nat) ^ (s - 1) ≤ 2 ^ 61 := Nat.pow_le_pow_right (by decide) (by omega)
      have hbit : (x12 &&& (1 : Int64)) = (1 : Int64) ↔ m / 2 ^ s % 2 = 1 := by
        rw [e12]
        show lN _ &&& lN 1 = lN 1 ↔ _
        rw [lN_and _ 1 (by omega) (by decide), Nat.and_one_is_mod]
        exact pk_lEQ (by omega) (by decide)
      have up : (2 ^ s < 2 * (m % 2 ^ s) ∨ 2 ^ s = 2 * (m % 2 ^ s) ∧ m / 2 ^ s % 2 = 1) → pX7_nearest_145 G post (nI fr) (nI b) x9 x10 x12 M := by
        intro hc
        unfold pX7_nearest_145 pX7_nearest_150
        intro x15 e15
        refine fin x15 (m / 2 ^ s + 1) (by rw [e15, e12]; exact lN_add _ 1) ?_ (by omega)
        unfold zrn
        rw [if_pos hc]
      have no : ¬ (2 ^ s < 2 * (m % 2 ^ s) ∨ 2 ^ s = 2 * (m % 2 ^ s) ∧ m / 2 ^ s % 2 = 1) → pX7_nearest_149 G post (nI fr) (nI b) x9 x10 x12 M := by
        intro hc
        unfold pX7_nearest_149 pX7_nearest_150
        intro x15 e15
        refine fin x15 (m / 2 ^ s) (by rw [e15, e12]; exact lN_add _ 0) ?_ (by omega)
        unfold zrn
        rw [if_neg hc]
        rfl
      have i13 : x14 < x13 ↔ 2 ^ (s - 1) < m % 2 ^ s := by
        rw [e14', e13]
        exact pk_lLT (by omega) (by omega)
      have j13 : x13 = x14 ↔ m % 2 ^ s = 2 ^ (s - 1) := by
        rw [e14', e13]
        exact pk_lEQ (by omega) (by omega)
      refine ⟨fun z => up (Or.inl ?_), fun z => ⟨fun v => no ?_, fun v => ⟨fun u => no ?_, fun u => up (Or.inr ⟨?_, hbit.mp u⟩)⟩⟩⟩
      · have := i13.mp z
        omega
      · have z' : ¬ 2 ^ (s - 1) < m % 2 ^ s := fun c => z (i13.mpr c)
        have v' : ¬ m % 2 ^ s = 2 ^ (s - 1) := fun c => v (j13.mpr c)
        omega
      · have v' := j13.mp v
        intro c
        rcases c with c | c
        · omega
        · exact u (hbit.mpr c.2)
      · have v' := j13.mp v
        omega
    · rw [n11] at y
      have y' : ¬ s ≤ 62 := fun c => y ((nI_leI (b := 62) (by omega) (by decide)).mpr c)
      have hbig : (2 : Nat) ^ 63 ≤ 2 ^ s := Nat.pow_le_pow_right (by decide) (by omega)
      refine fin x18 0 e18 ?_ (by decide)
      unfold zrn
      rw [Nat.div_eq_of_lt (by omega), Nat.mod_eq_of_lt (by omega), if_neg (by omega)]
  refine ⟨fun y => ?_, fun y => ?_⟩
  · have y' := i32_le.mp y
    rw [it, i9] at y'
    exact go x9 _ i9 (by rw [if_pos y'])
  · have y' : ¬ (top : Int) + e' ≤ 1 - b := fun c => y (i32_le.mpr (by rw [it, i9]; exact c))
    exact go _ _ it (by rw [if_neg y'])
theorem r7_inForm {post : Int64 → zm_M → Prop} (h : zP G Bm M0 M ι α K ρ) (r : zRn ι α K S) {a : Nat} (ha : a < 24) (ht : sT S a = true) {fr b : Nat} (f1 : 20 ≤ fr) (f2 : fr ≤ 52) (b1 : 100 ≤ b) (b2 : b ≤ 1023) (hp : ∀ (M' : zm_M) (ρ' : Nat → Nat), zP G Bm M0 M' ι α K ρ' → post (if sS S a = 0 then 0 else lN (znb (sN S a) (sD S a) (fr + 1) (1 - b - fr) ((2 * b + 1) * 2 ^ fr))) M') : pX7_inForm G Bm (nI a) (nI fr) (nI b) post M := by
  obtain ⟨a1, a2, a3, ga⟩ := zRn_a r ha ht
  obtain ⟨s1, s2, s3⟩ := zgd_s ga
  unfold pX7_inForm
  refine r7_sign h rfl ha ?_
  rw [a1]
  refine ⟨fun y => ?_, fun y => ?_⟩
  · have hN : sN S a ≠ 0 := fun c => y (s3.mp c)
    have hD := ga.1
    refine ⟨zP_o h, r7_takeN h r 2 a ha ht (fun M1 k1 => ⟨zP_o k1, r7_takeD k1 r 3 a ha ht (fun M2 k2 => ⟨zP_o k2, r7_bits k2 2 ⟨zP_o k2, r7_bits k2 3 (fun x9 e9 => ?_)⟩⟩)⟩)⟩
    have n1 := zbl_lt (sN S a)
    have n2 := zbl_ge hN
    have n3 := zbl_pos hN
    have d1 := zbl_lt (sD S a)
    have d2 := zbl_ge hD
    have d3 := zbl_pos hD
    have n4 : zbl (sN S a) ≤ 512 := zbl_n.mpr ga.2.2.2.1
    have d4 : zbl (sD S a) ≤ 512 := zbl_n.mpr ga.2.2.2.2
    have e9' : x9 = (56 : Int32) - (nI (zbl (sN S a)) - nI (zbl (sD S a))) := e9
    have i9 : x9.toInt = 56 - ((zbl (sN S a) : Int) - zbl (sD S a)) := by
      rw [e9']
      exact i32_s rfl (i32_s (nI_toInt (by omega)) (nI_toInt (by omega)) (by omega) (by omega)) (by omega) (by omega)
    -- with the two shifted
    have go : ∀ (i j : Nat) (M' : zm_M) (ρ' : Nat → Nat), (i : Int) - j = 56 - ((zbl (sN S a) : Int) - zbl (sD S a)) → i ≤ 600 → j ≤ 600 → zP G Bm M0 M' ι α K ρ' → ρ' 2 = sN S a * 2 ^ i → ρ' 3 = sD S a * 2 ^ j → pX7_inForm_64 G post Bm (nI fr) (nI b) x9 M' := by
      intro i j M' ρ' hij hi hj k' e2 e3
      have hC : 0 < sD S a * 2 ^ j := Nat.mul_pos (Nat.pos_of_ne_zero hD) (Nat.two_pow_pos j)
      have hCl : sD S a * 2 ^ j < 4294967296 ^ 71 := by
        have := p2_36 ga.2.2.2.2 (k := j) (by omega)
        exact Nat.lt_trans this (Nat.pow_lt_pow_right (by decide) (by decide))
      -- how large the quotient is
      have lo : 2 ^ 55 ≤ sN S a * 2 ^ i / (sD S a * 2 ^ j) := by
        rw [Nat.le_div_iff_mul_le hC]
        have g1 : 2 ^ (zbl (sN S a) - 1 + i) ≤ sN S a * 2 ^ i := by
          rw [Nat.pow_add]
          exact Nat.mul_le_mul_right _ n2
        have g2 : 2 ^ 55 * (sD S a * 2 ^ j) ≤ 2 ^ (55 + (zbl (sD S a) + j)) := by
          rw [Nat.pow_add, Nat.pow_add]
          exact Nat.mul_le_mul_left _ (Nat.mul_le_mul_right _ (Nat.le_of_lt d1))
        rw [show 55 + (zbl (sD S a) + j) = zbl (sN S a) - 1 + i by omega] at g2
        exact Nat.le_trans g2 g1
      have hi57 : sN S a * 2 ^ i / (sD S a * 2 ^ j) < 2 ^ 57 := by
        rw [Nat.div_lt_iff_lt_mul hC]
        have g1 : sN S a * 2 ^ i < 2 ^ (zbl (sN S a) + i) := by
          rw [Nat.pow_add]
          exact Nat.mul_lt_mul_of_pos_right n1 (Nat.two_pow_pos i)
        have g2 : 2 ^ (57 + (zbl (sD S a) - 1 + j)) ≤ 2 ^ 57 * (sD S a * 2 ^ j) := by
          rw [Nat.pow_add, Nat.pow_add]
          exact Nat.mul_le_mul_left _ (Nat.mul_le_mul_right _ d2)
        rw [show 57 + (zbl (sD S a) - 1 + j) = zbl (sN S a) + i by omega] at g2
        exact Nat.lt_of_lt_of_le g1 g2
      unfold pX7_inForm_64
      refine ⟨zP_o k', r7_divide k' 4 5 2 3 (by rw [e3]; exact hC) (by rw [e3]; exact hCl) (fun M3 k3 => ⟨zP_o k3, r7_asLong k3 4 ?_ ?_⟩)⟩
      · show ρ' 2 / ρ' 3 < _
        rw [e2, e3]
        omega
      · have v4 : rgu (rgu ρ' 4 (ρ' 2 / ρ' 3)) 5 (ρ' 2 % ρ' 3) 4 = sN S a * 2 ^ i / (sD S a * 2 ^ j) := by
          show ρ' 2 / ρ' 3 = _
          rw [e2, e3]
        have v5 : rgu (rgu ρ' 4 (ρ' 2 / ρ' 3)) 5 (ρ' 2 % ρ' 3) 5 = sN S a * 2 ^ i % (sD S a * 2 ^ j) := by
          show ρ' 2 % ρ' 3 = _
          rw [e2, e3]
        rw [v4]
        generalize hA : sN S a * 2 ^ i = A at *
        generalize hCC : sD S a * 2 ^ j = C at *
        have hp3 := hp M3 _ k3
        rw [if_neg y] at hp3
        have last : ∀ (x : Int64) (σ : Nat), x = lN σ → σ = (if A % C = 0 then 0 else 1) → pX7_inForm_93 G post (nI fr) (nI b) x9 (lN (A / C) <<< ((1 : Int32).toInt64 &&& 63)) x M3 := by
          intro x σ hx hσ
          have hσ1 : σ ≤ 1 := by rw [hσ]; split <;> omega
          unfold pX7_inForm_93
          intro x16 e16
          have em : x16 = lN (2 * (A / C) + σ) := by
            rw [e16, hx]
            have ec : lN (A / C) <<< ((1 : Int32).toInt64 &&& 63) ||| lN σ = lN σ ||| (lN (A / C) <<< ((1 : Int32).toInt64 &&& 63)) := by
              apply uN_inj
              show (_ ||| _ : UInt64).toNat = (_ ||| _ : UInt64).toNat
              rw [UInt64.toNat_or, UInt64.toNat_or, Nat.or_comm]
            have eo : uN (lN (A / C) <<< ((1 : Int32).toInt64 &&& 63) ||| lN σ) = (2 * uN (lN (A / C))) % 18446744073709551616 + uN (lN σ) := uN_or (by rw [uN_lN (by omega)]; omega)
            refine lN_of ?_
            rw [eo, uN_lN (by omega), uN_lN (by omega), Nat.mod_eq_of_lt (by omega)]
          rw [em]
          have ie : (-x9 - (1 : Int32)).toInt = -((i : Int) - j) - 1 := by
            have i0 : (-x9).toInt = -((i : Int) - j) := by
              have h8 : (0 - x9 : Int32).toInt = 0 - (56 - ((zbl (sN S a) : Int) - zbl (sD S a))) := i32_s rfl i9 (by omega) (by omega)
              rw [Int32.zero_sub] at h8
              rw [h8]
              omega
            exact i32_s i0 rfl (by omega) (by omega)
          refine r7_nearest ie (by omega) (by omega) (by omega) (by omega) f1 f2 b1 b2 (fun top U s t1 t2 hU hs hs4 => ?_)
          -- the place of the first bit
          have hE : zex (sN S a) (sD S a) = (top : Int) + (-((i : Int) - j) - 1) := by
            have htop : 1 ≤ top := by
              rcases Nat.eq_zero_or_pos top with c | c
              · rw [c] at t2
                omega
              · exact c
            have pt : (2 : Nat) ^ top = 2 * 2 ^ (top - 1) := by
              rw [← Nat.pow_succ', Nat.succ_eq_add_one, show top - 1 + 1 = top by omega]
            have pt2 : (2 : Nat) ^ (top + 1) = 2 * 2 ^ top := Nat.pow_succ'
            refine zex_u hN hD ?_ ?_
            · rw [zlx_iff (a := i) (b := j + (top - 1)) (by omega), Nat.pow_add, ← Nat.mul_assoc, hA, hCC]
              have h8 : 2 ^ (top - 1) ≤ A / C := by omega
              have h9 := (Nat.le_div_iff_mul_le hC).mp h8
              rw [Nat.mul_comm] at h9
              omega
            · rw [zlx_iff (a := i) (b := j + top) (by omega), Nat.pow_add, ← Nat.mul_assoc, hA, hCC]
              have h8 : A / C < 2 ^ top := by omega
              rw [Nat.div_lt_iff_lt_mul hC, Nat.mul_comm] at h8
              exact h8
          have hU2 : zun (sN S a) (sD S a) (fr + 1) (1 - b - fr) = U := by
            unfold zun
            rw [hE, hU]
            by_cases c : (top : Int) + (-((i : Int) - j) - 1) ≤ 1 - b
            · rw [if_pos c]
              by_cases c2 : (top : Int) + (-((i : Int) - j) - 1) - ((fr + 1 : Nat) : Int) + 1 < 1 - b - fr
              · rw [if_pos c2]
              · rw [if_neg c2]
                omega
            · rw [if_neg c, if_neg (by omega)]
              omega
          have hz : zrn (sN S a * 2 ^ (-U).toNat) (sD S a * 2 ^ U.toNat) = zrn (2 * (A / C) + σ) (2 ^ s) := by
            rw [hσ, ← zrn_m hC (by omega)]
            refine zrn_x (Nat.mul_pos (Nat.pos_of_ne_zero hD) (Nat.two_pow_pos _)) (Nat.mul_pos hC (Nat.two_pow_pos _)) ?_
            rw [← hA, ← hCC]
            have e5 : sN S a * 2 ^ (-U).toNat * (sD S a * 2 ^ j * 2 ^ s) = sN S a * sD S a * 2 ^ ((-U).toNat + j + s) := by
              rw [Nat.pow_add, Nat.pow_add]
              simp only [Nat.mul_assoc, Nat.mul_comm, Nat.mul_left_comm]
            have e6 : 2 * (sN S a * 2 ^ i) * (sD S a * 2 ^ U.toNat) = sN S a * sD S a * 2 ^ (1 + i + U.toNat) := by
              rw [Nat.pow_add, Nat.pow_add, Nat.pow_one]
              simp only [Nat.mul_assoc, Nat.mul_comm, Nat.mul_left_comm]
            rw [e5, e6]
            congr 2
            omega
          unfold znb at hp3
          rw [hU2, hz] at hp3
          exact hp3
        refine r7_np k3 5 (fun z => last 0 0 rfl ?_) (fun z => last 1 1 rfl ?_)
        · rw [v5] at z
          rw [if_pos z]
        · rw [v5] at z
          rw [if_neg z]
    refine ⟨fun z => ⟨zP_o k2, ?_⟩, fun z => ⟨zP_o k2, ?_⟩⟩
    · have z' : x9.toInt ≤ 0 := i32_le.mp z
      rw [i9] at z'
      obtain ⟨j, hj⟩ : ∃ j : Nat, (j : Int) = -(56 - ((zbl (sN S a) : Int) - zbl (sD S a))) := ⟨(-(56 - ((zbl (sN S a) : Int) - zbl (sD S a)))).toNat, by omega⟩
      have en : -x9 = nI j := by
        have h8 : (0 - x9 : Int32).toInt = 0 - (56 - ((zbl (sN S a) : Int) - zbl (sD S a))) := i32_s rfl i9 (by omega) (by omega)
        rw [Int32.zero_sub] at h8
        have := i32_n (x := -x9) (by omega)
        rw [this, show (-x9).toInt.toNat = j by omega]
      rw [en]
      refine r7_up k2 3 j (Nat.pos_of_ne_zero hD) (by omega) ?_ (fun M3 k3 => go 0 j M3 _ (by omega) (by decide) (by omega) k3 ?_ rfl)
      · have := p2_36 ga.2.2.2.2 (k := j) (by omega)
        exact Nat.lt_trans this (Nat.pow_lt_pow_right (by decide) (by decide))
      · show sN S a = sN S a * 2 ^ 0
        rw [Nat.pow_zero, Nat.mul_one]
    · have z' : ¬ x9.toInt ≤ 0 := fun c => z (i32_le.mpr c)
      rw [i9] at z'
      obtain ⟨i, hi⟩ : ∃ i : Nat, (i : Int) = 56 - ((zbl (sN S a) : Int) - zbl (sD S a)) := ⟨(56 - ((zbl (sN S a) : Int) - zbl (sD S a))).toNat, by omega⟩
      have en : x9 = nI i := by
        have := i32_n (x := x9) (by omega)
        rw [this, show x9.toInt.toNat = i by omega]
      have hup := r7_up (post := fun M19 => pX7_inForm_64 G post Bm (nI fr) (nI b) x9 M19) k2 2 i (Nat.pos_of_ne_zero hN) (by omega) (by
        have := p2_36 ga.2.2.2.1 (k := i) (by omega)
        exact Nat.lt_trans this (Nat.pow_lt_pow_right (by decide) (by decide))) (fun M3 k3 => go i 0 M3 _ (by omega) (by omega) (by decide) k3 rfl (by
        show sD S a = sD S a * 2 ^ 0
        rw [Nat.pow_zero, Nat.mul_one]))
      rw [← en] at hup
      exact hup
  · have hp' := hp M ρ h
    rw [if_pos y] at hp'
    exact hp'
theorem m7_real {post : Int64 → zm_M → Prop} (h : zRM G Bm M0 M S t) {x : Int32} (hp : ∀ M', zRM G Bm M0 M' (zo_real S x).2 0 → post (zo_real S x).1 M') : pX7_real G Bm x post M := by
  obtain ⟨ι, α, K, ρ, h, r, _⟩ := h
  unfold zo_real at hp
  unfold pX7_real
  refine r7_thr h (fun M1 k1 => ?_)
  have r1 : zRn (upd ι 0 0) α K S := zRn_ι r (pk_un (by decide)) (pk_un (by decide))
  refine ⟨zP_o k1, r7_isNumber k1 r1 (fun e => ⟨fun y => absurd rfl y, fun _ => ?_⟩) (fun a e ha ht hx => ⟨fun _ => ⟨zP_o k1, ?_⟩, fun y => absurd y (by decide)⟩)⟩
  · rw [e] at hp
    exact hp M1 ⟨_, _, _, _, k1, r1, pk_us⟩
  · rw [e] at hp
    simp only at hp
    subst hx
    obtain ⟨a1, a2, a3, ga⟩ := zRn_a r1 ha ht
    refine r7_inForm (fr := 52) (b := 1023) k1 r1 ha ht (by decide) (by decide) (by decide) (by decide) (fun M2 ρ2 k2 => r7_sign k2 rfl ha ?_)
    have hp2 := hp M2 ⟨_, _, _, _, k2, r1, pk_us⟩
    rw [a1]
    have einf : (2 * 1023 + 1) * 2 ^ 52 = 9218868437227405312 := by decide
    have el : (1 : Int) - (1023 : Nat) - (52 : Nat) = -1074 := by decide
    rw [einf, el]
    by_cases c0 : sS S a = 0
    · rw [if_pos c0] at hp2 ⊢
      rw [c0]
      exact ⟨fun _ => hp2, fun y => absurd (by decide) y⟩
    · rw [if_neg c0] at hp2 ⊢
      refine ⟨fun y => ?_, fun y => ?_⟩
      · rw [if_pos y] at hp2
        rw [Int64.or_zero]
        exact hp2
      · rw [if_neg y] at hp2
        exact hp2
theorem m7_single {post : Int32 → zm_M → Prop} (h : zRM G Bm M0 M S t) {x : Int32} (hp : ∀ M', zRM G Bm M0 M' (zo_single S x).2 0 → post (zo_single S x).1 M') : pX7_single G Bm x post M := by
  obtain ⟨ι, α, K, ρ, h, r, _⟩ := h
  unfold zo_single at hp
  unfold pX7_single
  refine r7_thr h (fun M1 k1 => ?_)
  have r1 : zRn (upd ι 0 0) α K S := zRn_ι r (pk_un (by decide)) (pk_un (by decide))
  refine ⟨zP_o k1, r7_isNumber k1 r1 (fun e => ⟨fun y => absurd rfl y, fun _ => ?_⟩) (fun a e ha ht hx => ⟨fun _ => ⟨zP_o k1, ?_⟩, fun y => absurd y (by decide)⟩)⟩
  · rw [e] at hp
    exact hp M1 ⟨_, _, _, _, k1, r1, pk_us⟩
  · rw [e] at hp
    simp only at hp
    subst hx
    obtain ⟨a1, a2, a3, ga⟩ := zRn_a r1 ha ht
    refine r7_inForm (fr := 23) (b := 127) k1 r1 ha ht (by decide) (by decide) (by decide) (by decide) (fun M2 ρ2 k2 => r7_sign k2 rfl ha ?_)
    have hp2 := hp M2 ⟨_, _, _, _, k2, r1, pk_us⟩
    rw [a1]
    have einf : (2 * 127 + 1) * 2 ^ 23 = 2139095040 := by decide
    have el : (1 : Int) - (127 : Nat) - (23 : Nat) = -149 := by decide
    rw [einf, el]
    by_cases c0 : sS S a = 0
    · rw [if_pos c0] at hp2 ⊢
      rw [c0]
      exact ⟨fun _ => hp2, fun y => absurd (by decide) y⟩
    · rw [if_neg c0] at hp2 ⊢
      refine ⟨fun y => ?_, fun y => ?_⟩
      · rw [if_pos y] at hp2
        rw [Int64.or_zero]
        exact hp2
      · rw [if_neg y] at hp2
        exact hp2
end R82
