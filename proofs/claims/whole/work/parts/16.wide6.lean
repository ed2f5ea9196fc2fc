/-! ===== WIDE: divideBy, shiftLeft ===== -/
theorem zs_cons (d : Nat → Nat) (n : Nat) : zs d (n + 1) = d 0 + 4294967296 * zs (fun j => d (j + 1)) n := by
  have h := zs_add (d := d) 1 n
  rw [Nat.add_comm 1 n] at h
  rw [h, Nat.pow_one]
  have e : zs d 1 = d 0 := by
    show 0 + d 0 * 4294967296 ^ 0 = d 0
    omega
  rw [e]
  congr 2
  exact zs_congr (fun j _ => by rw [Nat.add_comm 1 j])
theorem lN_pair {a b : Nat} (ha : a < 4294967296) (hb : b < 4294967296) : (lN a <<< ((32 : Int32).toInt64 &&& 63) ||| lN b) = lN (a * 4294967296 + b) := by
  refine lN_of ?_
  have hs : uN (lN a <<< ((32 : Int32).toInt64 &&& 63)) = a * 4294967296 := by
    show ((lN a).toBitVec <<< (((32 : Int32).toInt64 &&& 63).toBitVec.smod 64).toNat).toNat = _
    have hk : (((32 : Int32).toInt64 &&& 63).toBitVec.smod 64).toNat = 32 := by decide +kernel
    rw [hk, BitVec.toNat_shiftLeft, Nat.shiftLeft_eq]
    have hq : (lN a).toBitVec.toNat = a := uN_lNs ha
    rw [hq]
    exact Nat.mod_eq_of_lt (by omega)
  have ho : uN (lN a <<< ((32 : Int32).toInt64 &&& 63) ||| lN b) = uN (lN a <<< ((32 : Int32).toInt64 &&& 63)) ||| uN (lN b) := UInt64.toNat_or _ _
  have h2 : a * 4294967296 = a <<< 32 := by rw [Nat.shiftLeft_eq]
  rw [ho, hs, uN_lNs hb, h2, ← Nat.shiftLeft_add_eq_or_of_lt (by exact hb)]
theorem q5_dbL {G : Nat → ClassId} {post : Int32 → zm_M → Prop} {k57 : Nat → Int64 → zm_M → Prop} {M0 : zm_M} {w r cap u v q : Nat} (hq0 : 0 < q) (hq : q < 2 ^ 31) (hv : ∀ j, u ≤ j → zdg v j = 0) (hk : ∀ (M' : zm_M) (f' : Nat → Int32), zof M0 M' w r → zwd G M' w r cap u f' → zs (fun j => uI (f' j)) u = v / q → k57 w (lN (v % q)) M') : ∀ (j : Nat) (M : zm_M) (f : Nat → Int32) (c : Nat), j ≤ u → zof M0 M w r → zwd G M w r cap u f → (∀ i, i < j → uI (f i) = zdg v i) → c < q → zs (fun i => uI (f (j + i))) (u - j) * q + c = v / 4294967296 ^ j → pX5_divideBy_16 G post k57 (j + 1) w (nI q) (lN c) (nI j - 1) M
  | 0, M, f, c, hj, ho, h, hd, hc, he => by
    rw [pX5_divideBy_16]
    refine ⟨fun _ => ?_, fun hh => absurd (show nI 0 - 1 < 0 by decide) hh⟩
    rw [Nat.pow_zero, Nat.div_one, Nat.sub_zero] at he
    have e1 : zs (fun i => uI (f (0 + i))) u = zs (fun i => uI (f i)) u := zs_congr (fun i _ => by rw [Nat.zero_add])
    rw [e1] at he
    have e2 : v / q = zs (fun i => uI (f i)) u := by
      rw [← he, Nat.add_comm, Nat.add_mul_div_right _ _ hq0, Nat.div_eq_of_lt hc, Nat.zero_add]
    have e3 : v % q = c := by
      rw [← he, Nat.add_comm, Nat.add_mul_mod_self_right]
      exact Nat.mod_eq_of_lt hc
    have h1 := hk M f ho h e2.symm
    rw [e3] at h1
    exact h1
  | j + 1, M, f, c, hj, ho, h, hd, hc, he => by
    have hcap := h.2.2.2
    have hu := h.2.2.1
    have hz := zdg_lt v j
    rw [pX5_divideBy_16, nI_pred]
    refine ⟨fun hh => absurd hh (nI_pos (by omega)), fun _ => ⟨zwd_ob h, q5_limb0 h (fun x6 e6 => ?_)⟩⟩
    rw [nI_toInt (by omega), zld_n (by omega), hd j (by omega), lN_pair (by omega) hz] at e6
    have hm : c * 4294967296 ≤ (q - 1) * 4294967296 := Nat.mul_le_mul_right _ (by omega)
    have hm2 : (q - 1) * 4294967296 + 4294967296 = q * 4294967296 := by
      have : (q - 1) * 4294967296 + 1 * 4294967296 = (q - 1 + 1) * 4294967296 := (Nat.add_mul _ _ _).symm
      rw [show q - 1 + 1 = q by omega] at this
      omega
    have hql : (nI q).toInt64 = lN q := nI_l hq
    have hne : ¬ (nI q).toInt64 = 0 := by
      rw [hql, uN_eq, uN_lNs (by omega)]
      show ¬ q = 0
      omega
    have hdv : x6 / (nI q).toInt64 = lN ((c * 4294967296 + zdg v j) / q) := by
      rw [e6, hql]
      exact pk_lDiv (by omega) hq0 (by omega)
    have hrm : x6 - x6 / (nI q).toInt64 * (nI q).toInt64 = lN ((c * 4294967296 + zdg v j) % q) := by
      rw [e6, hql]
      exact pk_lRem (by omega) hq0 (by omega)
    refine ⟨hne, zwd_ob h, ?_⟩
    rw [hdv]
    refine q5_put h (by omega) ⟨hne, fun x8 e8 x9 e9 => ?_⟩
    rw [← hdv, hrm] at e8
    have e9' : x9 = nI j - 1 := by rw [e9]; exact (Int32.sub_eq_add_neg _ _).symm
    rw [e8, e9']
    have hdl : (c * 4294967296 + zdg v j) / q < 4294967296 := (Nat.div_lt_iff_lt_mul hq0).mpr (by
      rw [Nat.mul_comm 4294967296 q]
      omega)
    refine q5_dbL hq0 hq hv hk j _ _ _ (by omega) (zof_t ho zof_r) (zwd_setR h) (fun i hi => ?_) (Nat.mod_lt _ hq0) ?_
    · rw [pk_un (by omega)]
      exact hd i (by omega)
    · obtain ⟨d, hd2⟩ : ∃ d, u - j = d + 1 := ⟨u - j - 1, by omega⟩
      have hd3 : u - (j + 1) = d := by omega
      rw [hd3] at he
      rw [hd2, zs_cons]
      have e1 : uI (upd f j (lN ((c * 4294967296 + zdg v j) / q)).toInt32 (j + 0)) = (c * 4294967296 + zdg v j) / q := by
        rw [Nat.add_zero, pk_us, uI_lN (by omega), Nat.mod_eq_of_lt hdl]
      have e2 : zs (fun i => uI (upd f j (lN ((c * 4294967296 + zdg v j) / q)).toInt32 (j + (i + 1)))) d = zs (fun i => uI (f (j + 1 + i))) d := zs_congr (fun i _ => by rw [pk_un (by omega), show j + (i + 1) = j + 1 + i by omega])
      rw [e1, e2, zdg_step v j, ← he]
      generalize zs (fun i => uI (f (j + 1 + i))) d = S
      have e3 := Nat.div_add_mod (c * 4294967296 + zdg v j) q
      generalize (c * 4294967296 + zdg v j) / q = A at *
      generalize (c * 4294967296 + zdg v j) % q = B at *
      rw [Nat.add_mul, Nat.mul_assoc, Nat.add_mul]
      rw [Nat.mul_comm q A] at e3
      have e4 : 4294967296 * (S * q) = S * q * 4294967296 := Nat.mul_comm _ _
      omega
theorem q5_divideBy {G : Nat → ClassId} {M : zm_M} {w r cap v q : Nat} (h : zwv G M w r cap v) (hq0 : 0 < q) (hq : q < 2 ^ 31) {post : Int32 → zm_M → Prop} (hp : ∀ M', zof M M' w r → zwv G M' w r cap (v / q) → post (nI (v % q)) M') : pX5_divideBy G w (nI q) post M := by
  obtain ⟨u, f, h, hv, ht⟩ := h
  have hc := h.2.2.2
  have hu := h.2.2.1
  unfold pX5_divideBy
  refine ⟨fun _ x1 e1 => ⟨_, _, h.1, rfl, fun x3 e3 => ⟨u + 1, ?_⟩⟩, fun hh => absurd (nI_lt (a := 0) hq0 hq) hh⟩
  have e1' : x1 = lN 0 := e1
  rw [e1', e3]
  have hz : ∀ j, u ≤ j → zdg v j = 0 := fun j hj => by
    have z1 := zld_v (u := u) (f := f) j
    rw [← hv] at z1
    rw [← z1]
    unfold zld
    rw [if_pos (by omega)]
  refine q5_dbL (M0 := M) (v := v) hq0 hq hz (fun M' f' ho h' he => ?_) u M f 0 (Nat.le_refl _) zof_rf h (fun i hi => ?_) hq0 ?_
  · refine ⟨_, _, h'.1, rfl, zwd_ob h', q5_trim h' hu (fun M'' h2 h3 => ?_)⟩
    have e : (lN (v % q)).toInt32 = nI (v % q) := lN_i _
    rw [e]
    rw [he] at h3
    exact hp M'' (zof_t ho h2) h3
  · have z1 := zld_v (u := u) (f := f) i
    rw [← hv, zld_n hi] at z1
    exact z1
  · rw [Nat.sub_self, hv, zs_big (fun i _ => uI_lt _) (Nat.le_refl _)]
    show 0 * q + 0 = 0
    omega
/-! shiftLeft -/
theorem zsh_dig {v b k : Nat} (hb : b < 32) : zdg (v * 2 ^ b) k = ((zdg v k * 4294967296 + (if k = 0 then 0 else zdg v (k - 1))) * 2 ^ b) % 18446744073709551616 / 4294967296 := by
  have hB : (4294967296 : Nat) = 2 ^ (32 - b) * 2 ^ b := by rw [← Nat.pow_add, show 32 - b + b = 32 by omega]
  have hp : 0 < 2 ^ b := Nat.pow_pos (by decide)
  -- the fraction below digit k
  have key : ∀ x lo P : Nat, 0 < P → lo < P → ∀ y : Nat, ((x * P + lo) * 2 ^ b) / P = x * 2 ^ b + lo * 2 ^ b / P := by
    intro x lo P hP _ _
    rw [Nat.add_mul, Nat.mul_right_comm x P, Nat.add_comm, Nat.add_mul_div_right _ _ hP, Nat.add_comm]
  cases k with
  | zero =>
    rw [if_pos rfl, Nat.add_zero]
    have e : zdg (v * 2 ^ b) 0 = v * 2 ^ b % 4294967296 := by
      unfold zdg
      rw [Nat.pow_zero, Nat.div_one]
    have e2 : zdg v 0 = v % 4294967296 := by
      unfold zdg
      rw [Nat.pow_zero, Nat.div_one]
    rw [e, e2, Nat.mul_right_comm, show (18446744073709551616 : Nat) = 4294967296 * 4294967296 by decide, Nat.mul_mod_mul_right, Nat.mul_div_cancel _ (by decide), Nat.mod_mul_mod]
  | succ k =>
    rw [if_neg (by omega), show k + 1 - 1 = k by omega]
    -- v / B^k = hi * B + d_k ; take h = v / B^k
    have hP : 0 < 4294967296 ^ k := Nat.pow_pos (by decide)
    have e0 : v * 2 ^ b / 4294967296 ^ k = v / 4294967296 ^ k * 2 ^ b + v % 4294967296 ^ k * 2 ^ b / 4294967296 ^ k := by
      have h1 := key (v / 4294967296 ^ k) (v % 4294967296 ^ k) (4294967296 ^ k) hP (Nat.mod_lt _ hP) 0
      rw [Nat.mul_comm (v / 4294967296 ^ k) (4294967296 ^ k), Nat.div_add_mod] at h1
      exact h1
    have e1 : v % 4294967296 ^ k * 2 ^ b / 4294967296 ^ k < 2 ^ b := (Nat.div_lt_iff_lt_mul hP).mpr (by
      rw [Nat.mul_comm (2 ^ b)]
      exact Nat.mul_lt_mul_of_pos_right (Nat.mod_lt _ hP) hp)
    generalize v % 4294967296 ^ k * 2 ^ b / 4294967296 ^ k = x at e0 e1
    have e2 : v / 4294967296 ^ k = v / 4294967296 ^ (k + 1) * 4294967296 + zdg v k := zdg_step v k
    have e3 : v / 4294967296 ^ (k + 1) = v / 4294967296 ^ (k + 2) * 4294967296 + zdg v (k + 1) := zdg_step v (k + 1)
    have e4 : zdg (v * 2 ^ b) (k + 1) = (v / 4294967296 ^ k * 2 ^ b + x) / 4294967296 % 4294967296 := by
      unfold zdg
      rw [Nat.pow_succ, ← Nat.div_div_eq_div_mul, e0]
    rw [e4, e2, e3]
    generalize v / 4294967296 ^ (k + 2) = t
    have z1 := zdg_lt v k
    have z2 := zdg_lt v (k + 1)
    generalize zdg v k = d0 at *
    generalize zdg v (k + 1) = d1 at *
    -- (((t*B + d1)*B + d0) * 2^b + x) / B % B = ((d1*B + d0)*2^b) % B^2 / B
    have f1 : ((t * 4294967296 + d1) * 4294967296 + d0) * 2 ^ b + x = (d1 * 4294967296 + d0) * 2 ^ b + x + t * 2 ^ b * (4294967296 * 4294967296) := by
      rw [Nat.add_mul (t * 4294967296) d1, Nat.add_assoc, Nat.add_mul, Nat.mul_assoc t, Nat.mul_right_comm t]
      omega
    have f2 : (d1 * 4294967296 + d0) * 2 ^ b = (d1 * 2 ^ (32 - b) * 2 ^ b + d0) * 2 ^ b := by
      rw [Nat.mul_assoc d1, ← hB]
    have f3 : ∀ y : Nat, (y * 2 ^ b + x) / 4294967296 = y * 2 ^ b / 4294967296 := by
      intro y
      have g1 : y * 2 ^ b + x < (y + 1) * 2 ^ b := by rw [Nat.add_mul]; omega
      have g2 : (y * 2 ^ b + x) / 2 ^ b = y := by
        rw [Nat.add_comm, Nat.add_mul_div_right _ _ hp, Nat.div_eq_of_lt e1, Nat.zero_add]
      have g3 : y * 2 ^ b / 2 ^ b = y := Nat.mul_div_cancel _ hp
      rw [hB, Nat.mul_comm (2 ^ (32 - b)), ← Nat.div_div_eq_div_mul, ← Nat.div_div_eq_div_mul, g2, g3]
    rw [f1, show (18446744073709551616 : Nat) = 4294967296 * 4294967296 by decide, ← Nat.mul_assoc (t * 2 ^ b), Nat.add_mul_div_right _ _ (by decide), Nat.add_mul_mod_self_right, f3, Nat.mod_mul_right_div_self]
theorem zdg_mulL (x L k : Nat) : zdg (x * 4294967296 ^ L) k = if k < L then 0 else zdg x (k - L) := by
  unfold zdg
  by_cases h : k < L
  · rw [if_pos h]
    obtain ⟨d, rfl⟩ : ∃ d, L = k + (d + 1) := ⟨L - k - 1, by omega⟩
    rw [Nat.pow_add, Nat.mul_left_comm, Nat.mul_div_cancel_left _ (Nat.pow_pos (by decide)), Nat.pow_succ, ← Nat.mul_assoc]
    exact Nat.mul_mod_left _ _
  · rw [if_neg h]
    obtain ⟨d, rfl⟩ : ∃ d, k = L + d := ⟨k - L, by omega⟩
    rw [Nat.pow_add, ← Nat.div_div_eq_div_mul, Nat.mul_div_cancel _ (Nat.pow_pos (by decide)), show L + d - L = d by omega]
theorem zk_sh : ∀ b, b < 32 → (((nI b).toInt64 &&& 63).toBitVec.smod 64).toNat = b := by decide +kernel
theorem lN_shlb {n b : Nat} (hn : n < 18446744073709551616) (hb : b < 32) : lN n <<< ((nI b).toInt64 &&& 63) = lN (n * 2 ^ b % 18446744073709551616) := by
  refine lN_of ?_
  show ((lN n).toBitVec <<< (((nI b).toInt64 &&& 63).toBitVec.smod 64).toNat).toNat = _
  rw [zk_sh b hb, BitVec.toNat_shiftLeft, Nat.shiftLeft_eq]
  have hq : (lN n).toBitVec.toNat = n := uN_lN hn
  rw [hq]
theorem q5_shL {G : Nat → ClassId} {post : zm_M → Prop} {k82 : Nat → Int32 → zm_M → Prop} {M0 : zm_M} {w r cap u v L b n : Nat} {f0 : Nat → Int32} (hv : v = zs (fun i => uI (f0 i)) u) (hb : b < 32) (hL : L < 2 ^ 29) (hn : n ≤ cap) (hk : ∀ (M' : zm_M) (f' : Nat → Int32), zof M0 M' w r → zwd G M' w r cap u f' → zs (fun j => uI (f' j)) n = zs (zdg (v * 2 ^ b * 4294967296 ^ L)) n → k82 w (nI n) M') : ∀ (i : Nat) (M : zm_M) (f : Nat → Int32), i ≤ n → zof M0 M w r → zwd G M w r cap u f → (∀ j, j < i → f j = f0 j) → (∀ j, i ≤ j → j < n → uI (f j) = zdg (v * 2 ^ b * 4294967296 ^ L) j) → pX5_shiftLeft_38 G post k82 (i + 1) w (nI L) (nI b) (nI n) (nI i - 1) M
  | 0, M, f, hi, ho, h, h1, h2 => by
    rw [pX5_shiftLeft_38]
    exact ⟨fun _ => hk M f ho h (zs_congr (fun j hj => h2 j (Nat.zero_le _) hj)), fun hh => absurd (show nI 0 - 1 < 0 by decide) hh⟩
  | i + 1, M, f, hi, ho, h, h1, h2 => by
    have hcap := h.2.2.2
    have hu := h.2.2.1
    have e1 : (nI i - nI L).toInt = (i : Int) - L := pk_sub_toInt (by omega) (by omega)
    have e2 : (nI i - nI L - (1 : Int32)).toInt = (i : Int) - L - 1 := by
      have h3 : nI i - nI L - (1 : Int32) = nI i - nI (L + 1) := by
        rw [← nI_add, Int32.sub_eq_add_neg, Int32.sub_eq_add_neg, Int32.sub_eq_add_neg, Int32.neg_add, Int32.sub_eq_add_neg, Int32.add_assoc]
        rfl
      rw [h3, pk_sub_toInt (by omega) (by omega)]
      omega
    have hld : ∀ x : Int, x ≤ (i : Int) → zld u f x = zld u f0 x := by
      intro x hx
      unfold zld
      by_cases hc : x < 0 ∨ (u : Int) ≤ x
      · rw [if_pos hc, if_pos hc]
      · rw [if_neg hc, if_neg hc, h1 _ (by omega)]
    have z1 := zld_lt u f ((i : Int) - L)
    have z2 := zld_lt u f ((i : Int) - L - 1)
    rw [pX5_shiftLeft_38, nI_pred]
    refine ⟨fun hh => absurd hh (nI_pos (by omega)), fun _ => ⟨zwd_ob h, q5_limb0 h ⟨zwd_ob h, q5_limb0 h ⟨zwd_ob h, ?_⟩⟩⟩⟩
    rw [e1, e2, lN_pair z1 z2, lN_shlb (by omega) hb, lN_sh32 (Nat.mod_lt _ (by decide))]
    refine q5_put h (by omega) (fun x13 e13 => ?_)
    have e13' : x13 = nI i - 1 := by rw [e13]; exact (Int32.sub_eq_add_neg _ _).symm
    rw [e13']
    refine q5_shL hv hb hL hn hk i _ _ (by omega) (zof_t ho zof_r) (zwd_setR h) (fun j hj => ?_) (fun j hj1 hj2 => ?_)
    · rw [pk_un (by omega)]
      exact h1 j (by omega)
    · by_cases hji : j = i
      · subst hji
        have hml : ((zld u f ((j : Int) - L) * 4294967296 + zld u f ((j : Int) - L - 1)) * 2 ^ b) % 18446744073709551616 / 4294967296 < 4294967296 := by
          have := Nat.mod_lt ((zld u f ((j : Int) - L) * 4294967296 + zld u f ((j : Int) - L - 1)) * 2 ^ b) (show 0 < 18446744073709551616 by decide)
          omega
        rw [pk_us, uI_lN (by omega), Nat.mod_eq_of_lt hml, zdg_mulL, hld _ (by omega), hld _ (by omega)]
        by_cases hjL : j < L
        · rw [if_pos hjL]
          unfold zld
          rw [if_pos (Or.inl (by omega)), if_pos (Or.inl (by omega))]
          simp
        · rw [if_neg hjL, zsh_dig hb]
          have g1 : (j : Int) - L = ((j - L : Nat) : Int) := by omega
          rw [g1, zld_v, ← hv]
          by_cases hk0 : j - L = 0
          · rw [if_pos hk0, hk0]
            have g2 : zld u f0 (((0 : Nat) : Int) - 1) = 0 := by
              unfold zld
              rw [if_pos (Or.inl (by omega))]
            rw [g2]
          · rw [if_neg hk0]
            have g2 : ((j - L : Nat) : Int) - 1 = ((j - L - 1 : Nat) : Int) := by omega
            rw [g2, zld_v, ← hv]
      · rw [pk_un hji]
        exact h2 j (by omega) hj2
theorem q5_shiftLeft {G : Nat → ClassId} {M : zm_M} {w r cap v s : Nat} (h : zwv G M w r cap v) (hs0 : 0 < s) (hs31 : s < 2 ^ 31) (hs : v * 2 ^ s < 4294967296 ^ cap) {post : zm_M → Prop} (hp : ∀ M', zof M M' w r → zwv G M' w r cap (v * 2 ^ s) → post M') : pX5_shiftLeft G w (nI s) post M := by
  obtain ⟨u, f, h, hv, ht⟩ := h
  have hc := h.2.2.2
  have hu := h.2.2.1
  have hvl : v < 4294967296 ^ u := by rw [hv]; exact zs_lt (fun i _ => uI_lt _)
  have hsplit : v * 2 ^ s = v * 2 ^ (s % 32) * 4294967296 ^ (s / 32) := by
    have h1 : (4294967296 : Nat) ^ (s / 32) = 2 ^ (32 * (s / 32)) := by rw [Nat.pow_mul]
    rw [h1, Nat.mul_assoc, ← Nat.pow_add, show s % 32 + 32 * (s / 32) = s by omega]
  unfold pX5_shiftLeft
  refine ⟨fun _ x1 e1 x2 e2 => ⟨_, _, h.1, rfl, _, _, h.1, rfl, _, h.2.1, fun x6 e6 x7 e7 => ?_⟩, fun hh => absurd (nI_lt (a := 0) hs0 hs31) hh⟩
  have e1' : x1 = nI (s / 32) := by
    rw [e1]
    exact pk_shrN hs31 _ 5 (by decide)
  have e2' : x2 = nI (s % 32) := by
    rw [e2]
    exact pk_andN (by omega) 5 (by decide)
  obtain ⟨n, hn1, hn2, hns⟩ : ∃ n, x6 = nI n ∧ n ≤ cap ∧ v * 2 ^ s < 4294967296 ^ n := by
    rw [e6, e1', nI_add, nI_1]
    show ∃ n, (if nI cap < nI (u + s / 32 + 1) then nI cap else nI (u + s / 32 + 1)) = nI n ∧ _
    by_cases z : cap < u + s / 32 + 1
    · rw [if_pos (nI_lt z (by omega))]
      exact ⟨cap, rfl, Nat.le_refl _, hs⟩
    · rw [if_neg (nI_nlt (by omega) (by omega))]
      refine ⟨u + s / 32 + 1, rfl, by omega, ?_⟩
      rw [hsplit, show u + s / 32 + 1 = (u + 1) + s / 32 by omega, Nat.pow_add]
      apply Nat.mul_lt_mul_of_pos_right _ (Nat.pow_pos (by decide))
      rw [Nat.pow_succ]
      have h3 : 2 ^ (s % 32) ≤ 2 ^ 31 := Nat.pow_le_pow_right (by decide) (by omega)
      exact Nat.lt_of_le_of_lt (Nat.mul_le_mul_left v h3) (by omega)
  refine ⟨n + 1, ?_⟩
  rw [e7, e1', e2', hn1]
  refine q5_shL (M0 := M) (f0 := f) (v := v) (n := n) hv (Nat.mod_lt _ (by decide)) (by omega) hn2 (fun M' f' ho h' he => ?_) n M f (Nat.le_refl _) zof_rf h (fun _ _ => rfl) (fun j h1 h2 => absurd h2 (by omega))
  refine ⟨zwd_ob h', q5_trim h' hn2 (fun M'' h2 h3 => hp M'' (zof_t ho h2) ?_)⟩
  rw [he, ← hsplit, zs_zdg' hns] at h3
  exact h3
theorem q5_shiftLeft0 {G : Nat → ClassId} {M : zm_M} {w : Nat} {x : Int32} (hx : ¬ 0 < x) {post : zm_M → Prop} (hp : post M) : pX5_shiftLeft G w x post M := by
  unfold pX5_shiftLeft
  exact ⟨fun h => absurd h hx, fun _ => hp⟩
