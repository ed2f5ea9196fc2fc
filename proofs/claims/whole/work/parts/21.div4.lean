/-! ===== WIDE: divide's loop ===== -/
theorem zdv_split {u n k : Nat} {f : Nat → Int32} (hu : k + n ≤ u) (hX : zs (fun i => uI (f i)) u < 4294967296 ^ (k + n + 1)) : zs (fun i => uI (f i)) u = zs (fun i => uI (f i)) k + 4294967296 ^ k * (zs (fun i => uI (f (k + i))) n + zld u f ((k + n : Nat) : Int) * 4294967296 ^ n) := by
  have h0 : zs (fun i => uI (f i)) (k + n) = zs (fun i => uI (f i)) k + 4294967296 ^ k * zs (fun i => uI (f (k + i))) n := zs_add k n
  rcases Nat.lt_or_ge (k + n) u with z | z
  · rw [zld_n z]
    obtain ⟨e, rfl⟩ : ∃ e, u = k + n + 1 + e := ⟨u - (k + n + 1), by omega⟩
    rw [zs_up e (fun j h1 h2 => ?_), zs_step, h0, Nat.mul_add, Nat.pow_add]
    · rw [Nat.add_assoc]
      congr 2
      rw [Nat.mul_left_comm]
    · have h3 := zs_dig (d := fun i => uI (f i)) (n := k + n + 1 + e) (i := j) (fun _ _ => uI_lt _) h2
      rw [← h3, Nat.div_eq_of_lt (Nat.lt_of_lt_of_le hX (Nat.pow_le_pow_right (by decide) h1))]
  · have e : u = k + n := by omega
    subst e
    have h1 : zld (k + n) f ((k + n : Nat) : Int) = 0 := by
      unfold zld
      rw [if_pos (Or.inr (Int.le_refl _))]
    rw [h1, h0, Nat.zero_mul, Nat.add_zero]
theorem zdv_hi {u t j : Nat} {f : Nat → Int32} (hX : zs (fun i => uI (f i)) u < 4294967296 ^ t) (h1 : t ≤ j) (h2 : j < u) : uI (f j) = 0 := by
  have h3 := zs_dig (d := fun i => uI (f i)) (n := u) (i := j) (fun _ _ => uI_lt _) h2
  rw [← h3, Nat.div_eq_of_lt (Nat.lt_of_lt_of_le hX (Nat.pow_le_pow_right (by decide) h1))]
theorem nI_m2 {t : Nat} : nI (t + 1) - (2 : Int32) = nI t - 1 := by
  rw [← nI_1, Int32.sub_eq_add_neg, Int32.sub_eq_add_neg, Int32.add_assoc]
  rfl
theorem nI_m1' {t : Nat} : nI t + (-1 : Int32) = nI t - 1 := by rw [Int32.sub_eq_add_neg]
theorem zwd_x {G : Nat → ClassId} {M : zm_M} {w r cap u b rb capb n : Nat} {f fb : Nat → Int32} (h : zwd G M w r cap u f) (hb : zwd G M b rb capb n fb) : b ≠ r := fun e => by
  have h1 := hb.1
  rw [e, h.2.1] at h1
  cases h1
theorem q5_dvL {G : Nat → ClassId} {post : zm_M → Prop} {k156 : Nat → Nat → Int32 → zm_M → Prop} {M0 : zm_M} {w r cap u b rb capb n z rz capz s lead last V U0 : Nat} {fb : Nat → Int32} (hb0 : zwd G M0 b rb capb n fb) (hV : V = zs (fun i => uI (fb i)) n) (hn : 0 < n) (hs : s < 32) (hV1 : 4294967296 ^ n ≤ 2 * (V * 2 ^ s)) (hV2 : V * 2 ^ s < 4294967296 ^ n) (hl : lead = V * (4294967296 * 4294967296) * 2 ^ s / 4294967296 ^ n % (4294967296 * 4294967296)) (hla : last + n = u) (hcz : cap ≤ capz) (hbr : rb ≠ r) (hbz : rb ≠ rz) (hrz : r ≠ rz) (hbr' : b ≠ r) (hbz' : b ≠ rz)
    (hk : ∀ (M' : zm_M) (f' fz' : Nat → Int32), zof M0 M' r rz → zwd G M' w r cap u f' → zwd G M' z rz capz 0 fz' → zs (fun i => uI (f' i)) u < V → U0 = zs (fun i => uI (f' i)) u + zs (fun i => uI (fz' i)) (last + 1) * V → k156 w z (nI last) M') : ∀ (m : Nat) (M : zm_M) (f fz : Nat → Int32), m ≤ last + 1 → zof M0 M r rz → zwd G M w r cap u f → zwd G M z rz capz 0 fz → zs (fun i => uI (f i)) u < V * 4294967296 ^ m → U0 = zs (fun i => uI (f i)) u + zs (fun i => uI (fz (m + i))) (last + 1 - m) * 4294967296 ^ m * V → pX5_divide_58 G post k156 (m + 1) w b z (nI n) (nI s) (lN lead) (nI last) (nI m - 1) M
  | 0, M, f, fz, hm, ho, h, hz, hX, hU => by
    rw [pX5_divide_58]
    refine ⟨fun _ => hk M f fz ho h hz (by rw [Nat.pow_zero, Nat.mul_one] at hX; exact hX) ?_, fun z => absurd (by decide) z⟩
    rw [Nat.pow_zero, Nat.mul_one] at hU
    rw [hU]
    congr 3
    funext i
    rw [Nat.zero_add]
  | k + 1, M, f, fz, hm, ho, h, hz, hX, hU => by
    have hcap := h.2.2.2
    have hu := h.2.2.1
    have hczz := hz.2.2.2
    have hb : zwd G M b rb capb n fb := zwd_kept hb0 (ho.2 _ hbr' hbz') (ho.2 _ hbr hbz)
    have hwz : w ≠ rz := zwd_x hz h
    have hzr : z ≠ r := zwd_x h hz
    obtain ⟨X, hXe⟩ : ∃ X, X = zs (fun i => uI (f i)) u := ⟨_, rfl⟩
    rw [← hXe] at hX hU
    have hVn : V < 4294967296 ^ n := by rw [hV]; exact zs_lt (fun _ _ => uI_lt _)
    have hXn : X < 4294967296 ^ (k + n + 1) := by
      refine Nat.lt_of_lt_of_le hX ?_
      rw [show k + n + 1 = n + (k + 1) by omega, Nat.pow_add 4294967296 n]
      exact Nat.mul_le_mul_right _ (Nat.le_of_lt hVn)
    have hsp := zdv_split (n := n) (k := k) (f := f) (u := u) (by omega) (by rw [← hXe]; exact hXn)
    rw [← hXe] at hsp
    have hL : zs (fun i => uI (f i)) k < 4294967296 ^ k := zs_lt (fun _ _ => uI_lt _)
    have hJ : 0 < 4294967296 ^ k := Nat.pow_pos (by decide)
    obtain ⟨N, hN⟩ : ∃ N, N = zs (fun i => uI (f (k + i))) n + zld u f ((k + n : Nat) : Int) * 4294967296 ^ n := ⟨_, rfl⟩
    rw [← hN] at hsp
    have hXN : X / 4294967296 ^ k = N := by
      rw [hsp, Nat.add_mul_div_left _ _ hJ, Nat.div_eq_of_lt hL, Nat.zero_add]
    obtain ⟨pair, hpair⟩ : ∃ p, p = X * (4294967296 * 4294967296) * 2 ^ s / 4294967296 ^ (k + n + 1) % (4294967296 * 4294967296) := ⟨_, rfl⟩
    obtain ⟨third, hthird⟩ : ∃ p, p = X * (4294967296 * 4294967296) * 2 ^ s / 4294967296 ^ (k + n - 1) % (4294967296 * 4294967296) / 4294967296 := ⟨_, rfl⟩
    obtain ⟨Q, hQ⟩ : ∃ Q, Q = X / 4294967296 ^ k / V := ⟨_, rfl⟩
    obtain ⟨g1, g2, g3, g4, g5, g6, g7, g8, g9⟩ := zdv_g hn hV1 hV2 hX hpair hthird hl hQ
    rw [hXN] at hQ
    have hV0 : 0 < V := by
      rcases Nat.eq_zero_or_pos V with y | y
      · rw [y] at hX; simp at hX
      · exact y
    have hdm : V * Q + N % V = N := by rw [hQ]; exact Nat.div_add_mod N V
    have hml : N % V < V := Nat.mod_lt _ hV0
    -- the end of the step
    have fin : ∀ (M' : zm_M) (f' : Nat → Int32), zof M M' r r → zwd G M' w r cap u f' → (∀ i, i < k → f' i = f i) → (∀ i, k + n ≤ i → f' i = f i) → zs (fun i => uI (f' (k + i))) n = N % V → pX5_divide_133 G post (pX5_divide_58 G post k156 (k + 1)) w b z (nI n) (nI s) (lN lead) (nI last) (nI k) (lN Q) M' := by
      intro M' f' ho' h' h1 h2 h3
      have hz' : zwd G M' z rz capz 0 fz := zwd_kept hz (ho'.2 _ hzr hzr) (ho'.2 _ (Ne.symm hrz) (Ne.symm hrz))
      -- behind the first put
      have fin2 : ∀ (M'' : zm_M) (f'' : Nat → Int32), zof M M'' r r → zwd G M'' w r cap u f'' → zwd G M'' z rz capz 0 fz → (∀ i, i < k + n → f'' i = f' i) → (∀ i, k + n ≤ i → i < u → uI (f'' i) = 0) → (zw_ob M'' z 8 ∧ pX5_put G z (nI k) (lN Q) (fun M23 => ∀ x24 : Int32, x24 = nI k + (-1 : Int32) → (pX5_divide_58 G post k156 (k + 1) w b z (nI n) (nI s) (lN lead) (nI last) x24 M23)) M'') := by
        intro M'' f'' ho2 h4 hz2 h5 h6
        refine ⟨zwd_ob hz2, q5_put hz2 (by omega) (fun x24 e24 => ?_)⟩
        rw [e24, nI_m1']
        have hX' : zs (fun i => uI (f'' i)) u = zs (fun i => uI (f i)) k + 4294967296 ^ k * (N % V) := by
          obtain ⟨e, he⟩ : ∃ e, u = k + n + e := ⟨u - (k + n), by omega⟩
          have e1 : zs (fun i => uI (f'' i)) u = zs (fun i => uI (f'' i)) (k + n) := by
            rw [he]
            exact zs_up e (fun j y1 y2 => h6 j y1 (by omega))
          rw [e1, zs_add k n, zs_congr (d := fun i => uI (f'' i)) (d' := fun i => uI (f i)) (fun i hi => by rw [h5 i (by omega), h1 i hi]), zs_congr (d := fun j => uI (f'' (k + j))) (d' := fun j => uI (f' (k + j))) (fun i hi => by rw [h5 _ (by omega)]), h3]
        have hm2 : 4294967296 ^ k * (N % V + 1) ≤ 4294967296 ^ k * V := Nat.mul_le_mul_left _ hml
        rw [Nat.mul_add, Nat.mul_one] at hm2
        refine q5_dvL hb0 hV hn hs hV1 hV2 hl hla hcz hbr hbz hrz hbr' hbz' hk k _ f'' (upd fz k (lN Q).toInt32) (by omega) ⟨?_, fun q y1 y2 => ?_⟩ (zwd_kept h4 (zm_set_n _ _ hwz) (zm_set_n _ _ hrz)) (zwd_setR hz2) ?_ ?_
        · exact ho2.1.trans ho.1
        · rw [zm_set_n _ _ y2, ho2.2 q y1 y1, ho.2 q y1 y2]
        · rw [hX', Nat.mul_comm V]
          omega
        · rw [hX', hU, hsp]
          obtain ⟨t, ht⟩ : ∃ t, last + 1 - k = t + 1 := ⟨last - k, by omega⟩
          have ht2 : last + 1 - (k + 1) = t := by omega
          have e0 : uI (upd fz k (lN Q).toInt32 (k + 0)) = Q := by
            show uI (upd fz k (lN Q).toInt32 k) = Q
            rw [pk_us, uI_lN (by omega), Nat.mod_eq_of_lt g5]
          rw [ht, ht2, zs_sft, e0, zs_congr (d := fun j => uI (upd fz k (lN Q).toInt32 (k + (1 + j)))) (d' := fun i => uI (fz (k + 1 + i))) (fun i _ => by rw [pk_un (by omega), show k + (1 + i) = k + 1 + i by omega])]
          generalize zs (fun i => uI (fz (k + 1 + i))) t = T
          rw [Nat.pow_succ, ← hdm]
          have e1 : (V * Q + N % V) % V = N % V := by rw [hdm]
          rw [e1, Nat.mul_add, Nat.add_mul, Nat.add_mul]
          have e2 : 4294967296 ^ k * (V * Q) = Q * 4294967296 ^ k * V := by rw [Nat.mul_comm V Q, ← Nat.mul_assoc, Nat.mul_comm (4294967296 ^ k) Q]
          have e3 : T * (4294967296 ^ k * 4294967296) * V = 4294967296 * T * 4294967296 ^ k * V := by rw [Nat.mul_comm (4294967296 ^ k), ← Nat.mul_assoc, Nat.mul_comm T]
          omega
      unfold pX5_divide_133
      refine ⟨zwd_ob h', ?_⟩
      rw [nI_add]
      have h6 : ∀ i, k + n < i → i < u → uI (f i) = 0 := fun i y1 y2 => zdv_hi (u := u) (t := k + n + 1) (by rw [← hXe]; exact hXn) y1 y2
      rcases Nat.lt_or_ge (k + n) cap with y | y
      · refine q5_put h' y (fin2 _ (upd f' (k + n) (0 : Int64).toInt32) (zof_t ho' zof_r) (zwd_setR h') (zwd_kept hz' (zm_set_n _ _ hzr) (zm_set_n _ _ (Ne.symm hrz))) (fun i hi => pk_un (by omega)) (fun i y1 y2 => ?_))
        by_cases e : i = k + n
        · rw [e, pk_us]
          decide
        · rw [pk_un e, h2 i y1]
          exact h6 i (by omega) y2
      · exact q5_putO h' y (by omega) (fin2 _ f' ho' h' hz' (fun _ _ => rfl) (fun i y1 y2 => by omega))
    rw [nI_pred, pX5_divide_58]
    refine ⟨fun z => absurd (i32_lt.mp z) (by rw [nI_toInt (by omega)]; omega), fun _ => ⟨zwd_ob h, ?_⟩⟩
    rw [nI_add]
    obtain ⟨t, ht⟩ : ∃ t, k + n = t + 1 := ⟨k + n - 1, by omega⟩
    have e1 : nI (k + n) - (2 : Int32) = nI (k + n - 1) - 1 := by rw [ht, nI_m2]; rfl
    have e2 : nI (k + n) = nI (k + n + 1) - 1 := (nI_pred _).symm
    rw [e1]
    refine q5_pair h hXe (by omega) hs (fun x15 e15 => ⟨zwd_ob h, ?_⟩)
    rw [e2]
    refine q5_pair h hXe (by omega) hs ?_
    rw [lN_sh32 (Nat.mod_lt _ (by decide)), ← hthird] at e15
    have hlb : lead < 18446744073709551616 := by rw [hl]; exact Nat.mod_lt _ (by decide)
    have el : lN lead &&& (4294967295 : Int64) = lN (lead % 4294967296) := lN_of (by rw [uN_lo, uN_lN hlb])
    rw [← hpair, e15, lN_sh32 hlb, el]
    refine q5_guess g1 g2 (Nat.mod_lt _ (by decide)) g3 g4 g5 g6 g7 g8 g9 (fun q hq => ⟨zwd_ob h, ?_⟩)
    obtain ⟨hq1, hq2, hq3⟩ := hq
    refine q5_take h hb hV hbr hq3 (by omega) (fun M' f' c ho' h' h1 h2 h3 => ?_)
    have hl' : zs (fun i => uI (f' (k + i))) n < 4294967296 ^ n := zs_lt (fun _ _ => uI_lt _)
    by_cases hc : zld u f ((k + n : Nat) : Int) < c
    · rw [if_pos hc]
      have hqQ : q = Q + 1 := by
        rcases Nat.lt_or_ge Q q with y | y
        · omega
        · exfalso
          have e : q = Q := by omega
          subst e
          obtain ⟨e, rfl⟩ : ∃ e, c = zld u f ((k + n : Nat) : Int) + 1 + e := ⟨c - (zld u f ((k + n : Nat) : Int) + 1), by omega⟩
          rw [Nat.add_mul, Nat.add_mul, Nat.one_mul] at h3
          rw [Nat.mul_comm V] at hdm
          omega
      refine ⟨fun z => absurd rfl z, fun _ => ⟨zwd_ob h', q5_putBack h' (zwd_kept hb (ho'.2 _ hbr' hbr') (ho'.2 _ hbr hbr)) hV hbr (by omega) (fun M'' f'' c' ho2 h4 hc' h5 h6 h7 x26 e26 => ?_)⟩⟩
      have e26' : x26 = lN Q := by
        rw [e26, hqQ]
        refine lN_of ?_
        rw [uN_sub, uN_lN (by omega), uN_1]
        omega
      rw [e26']
      have hl'' : zs (fun i => uI (f'' (k + i))) n < 4294967296 ^ n := zs_lt (fun _ _ => uI_lt _)
      refine fin M'' f'' (zof_t ho' ho2) h4 (fun i hi => (h5 i hi).trans (h1 i hi)) (fun i hi => (h6 i hi).trans (h2 i hi)) ?_
      -- both are below B^n and differ by a multiple of it
      obtain ⟨e, rfl⟩ : ∃ e, c = zld u f ((k + n : Nat) : Int) + e := ⟨c - zld u f ((k + n : Nat) : Int), by omega⟩
      rw [hqQ, Nat.add_mul, Nat.one_mul, Nat.add_mul] at h3
      rw [Nat.mul_comm V] at hdm
      have hee : zs (fun i => uI (f'' (k + i))) n + c' * 4294967296 ^ n = N % V + e * 4294967296 ^ n := by omega
      have h9 := congrArg (· % 4294967296 ^ n) hee
      simp only [Nat.add_mul_mod_self_right] at h9
      rw [Nat.mod_eq_of_lt hl'', Nat.mod_eq_of_lt (by omega)] at h9
      exact h9
    · rw [if_neg hc]
      obtain ⟨e, he⟩ : ∃ e, zld u f ((k + n : Nat) : Int) = c + e := ⟨zld u f ((k + n : Nat) : Int) - c, by omega⟩
      rw [he, Nat.add_mul] at hN
      have hqQ : q = Q := by
        rcases Nat.lt_or_ge Q q with y | y
        · exfalso
          have e : q = Q + 1 := by omega
          rw [e, Nat.add_mul, Nat.one_mul] at h3
          rw [Nat.mul_comm V] at hdm
          omega
        · omega
      rw [hqQ]
      refine ⟨fun _ => fin M' f' ho' h' h1 h2 ?_, fun z => absurd z (by decide)⟩
      rw [hqQ] at h3
      rw [Nat.mul_comm V] at hdm
      rcases Nat.eq_zero_or_pos e with y | y
      · rw [y, Nat.zero_mul] at hN
        omega
      · have : 1 * 4294967296 ^ n ≤ e * 4294967296 ^ n := Nat.mul_le_mul_right _ y
        omega
/-- divide: this becomes the rest, the quotient goes to z -/
theorem q5_divide {G : Nat → ClassId} {M : zm_M} {w r cap b rb capb z rz capz uz U V : Nat} {fz0 : Nat → Int32} (h : zwv G M w r cap U) (hb : zwv G M b rb capb V) (hz : zwd G M z rz capz uz fz0) (hcz : cap ≤ capz) (hbr : rb ≠ r) (hbz : rb ≠ rz) (hrz : r ≠ rz) (hwz : w ≠ z) (hbzz : b ≠ z) (hwb : w ≠ b) {post : zm_M → Prop} (hp : ∀ M', M'.1 = M.1 → (∀ q, q ≠ w → q ≠ r → q ≠ z → q ≠ rz → M'.2 q = M.2 q) → zwv G M' w r cap (U % V) → zwv G M' z rz capz (U / V) → post M') : pX5_divide G w b z post M := by
  unfold pX5_divide
  refine ⟨zwd_ob hz, q5_clear hz (fun M1 ho1 hz1 => ?_)⟩
  obtain ⟨u, f, hw, hU, hut⟩ := h
  obtain ⟨n, fb, hbb, hV, hnt⟩ := hb
  have hwrz : w ≠ rz := zwd_x hz hw
  have hzr : z ≠ r := zwd_x hw hz
  have hbrz : b ≠ rz := zwd_x hz hbb
  have hbr' : b ≠ r := zwd_x hw hbb
  have hrbz : rb ≠ z := Ne.symm (zwd_x hbb hz)
  have hw1 : zwd G M1 w r cap u f := zwd_kept hw (ho1.2 _ hwz hwrz) (ho1.2 _ (Ne.symm hzr) hrz)
  have hb1 : zwd G M1 b rb capb n fb := zwd_kept hbb (ho1.2 _ hbzz hbrz) (ho1.2 _ hrbz hbz)
  have hcap := hw1.2.2.2
  have hu := hw1.2.2.1
  have hcb := hb1.2.2.2
  have hun := hb1.2.2.1
  have hcapz := hz1.2.2.2
  have hvw : zwv G M1 w r cap U := ⟨u, f, hw1, hU, hut⟩
  have hnn : nI n = (0 : Int32) ↔ n = 0 := nI_eq (a := n) (b := 0) (by omega) (by decide)
  refine ⟨_, _, hb1.1, rfl, fun y => ?_, fun y0 => ⟨zwd_ob hw1, ?_⟩⟩
  · have e : n = 0 := hnn.mp y
    have hV' : V = 0 := by rw [hV, e]; rfl
    refine hp M1 ho1.1 (fun q y1 y2 y3 y4 => ho1.2 q y3 y4) ?_ ?_
    · rw [hV', Nat.mod_zero]
      exact hvw
    · rw [hV', Nat.div_zero]
      exact ⟨0, fz0, hz1, rfl, fun y => absurd y (by decide)⟩
  have hn0 : n ≠ 0 := fun e => y0 (hnn.mpr e)
  have hV0 : V ≠ 0 := fun e => hn0 ((zwv_u0 hnt).mp (hV.symm.trans e))
  have hvb : zwv G M1 b rb capb V := ⟨n, fb, hb1, hV, hnt⟩
  refine q5_order hvw hvb ?_
  rcases Nat.lt_or_ge U V with hlt | hge
  · rw [if_pos hlt]
    refine ⟨fun y => absurd y (by decide), fun _ => hp M1 ho1.1 (fun q y1 y2 y3 y4 => ho1.2 q y3 y4) ?_ ?_⟩
    · rw [Nat.mod_eq_of_lt hlt]
      exact hvw
    · rw [Nat.div_eq_of_lt hlt]
      exact ⟨0, fz0, hz1, rfl, fun y => absurd y (by decide)⟩
  have hord : (0 : Int32) ≤ (if U < V then -1 else if U = V then 0 else 1) := by
    rw [if_neg (by omega)]
    by_cases y : U = V
    · rw [if_pos y]; decide
    · rw [if_neg y]; decide
  refine ⟨fun _ => ⟨zwd_ob hb1, ?_⟩, fun y => absurd hord y⟩
  obtain ⟨n', rfl⟩ : ∃ n', n = n' + 1 := ⟨n - 1, by omega⟩
  have htop : uI (fb n') ≠ 0 := fun y => hnt (by omega) (uI_z.mpr y)
  rw [show (nI (n' + 1) - (1 : Int32)) = nI n' from nI_pred n']
  refine q5_limb0 hb1 ?_
  rw [nI_toInt (by omega), zld_n (by omega)]
  have hd := uI_lt (fb n')
  refine qJ_nlz ⟨zwd_ob hb1, ?_⟩
  rw [uI_lN (by omega), Nat.mod_eq_of_lt hd]
  have hb32 : zbl (uI (fb n')) ≤ 32 := zbl_le.mpr (by omega)
  have hbp : 0 < zbl (uI (fb n')) := zbl_pos htop
  obtain ⟨s, hs⟩ : ∃ s, s = 32 - zbl (uI (fb n')) := ⟨_, rfl⟩
  rw [← hs]
  rw [show nI n' = nI (n' + 1) - 1 from (nI_pred n').symm]
  refine q5_pair hb1 hV (by omega) (by omega) ⟨_, _, hw1.1, rfl, fun x12 e12 => ?_⟩
  -- the divisor, shifted
  have hbl : zbl V = 32 * n' + zbl (uI (fb n')) := by rw [hV]; exact zbl_zs (fun _ _ => uI_lt _) htop
  have hp32 : 4294967296 ^ (n' + 1) = 2 ^ (zbl V + s) := by
    rw [show (4294967296 : Nat) = 2 ^ 32 by decide, ← Nat.pow_mul]
    congr 1
    omega
  have hV2 : V * 2 ^ s < 4294967296 ^ (n' + 1) := by
    rw [hp32, Nat.pow_add]
    exact Nat.mul_lt_mul_of_pos_right (zbl_lt V) (Nat.pow_pos (by decide))
  have hV1 : 4294967296 ^ (n' + 1) ≤ 2 * (V * 2 ^ s) := by
    have h1 := zbl_ge hV0
    have h2 : 2 * 2 ^ (zbl V - 1) = 2 ^ zbl V := by rw [Nat.mul_comm, ← Nat.pow_succ]; congr 1; omega
    rw [hp32, Nat.pow_add, ← Nat.mul_assoc]
    exact Nat.mul_le_mul_right _ (by omega)
  have hnu : n' + 1 ≤ u := by
    rcases Nat.lt_or_ge u (n' + 1) with y | y
    · exfalso
      have h1 : U < 4294967296 ^ u := by rw [hU]; exact zs_lt (fun _ _ => uI_lt _)
      have h2 := zs_top (d := fun i => uI (fb i)) (u := n' + 1) (by omega) htop
      rw [← hV, Nat.add_sub_cancel] at h2
      have h3 : 4294967296 ^ u ≤ 4294967296 ^ n' := Nat.pow_le_pow_right (by decide) (by omega)
      omega
    · exact y
  rw [pk_sub hnu] at e12
  obtain ⟨last, hlast⟩ : ∃ l, l = u - (n' + 1) := ⟨_, rfl⟩
  rw [← hlast] at e12
  have hX0 : zs (fun i => uI (f i)) u < V * 4294967296 ^ (last + 1) := by
    have h1 : zs (fun i => uI (f i)) u < 4294967296 ^ u := zs_lt (fun _ _ => uI_lt _)
    have h2 := zs_top (d := fun i => uI (fb i)) (u := n' + 1) (by omega) htop
    rw [← hV, Nat.add_sub_cancel] at h2
    have h3 : 4294967296 ^ n' * 4294967296 ^ (last + 1) ≤ V * 4294967296 ^ (last + 1) := Nat.mul_le_mul_right _ h2
    rw [← Nat.pow_add, show n' + (last + 1) = u by omega] at h3
    omega
  refine ⟨last + 2, ?_⟩
  rw [e12]
  have hst : nI last = nI (last + 1) - 1 := (nI_pred last).symm
  have key := q5_dvL (G := G) (post := post) (M0 := M1) (w := w) (r := r) (cap := cap) (u := u) (z := z) (rz := rz) (capz := capz) (U0 := U) (last := last) (s := s) (k156 := fun w27 w28 w29 M30 => zw_gi M30 w27 8 1 (fun used_31 => zw_ob M30 w27 8 ∧ pX5_trim G w27 used_31 (fun M32 => zw_ob M32 w28 8 ∧ pX5_trim G w28 (w29 + (1 : Int32)) (fun M33 => post M33) M32) M30)) hb1 hV (by omega) (by omega) hV1 hV2 rfl (by omega) hcz hbr hbz hrz hbr' hbrz (fun M' f' fz' ho2 h2 hz2 h3 h4 => ?_) (last + 1) M1 f fz0 (Nat.le_refl _) ⟨rfl, fun _ _ _ => rfl⟩ hw1 hz1 hX0 (by rw [Nat.sub_self, ← hU]; show U = U + 0 * _ * V; rw [Nat.zero_mul, Nat.zero_mul, Nat.add_zero])
  · rw [← hst] at key
    exact key
  · refine ⟨_, _, h2.1, rfl, zwd_ob h2, q5_trim h2 (by omega) (fun M3 ho3 hw3 => ?_)⟩
    have hz3 : zwd G M3 z rz capz 0 fz' := zwd_kept hz2 (ho3.2 _ (Ne.symm hwz) hzr) (ho3.2 _ (Ne.symm hwrz) (Ne.symm hrz))
    refine ⟨zwd_ob hz3, ?_⟩
    rw [nI_1]
    refine q5_trim hz3 (by omega) (fun M4 ho4 hz4 => ?_)
    obtain ⟨R, hR⟩ : ∃ R, R = zs (fun i => uI (f' i)) u := ⟨_, rfl⟩
    obtain ⟨T, hT⟩ : ∃ T, T = zs (fun i => uI (fz' i)) (last + 1) := ⟨_, rfl⟩
    rw [← hR] at h3 h4 hw3
    rw [← hT] at h4 hz4
    have hmod : U % V = R := by rw [h4, Nat.add_mul_mod_self_right, Nat.mod_eq_of_lt h3]
    have hdiv : U / V = T := by rw [h4, Nat.add_mul_div_right _ _ (by omega), Nat.div_eq_of_lt h3, Nat.zero_add]
    refine hp M4 ?_ (fun q y1 y2 y3 y4 => ?_) ?_ ?_
    · rw [ho4.1, ho3.1, ho2.1, ho1.1]
    · rw [ho4.2 q y3 y4, ho3.2 q y1 y2, ho2.2 q y2 y4, ho1.2 q y3 y4]
    · rw [hmod]
      exact zwv_kept hw3 (ho4.2 _ hwz hwrz) (ho4.2 _ (Ne.symm hzr) hrz)
    · rw [hdiv]
      exact hz4
