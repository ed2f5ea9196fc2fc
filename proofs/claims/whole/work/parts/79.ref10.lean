/-! ===== THE REFERENCE'S CALLS: best ===== -/
theorem zmx_x {s : Int32} {N D : Nat} (h : zgd s N D) : (zmx s (zhd s N D) (zrs s N D) D).2 = N ∧ (N ≠ 0 → (zmx s (zhd s N D) (zrs s N D) D).1 = s) := by
  have hD : 0 < D := Nat.pos_of_ne_zero h.1
  have hdm := Nat.div_add_mod N D
  rw [Nat.mul_comm] at hdm
  have hm := Nat.mod_lt N hD
  obtain ⟨s1, s2, s3⟩ := zgd_s h
  by_cases c : s < 0
  · have hs := s1 c
    have hN : N ≠ 0 := fun q => by
      rw [s3.mp q] at c
      exact absurd c (by decide)
    by_cases c2 : N % D ≠ 0
    · have eh : zhd s N D = N / D + 1 := if_pos ⟨c, c2⟩
      have er : zrs s N D = D - N % D := if_pos ⟨c, c2⟩
      have e : (N / D + 1) * D = N / D * D + D := by rw [Nat.add_mul, Nat.one_mul]
      rw [eh, er]
      unfold zmx zsum
      rw [if_neg (by omega), hs, if_neg (by decide), if_neg (by omega)]
      exact ⟨by show (N / D + 1) * D - (D - N % D) = N; omega, fun _ => rfl⟩
    · have eh : zhd s N D = N / D := if_neg (fun q => c2 q.2)
      have er : zrs s N D = N % D := if_neg (fun q => c2 q.2)
      rw [eh, er]
      unfold zmx zsum
      rw [if_neg (by omega), hs, if_neg (by decide), if_neg (by omega)]
      exact ⟨by show N / D * D - N % D = N; omega, fun _ => rfl⟩
  · have eh : zhd s N D = N / D := if_neg (fun q => c q.1)
    have er : zrs s N D = N % D := if_neg (fun q => c q.1)
    rw [eh, er]
    unfold zmx zsum
    by_cases c2 : N / D * D = 0
    · rw [if_pos c2]
      exact ⟨by show N % D = N; omega, fun hN => (s2 c hN).symm⟩
    · rw [if_neg c2]
      have hN : N ≠ 0 := fun q => c2 (by rw [q, Nat.zero_div, Nat.zero_mul])
      have hs := s2 c hN
      rw [if_pos hs]
      exact ⟨by show N / D * D + N % D = N; omega, fun _ => rfl⟩
section R80
variable {G : Nat → ClassId} {Bm : Nat} {M0 M : zm_M} {ι : Nat → Int32} {α : Nat → Nat → Int32} {K : Nat → Int64} {ρ : Nat → Nat} {S : zS} {t : Int32} {post : Int32 → zm_M → Prop}
theorem r7_bestL {k122 : Nat → Int32 → Int64 → Int64 → Int64 → Int64 → Int64 → zm_M → Prop} {k196 : Nat → Int32 → Int64 → Int64 → zm_M → Prop} {s : Int32} {D r bd : Nat} (hD : D < 4294967296 ^ 16) (hbd : bd < 2 ^ 63) {o : Option (Nat × Nat × Nat × Nat)} {ρ0 : Nat → Nat} (hy : ∀ (M' : zm_M) (ρ' : Nat → Nat) (p q p0 q0 : Nat), zP G Bm M0 M' ι α K ρ' → (∀ j, 14 ≤ j → ρ' j = ρ0 j) → bd < D → o = some (p, q, p0 + (bd - q0) / q * p, q0 + (bd - q0) / q * q) → 1 ≤ q → p ≤ q → q ≤ bd → q0 ≤ bd → (p0 ≤ q0 ∨ p0 = 1 ∧ p = 0 ∧ q0 = 0) → (p * q0 + 1 = p0 * q ∨ p0 * q + 1 = p * q0) → k122 Bm s (lN p) (lN q) (lN p0) (lN q0) (lN ((bd - q0) / q)) M') (hn : ∀ (M' : zm_M) (ρ' : Nat → Nat), zP G Bm M0 M' ι α K ρ' → (∀ j, 14 ≤ j → ρ' j = ρ0 j) → D ≤ bd → k196 Bm s (lN r) (lN D) M') : ∀ (m : Nat) (M : zm_M) (ρ : Nat → Nat) (p q p0 q0 : Nat), zP G Bm M0 M ι α K ρ → (∀ j, 14 ≤ j → ρ j = ρ0 j) → zE m (ρ 11) (ρ 12) → zcv D r (ρ 11) (ρ 12) p q p0 q0 → Nat.gcd (ρ 11) (ρ 12) = 1 → q ≤ bd → q0 ≤ bd → ρ 11 ≤ D → zsn bd m (ρ 11) (ρ 12) p q p0 q0 = o → pX7_best_76 G post k122 k196 (m + 1) Bm (lN bd) s (lN p) (lN q) (lN p0) (lN q0) M
  | m, M, ρ, p, q, p0, q0, h, hf, he, hc, hg, hq, hq0, hl, ho => by
    rw [pX7_best_76]
    refine r7_np h 12 (fun z => ?_) (fun z => ?_)
    · obtain ⟨c1, c2, c3, c4, c5, c6, c7⟩ := hc
      rw [z, Nat.gcd_zero_right] at hg
      rw [z, hg, Nat.mul_zero, Nat.mul_one, Nat.add_zero] at c5 c6
      rw [c5] at hq
      rw [c5, c6]
      exact hn M ρ h hf hq
    · cases m with
      | zero => exact absurd he z
      | succ m =>
        unfold zsn at ho
        rw [if_neg z] at ho
        have hc' := zcv_st hc z
        obtain ⟨c1, c2, c3, c4, c5, c6, c7⟩ := hc
        refine ⟨zP_o h, r7_next h z (by omega) (fun M1 ρ1 k1 e10 e11 e12 f1 => ?_)⟩
        have hf1 : ∀ j, 14 ≤ j → ρ1 j = ρ0 j := fun j hj => (f1 j (by omega)).trans (hf j hj)
        have hqn : ¬ lN q = (0 : Int64) := fun c => by
          have := (pk_lEQ (b := 0) (by omega) (by decide)).mp c
          omega
        refine ⟨hqn, fun x18 e18 => ⟨zP_o k1, ?_⟩⟩
        have hrl : (bd - q0) / q ≤ bd := Nat.le_trans (Nat.div_le_self _ _) (Nat.sub_le _ _)
        have e18' : x18 = lN ((bd - q0) / q) := by rw [e18, lN_sub hq0, pk_lDiv (by omega) (by omega) (by omega)]
        have hbl : zbl (ρ1 10) ≤ 2304 := zbl_le.mpr (by have := zP_lt k1 (r := 10) (by decide); rw [zB2] at this; exact this)
        have over : (bd - q0) / q < ρ 11 / ρ 12 → ∀ M', zP G Bm M0 M' ι α K ρ1 → k122 Bm s (lN p) (lN q) (lN p0) (lN q0) x18 M' := by
          intro hov M' k'
          rw [if_pos hov] at ho
          rw [e18']
          refine hy M' ρ1 p q p0 q0 k' hf1 ?_ ho.symm c2 c3 hq hq0 c4 c7
          rcases Nat.lt_or_ge bd D with w | w
          · exact w
          · exfalso
            have h9 := (zga_b z c5).2
            have h10 : ρ 11 / ρ 12 * q ≤ bd - q0 := by omega
            have h11 := (Nat.le_div_iff_mul_le (show 0 < q by omega)).mpr h10
            omega
        refine r7_bits k1 10 ⟨fun y => ?_, fun y => ⟨zP_o k1, ?_⟩⟩
        · have y' := (nI_ltI (a := 63) (by decide) (by omega)).mp y
          have h63 : ¬ ρ1 10 < 2 ^ 63 := fun c => by
            have := zbl_le.mpr c
            omega
          rw [e10] at h63
          exact over (by omega) M1 k1
        · have y' : ¬ 63 < zbl (ρ1 10) := fun c => y ((nI_ltI (a := 63) (by decide) (by omega)).mpr c)
          have h63 : ρ1 10 < 2 ^ 63 := zbl_le.mp (by omega)
          refine r7_asLong k1 10 (by omega) ⟨fun w => ⟨zP_o k1, r7_asLong k1 10 (by omega) (fun x25 e25 x26 e26 => ?_)⟩, fun w => ?_⟩
          · rw [e18'] at w
            have w' := (pk_lLE h63 (by omega)).mp w
            rw [e10] at w' e25 e26 h63
            rw [if_neg (by omega)] at ho
            rw [e25, e26, lN_mul, lN_mul, lN_add, lN_add]
            have h10 : ρ 11 / ρ 12 * q ≤ bd - q0 := (Nat.le_div_iff_mul_le (show 0 < q by omega)).mp w'
            refine r7_bestL hD hbd hy hn m M1 ρ1 (p0 + ρ 11 / ρ 12 * p) (q0 + ρ 11 / ρ 12 * q) p q k1 hf1 ?_ ?_ ?_ (by omega) hq ?_ ?_
            · rw [e11, e12]
              exact he.resolve_left z
            · rw [e11, e12]
              exact hc'
            · rw [e11, e12, Nat.gcd_comm, ← Nat.gcd_rec, Nat.gcd_comm]
              exact hg
            · rw [e11]
              omega
            · rw [e11, e12]
              exact ho
          · rw [e18'] at w
            have w' : ¬ ρ1 10 ≤ (bd - q0) / q := fun c => w ((pk_lLE h63 (by omega)).mpr c)
            rw [e10] at w'
            exact over (by omega) M1 k1
theorem m7_best (h : zRM G Bm M0 M S t) {x : Int32} {bound : Int64} (hp : ∀ M', zRM G Bm M0 M' (zo_best S x bound).2 0 → post (zo_best S x bound).1 M') : pX7_best G Bm x bound post M := by
  obtain ⟨ι, α, K, ρ, h, r, _⟩ := h
  unfold zo_best at hp
  unfold pX7_best
  refine r7_thr h (fun M1 k1 => ?_)
  have r1 : zRn (upd ι 0 0) α K S := zRn_ι r (pk_un (by decide)) (pk_un (by decide))
  refine ⟨zP_o k1, r7_isNumber k1 r1 (fun e => ⟨fun _ => ?_, fun z => absurd rfl z⟩) (fun a e ha ht hx => ⟨fun z => absurd z (by decide), fun _ => ⟨fun z => ⟨zP_o k1, ?_⟩, fun z => ?_⟩⟩)⟩
  · rw [e] at hp
    exact hp M1 ⟨_, _, _, _, k1, r1, pk_us⟩
  · rw [e] at hp
    simp only at hp
    subst hx
    rw [if_pos z] at hp
    obtain ⟨b1, b2, b3⟩ := i64_pos z
    obtain ⟨a1, a2, a3, ga⟩ := zRn_a r1 ha ht
    have hrD : zrs (sS S a) (sN S a) (sD S a) < sD S a := zrs_lt ga.1
    have hgc := zrs_gcd (s := sS S a) ga.2.1 ga.1
    have hh16 : zhd (sS S a) (sN S a) (sD S a) ≤ 4294967296 ^ 16 := by
      have := zhd_le (s := sS S a) (N := sN S a) (D := sD S a)
      have := ga.2.2.2.1
      omega
    have hh0 : sS S a = 0 → zhd (sS S a) (sN S a) (sD S a) = 0 := fun q => by
      rw [(zgd_s ga).2.2.mpr q]
      exact zhd_0
    refine r7_isFull k1 r1 (fun c => ⟨zP_o k1, r7_floor k1 r1 ha ht (fun M2 ρ2 k2 e10 e11 e12 f2 => ⟨zP_o k2, r7_copy k2 15 10 (fun M3 k3 => ⟨zP_o k3, r7_copy k3 21 12 (fun M4 k4 => ⟨zP_o k4, r7_copy k4 22 11 (fun M5 k5 x11 e11' x12 e12' x13 e13' x14 e14' => ⟨1025, ?_⟩)⟩)⟩)⟩)⟩) (fun c => ?_)
    · rw [if_pos c] at hp
      have e11'' : x11 = lN 0 := e11'
      have e12'' : x12 = lN 1 := e12'
      have e13'' : x13 = lN 1 := e13'
      have e14'' : x14 = lN 0 := e14'
      rw [e11'', e12'', e13'', e14'']
      have hb : bound = lN (uN bound) := b3
      generalize hbd : uN bound = bd at *
      rw [hb]
      have hs3 := zgd_3 ga
      refine r7_bestL (G := G) (Bm := Bm) (M0 := M0) (ι := upd ι 0 0) (α := α) (K := K) (post := post) (s := zsr (sS S a)) (D := sD S a) (r := zrs (sS S a) (sN S a) (sD S a)) (bd := bd) (o := zsn bd 1024 (sD S a) (zrs (sS S a) (sN S a) (sD S a)) 0 1 1 0) (ρ0 := rgu (rgu (rgu ρ2 15 (ρ2 10)) 21 (rgu ρ2 15 (ρ2 10) 12)) 22 (rgu (rgu ρ2 15 (ρ2 10)) 21 (rgu ρ2 15 (ρ2 10) 12) 11)) ga.2.2.2.2 (by omega) (fun M6 ρ6 p q p0 q0 k6 f6 hbD ho g1 g2 g3 g4 g5 g6 => ?_) (fun M6 ρ6 k6 f6 hbD => ?_) 1024 M5 _ 0 1 1 0 k5 (fun _ _ => rfl) ?_ ?_ ?_ (by omega) (by omega) ?_ ?_
      · rw [if_neg (by omega)] at hp
        have v15 : ρ6 15 = zhd (sS S a) (sN S a) (sD S a) := by
          rw [f6 15 (by decide)]
          exact e10
        have v21 : ρ6 21 = zrs (sS S a) (sN S a) (sD S a) := by
          rw [f6 21 (by decide)]
          exact e12
        have v22 : ρ6 22 = sD S a := by
          rw [f6 22 (by decide)]
          exact e11
        unfold pX7_best_122
        rw [lN_mul, lN_mul, lN_add, lN_add]
        have hm : (bd - q0) / q * q ≤ bd - q0 := Nat.div_mul_le_self _ _
        have hpq2 : (bd - q0) / q * p ≤ (bd - q0) / q * q := Nat.mul_le_mul_left _ g2
        have hq2 : q0 + (bd - q0) / q * q ≤ bd := by omega
        have hq20 : q0 + (bd - q0) / q * q ≠ 0 := by
          intro hz
          have h0 : q0 = 0 := by omega
          have h1 : 1 ≤ (bd - q0) / q := (Nat.le_div_iff_mul_le (by omega)).mpr (by omega)
          have := Nat.mul_le_mul_right q h1
          omega
        have hp2 : p0 + (bd - q0) / q * p ≤ q0 + (bd - q0) / q * q := by
          rcases g5 with w | ⟨w1, w2, w3⟩
          · omega
          · rw [w1, w2, Nat.mul_zero]
            omega
        have hzb : zbs bd (sD S a) (zrs (sS S a) (sN S a) (sD S a)) = zch (zrs (sS S a) (sN S a) (sD S a)) (sD S a) p q (p0 + (bd - q0) / q * p) (q0 + (bd - q0) / q * q) := by
          unfold zbs
          rw [ho]
        rw [hzb] at hp
        refine ⟨zP_o k6, r7_nearer k6 r1 c hs3 (fun w => by rw [v15]; exact hh0 w) (by rw [v15]; exact hh16) (by rw [v21]; exact Nat.lt_trans hrD ga.2.2.2.2) (by rw [v22]; exact ga.2.2.2.2) g2 hp2 (by omega) (by omega) (by omega) hq20 (zdet g6) ?_ pk_us ?_⟩
        · have := zdet2 (m := (bd - q0) / q) g6
          refine zdet (p0 := p) (q0 := q) ?_
          rcases this with w | w
          · exact Or.inr (by rw [w])
          · exact Or.inl (by rw [← w])
        · rw [v15, v21, v22]
          exact hp
      · rw [if_pos hbD] at hp
        have v15 : ρ6 15 = zhd (sS S a) (sN S a) (sD S a) := by
          rw [f6 15 (by decide)]
          exact e10
        have er : uN (lN (zrs (sS S a) (sN S a) (sD S a))) = zrs (sS S a) (sN S a) (sD S a) := uN_lN (by omega)
        have eD : uN (lN (sD S a)) = sD S a := uN_lN (by omega)
        refine ⟨zP_o k6, r7_small k6 2 (fun M7 k7 => ⟨zP_o k7, r7_small k7 3 (fun M8 k8 => ⟨zP_o k8, ?_⟩)⟩)⟩
        have w15 : rgu (rgu ρ6 2 (uN (lN (zrs (sS S a) (sN S a) (sD S a))))) 3 (uN (lN (sD S a))) 15 = zhd (sS S a) (sN S a) (sD S a) := v15
        have w2 : rgu (rgu ρ6 2 (uN (lN (zrs (sS S a) (sN S a) (sD S a))))) 3 (uN (lN (sD S a))) 2 = zrs (sS S a) (sN S a) (sD S a) := er
        have w3 : rgu (rgu ρ6 2 (uN (lN (zrs (sS S a) (sN S a) (sD S a))))) 3 (uN (lN (sD S a))) 3 = sD S a := eD
        refine r7_keepMixed k8 r1 c hs3 (fun w => by rw [w15]; exact hh0 w) (by rw [w15]; exact hh16) (by rw [w2, w3]; omega) (by rw [w3]; exact ga.2.2.2.2) (by rw [w3]; exact ga.1) (by rw [w2, w3, Nat.gcd_comm]; exact hgc) pk_us ?_
        rw [w15, w2, w3]
        obtain ⟨m1, m2⟩ := zmx_x ga
        refine zkp_12 ?_ hp
        rw [m1]
        exact zkp_s (fun hN => (m2 hN).symm)
      · show zE 1024 (ρ2 11) (ρ2 12)
        refine zE_of 512 _ _ ?_
        rw [p512, e12]
        exact Nat.lt_trans hrD ga.2.2.2.2
      · show zcv _ _ (ρ2 11) (ρ2 12) 0 1 1 0
        rw [e11, e12]
        exact zcv_0 hrD
      · show Nat.gcd (ρ2 11) (ρ2 12) = 1
        rw [e11, e12]
        exact hgc
      · show ρ2 11 ≤ _
        rw [e11]
        exact Nat.le_refl _
      · show zsn bd 1024 (ρ2 11) (ρ2 12) 0 1 1 0 = _
        rw [e11, e12]
    · rw [if_neg c] at hp
      exact hp M1 ⟨_, _, _, _, k1, r1, pk_us⟩
  · rw [e] at hp
    simp only at hp
    rw [if_neg z] at hp
    exact hp M1 ⟨_, _, _, _, k1, r1, pk_us⟩
end R80
