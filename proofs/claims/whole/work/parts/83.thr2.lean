/-! ===== THE REFERENCE'S CALLS: power, limb, exact ===== -/
theorem zbl_mono {v w : Nat} (h : v ≤ w) : zbl v ≤ zbl w := zbl_le.mpr (Nat.lt_of_le_of_lt h (zbl_lt w))
theorem zcopow {v w : Nat} (h : Nat.gcd v w = 1) (k l : Nat) : Nat.gcd (v ^ k) (w ^ l) = 1 := Nat.Coprime.pow k l h
section R84
variable {G : Nat → ClassId} {Bm : Nat} {M0 M : zm_M} {ι : Nat → Int32} {α : Nat → Nat → Int32} {K : Nat → Int64} {ρ : Nat → Nat} {S : zS} {t : Int32} {post : Int32 → zm_M → Prop}
theorem r7_powL {k180 : Nat → Int32 → Int32 → zm_M → Prop} {a : Int32} {v w n : Nat} (hv : v < 4294967296 ^ 16) (hw : w < 4294967296 ^ 16) (hn : n ≤ 512) (hk : ∀ (M' : zm_M) (ρ' : Nat → Nat), zP G Bm M0 M' ι α K ρ' → ρ' 0 = v ^ n → ρ' 1 = w ^ n → k180 Bm a (nI n) M') (hwide : ∀ (M' : zm_M) (ρ' : Nat → Nat), zP G Bm M0 M' ι α K ρ' → (512 < zbl (v ^ n) ∨ 512 < zbl (w ^ n)) → post (-4) M') (hv0 : ∀ k, k ≤ n → 512 < zbl (v ^ k) → 512 < zbl (v ^ n)) (hw0 : ∀ k, k ≤ n → 512 < zbl (w ^ k) → 512 < zbl (w ^ n)) : ∀ (d k : Nat) (M : zm_M) (ρ : Nat → Nat), k + d = n → zP G Bm M0 M ι α K ρ → ρ 2 = v → ρ 3 = w → ρ 0 = v ^ k → ρ 1 = w ^ k → ρ 0 < 4294967296 ^ 16 → ρ 1 < 4294967296 ^ 16 → pX7_power_117 G post k180 (d + 1) Bm a (nI n) (nI k) M
  | 0, k, M, ρ, hk0, h, h2, h3, e0, e1, l0, l1 => by
    rw [pX7_power_117]
    have e : k = n := by omega
    subst e
    exact ⟨fun _ => hk M ρ h e0 e1, fun y => absurd ((nI_leI (by omega) (by omega)).mpr (Nat.le_refl _)) y⟩
  | d + 1, k, M, ρ, hk0, h, h2, h3, e0, e1, l0, l1 => by
    rw [pX7_power_117]
    refine ⟨fun y => absurd ((nI_leI (by omega) (by omega)).mp y) (by omega), fun _ => ⟨zP_o h, r7_times h 4 0 2 (zl36 l0) (zl36 (by rw [h2]; exact hv)) (fun M1 k1 => ⟨zP_o k1, r7_copy k1 0 4 (fun M2 k2 => ⟨zP_o k2, r7_times k2 4 1 3 (zl36 l1) (zl36 (by show ρ 3 < _; rw [h3]; exact hw)) (fun M3 k3 => ⟨zP_o k3, r7_copy k3 1 4 (fun M4 k4 => ⟨zP_o k4, ?_⟩)⟩)⟩)⟩)⟩⟩
    have v0 : ∀ ρ', ρ' = rgu (rgu (rgu (rgu ρ 4 (ρ 0 * ρ 2)) 0 (rgu ρ 4 (ρ 0 * ρ 2) 4)) 4 (rgu (rgu ρ 4 (ρ 0 * ρ 2)) 0 (rgu ρ 4 (ρ 0 * ρ 2) 4) 1 * rgu (rgu ρ 4 (ρ 0 * ρ 2)) 0 (rgu ρ 4 (ρ 0 * ρ 2) 4) 3)) 1 (rgu (rgu (rgu ρ 4 (ρ 0 * ρ 2)) 0 (rgu ρ 4 (ρ 0 * ρ 2) 4)) 4 (rgu (rgu ρ 4 (ρ 0 * ρ 2)) 0 (rgu ρ 4 (ρ 0 * ρ 2) 4) 1 * rgu (rgu ρ 4 (ρ 0 * ρ 2)) 0 (rgu ρ 4 (ρ 0 * ρ 2) 4) 3) 4) → ρ' 0 = ρ 0 * ρ 2 ∧ ρ' 1 = ρ 1 * ρ 3 ∧ ρ' 2 = ρ 2 ∧ ρ' 3 = ρ 3 := by
      intro ρ' e
      subst e
      exact ⟨rfl, rfl, rfl, rfl⟩
    obtain ⟨q0, q1, q2, q3⟩ := v0 _ rfl
    clear v0
    revert k4
    generalize rgu (rgu (rgu (rgu ρ 4 (ρ 0 * ρ 2)) 0 _) 4 _) 1 _ = ρ4 at *
    intro k4
    have f0 : ρ4 0 = v ^ (k + 1) := by rw [q0, e0, h2, Nat.pow_succ]
    have f1 : ρ4 1 = w ^ (k + 1) := by rw [q1, e1, h3, Nat.pow_succ]
    have b0 : zbl (ρ4 0) ≤ 2304 := zbl_le.mpr (by have := zP_lt k4 (r := 0) (by decide); rw [zB2] at this; exact this)
    have b1 : zbl (ρ4 1) ≤ 2304 := zbl_le.mpr (by have := zP_lt k4 (r := 1) (by decide); rw [zB2] at this; exact this)
    refine r7_bits k4 0 ⟨fun y => ?_, fun y => ⟨zP_o k4, r7_bits k4 1 ⟨fun z x e => ?_, fun z => ?_⟩⟩⟩
    · have y' := (nI_ltI (a := 512) (by decide) (by omega)).mp y
      rw [f0] at y'
      exact hwide M4 ρ4 k4 (Or.inl (hv0 _ (by omega) y'))
    · have y' : ¬ 512 < zbl (ρ4 0) := fun c => y ((nI_ltI (a := 512) (by decide) (by omega)).mpr c)
      have z' := (nI_leI (b := 512) (by omega) (by decide)).mp z
      rw [e, nI_1]
      exact r7_powL hv hw hn hk hwide hv0 hw0 d (k + 1) M4 ρ4 (by omega) k4 (q2.trans h2) (q3.trans h3) f0 f1 (zbl_n.mp (by omega)) (zbl_n.mp z')
    · have z' : ¬ zbl (ρ4 1) ≤ 512 := fun c => z ((nI_leI (b := 512) (by omega) (by decide)).mpr c)
      rw [f1] at z'
      exact hwide M4 ρ4 k4 (Or.inr (hw0 (k + 1) (by omega) (by omega)))
theorem zpw_up {v k n : Nat} (hk : k ≤ n) (h : 512 < zbl (v ^ k)) : 512 < zbl (v ^ n) := by
  rcases Nat.eq_zero_or_pos v with c | c
  · subst c
    have : zbl (0 ^ k) ≤ 1 := by
      rcases Nat.eq_zero_or_pos k with q | q
      · rw [q]; decide
      · rw [Nat.zero_pow q]; decide
    omega
  · exact Nat.lt_of_lt_of_le h (zbl_mono (Nat.pow_le_pow_right c hk))
theorem m7_power (h : zRM G Bm M0 M S t) {x n : Int32} (hp : ∀ M', zRM G Bm M0 M' (zo_power S x n).2 (zth (zo_power S x n).1) → post ((zo_power S x n).1.getD 0) M') : pX7_power G Bm x n post M := by
  obtain ⟨ι, α, K, ρ, h, r, _⟩ := h
  unfold zo_power at hp
  unfold pX7_power
  refine r7_thr h (fun M1 k1 => ?_)
  have r1 : zRn (upd ι 0 0) α K S := zRn_ι r (pk_un (by decide)) (pk_un (by decide))
  refine ⟨zP_o k1, r7_isNumber k1 r1 (fun e => ⟨fun _ => ?_, fun z => absurd rfl z⟩) (fun a e ha ht hx => ⟨fun z => absurd z (by decide), fun _ => r7_in ?_⟩)⟩
  · rw [e] at hp
    exact hp M1 ⟨_, _, _, _, k1, r1, pk_us⟩
  rw [e] at hp
  simp only at hp
  subst hx
  have l1 : (-512 : Int32).toInt = -512 := by decide
  have l2 : (512 : Int32).toInt = 512 := by decide
  rw [i64_of32, show (-512 : Int64).toInt = -512 by decide, show (512 : Int64).toInt = 512 by decide]
  by_cases c : -512 ≤ n.toInt ∧ n.toInt ≤ 512
  · rw [if_pos c]
    rw [if_pos ⟨i32_le.mpr (by rw [l1]; exact c.1), i32_le.mpr (by rw [l2]; exact c.2)⟩] at hp
    obtain ⟨a1, a2, a3, ga⟩ := zRn_a r1 ha ht
    have sa := zgd_s ga
    have s49 : ¬ (n < 0 ∧ sS S a = 0) → pX7_power_49 G post Bm (nI a) n M1 := by
      intro hz
      rw [if_neg hz] at hp
      unfold pX7_power_49
      refine ⟨zP_o k1, r7_isFull k1 r1 (fun c3 => ?_) (fun c3 => ?_)⟩
      · rw [if_pos c3] at hp
        have hp' : ∀ M', zRM G Bm M0 M' (zkp S (if n.toInt.natAbs % 2 = 1 then sS S a else 1) ((if n < 0 then sD S a else sN S a) ^ n.toInt.natAbs) ((if n < 0 then sN S a else sD S a) ^ n.toInt.natAbs)).2 0 → post (zkp S (if n.toInt.natAbs % 2 = 1 then sS S a else 1) ((if n < 0 then sD S a else sN S a) ^ n.toInt.natAbs) ((if n < 0 then sN S a else sD S a) ^ n.toInt.natAbs)).1 M' := hp
        -- all the rest, for any two
        have rest : ∀ (v w T : Nat) (M2 : zm_M) (ρ2 : Nat → Nat), T ≤ 512 → v < 4294967296 ^ 16 → w < 4294967296 ^ 16 → Nat.gcd v w = 1 → w ≠ 0 → (v = 0 → sS S a = 0) → (∀ M', zRM G Bm M0 M' (zkp S (if T % 2 = 1 then sS S a else 1) (v ^ T) (w ^ T)).2 0 → post (zkp S (if T % 2 = 1 then sS S a else 1) (v ^ T) (w ^ T)).1 M') → (sS S a = 0 → v = 0) → zP G Bm M0 M2 (upd ι 0 0) α K ρ2 → ρ2 2 = v → ρ2 3 = w → ρ2 0 = 1 → ρ2 1 = 1 → pX7_power_117 G post (fun w24 w25 w26 M27 => zw_ga M27 w24 10 2 (fun sign_28 => zw_li (G 0) M27 sign_28 w25 (fun e29 => (0 ≤ e29 → pX7_power_201 G post w24 M27) ∧ (¬ 0 ≤ e29 → (¬ (w26 - w26 / (2 : Int32) * (2 : Int32)) = (1 : Int32) → pX7_power_201 G post w24 M27) ∧ ((w26 - w26 / (2 : Int32) * (2 : Int32)) = (1 : Int32) → pX7_power_202 G post w24 (-1 : Int32) M27))))) (T + 1) Bm (nI a) (nI T) (nI 0) M2 := by
          intro v w T M2 ρ2 hT hv hw hg hw0 hvs hq hsv k2 e2 e3 e0 e1
          have hgp : ∀ k, Nat.gcd (v ^ k) (w ^ k) = 1 := fun k => zcopow hg k k
          have hwp : w ^ T ≠ 0 := Nat.ne_of_gt (Nat.pow_pos (Nat.pos_of_ne_zero hw0))
          refine r7_powL hv hw hT (fun M3 ρ3 k3 f0 f1 => r7_sign k3 rfl ha ?_) (fun M3 ρ3 k3 hwd => ?_) (fun k hk => zpw_up hk) (fun k hk => zpw_up hk) T 0 M2 ρ2 (by omega) k2 e2 e3 (by rw [e0, Nat.pow_zero]) (by rw [e1, Nat.pow_zero]) (by rw [e0]; exact Nat.one_lt_pow (by decide) (by decide)) (by rw [e1]; exact Nat.one_lt_pow (by decide) (by decide))
          · rw [a1]
            have hmod : nI T - nI T / (2 : Int32) * (2 : Int32) = nI (T % 2) := pk_rem (d := 2) (by omega) (by decide) (by decide)
            have keepS : ∀ s : Int32, (s = 1 ∨ s = -1) → (v ^ T ≠ 0 → s = if T % 2 = 1 then sS S a else 1) → pX7_power_202 G post Bm s M3 := by
              intro s hs hs2
              unfold pX7_power_202
              refine ⟨zP_o k3, r7_keep (s := s) k3 r1 c3 (by rw [f0, f1]; exact hgp T) (by rw [f1]; exact hwp) (fun _ => hs) pk_us ?_⟩
              rw [f0, f1]
              exact zkp_12 (zkp_s (fun q => (hs2 q).symm)) hq
            refine ⟨fun y => ?_, fun y => ⟨fun z => ?_, fun z => ?_⟩⟩
            · unfold pX7_power_201
              refine keepS 1 (Or.inl rfl) (fun q => ?_)
              by_cases o : T % 2 = 1
              · rw [if_pos o]
                have hv0 : v ≠ 0 := fun q2 => q (by rw [q2]; exact Nat.zero_pow (by omega))
                have hns : ¬ sS S a < 0 := fun q2 => by
                  have := i32_lt.mp q2
                  have := i32_0.mp y
                  omega
                rcases zgd_3 ga with w | w | w
                · exact absurd (hsv w) hv0
                · exact w.symm
                · rw [w] at hns; exact absurd (by decide) hns
              · rw [if_neg o]
            · rw [hmod] at z
              have o : ¬ T % 2 = 1 := fun q => z (by rw [q]; rfl)
              unfold pX7_power_201
              exact keepS 1 (Or.inl rfl) (fun _ => by rw [if_neg o])
            · rw [hmod] at z
              have o : T % 2 = 1 := (nI_eq (b := 1) (by omega) (by decide)).mp z
              refine keepS (-1) (Or.inr rfl) (fun _ => ?_)
              rw [if_pos o]
              refine (sa.1 (i32_lt.mpr ?_)).symm
              rcases Int.lt_or_le (sS S a).toInt 0 with q | q
              · exact q
              · exact absurd (i32_0.mpr q) y
          · have hz4 : zkp S (if T % 2 = 1 then sS S a else 1) (v ^ T) (w ^ T) = (-4, S) := by
              unfold zkp
              rw [hgp T, Nat.div_one, Nat.div_one, if_pos hwd]
            rw [hz4] at hq
            exact hq M3 ⟨_, _, _, _, k3, r1, pk_us⟩
        refine ⟨fun y => ?_, fun y => ?_⟩
        · have y' := i32_0.mp y
          have hnl : ¬ n < 0 := fun q => by have := i32_lt.mp q; omega
          rw [if_neg hnl, if_neg hnl] at hp'
          have en := i32_n y'
          have eT : n.toInt.natAbs = n.toInt.toNat := by omega
          unfold pX7_power_73
          refine ⟨zP_o k1, r7_takeN k1 r1 2 a ha ht (fun M2 k2 => ⟨fun _ => ?_, fun z => absurd y z⟩)⟩
          unfold pX7_power_88
          refine ⟨zP_o k2, r7_takeD k2 r1 3 a ha ht (fun M3 k3 => ⟨zP_o k3, r7_small k3 0 (fun M4 k4 => ⟨zP_o k4, r7_small k4 1 (fun M5 k5 => ⟨fun _ x14 e14 => ⟨n.toInt.natAbs + 1, ?_⟩, fun z => absurd y z⟩)⟩)⟩)⟩
          have hr := rest (sN S a) (sD S a) n.toInt.natAbs M5 _ (by omega) ga.2.2.2.1 ga.2.2.2.2 ga.2.1 ga.1 (fun q => sa.2.2.mp q) hp' (fun q => sa.2.2.mpr q) k5 rfl rfl rfl rfl
          rw [e14]
          rw [show nI n.toInt.natAbs = n by rw [eT]; exact en.symm] at hr
          exact hr
        · have hnl : n < 0 := i32_lt.mpr (by
            rcases Int.lt_or_le n.toInt 0 with q | q
            · exact q
            · exact absurd (i32_0.mpr q) y)
          have y' := i32_lt.mp hnl
          rw [if_pos hnl, if_pos hnl] at hp'
          have hs0 : sS S a ≠ 0 := fun q => hz ⟨hnl, q⟩
          have hN0 : sN S a ≠ 0 := fun q => hs0 (sa.2.2.mp q)
          have en : -n = nI n.toInt.natAbs := by
            apply Int32.toInt_inj.mp
            have h8 : (0 - n : Int32).toInt = 0 - n.toInt := i32_s rfl rfl (by omega) (by omega)
            rw [Int32.zero_sub] at h8
            rw [h8, nI_toInt (by omega)]
            omega
          unfold pX7_power_73
          refine ⟨zP_o k1, r7_takeD k1 r1 2 a ha ht (fun M2 k2 => ⟨fun z => absurd z y, fun _ => ?_⟩)⟩
          unfold pX7_power_88
          refine ⟨zP_o k2, r7_takeN k2 r1 3 a ha ht (fun M3 k3 => ⟨zP_o k3, r7_small k3 0 (fun M4 k4 => ⟨zP_o k4, r7_small k4 1 (fun M5 k5 => ⟨fun z => absurd z y, fun _ x32 e32 x33 e33 => ⟨n.toInt.natAbs + 1, ?_⟩⟩)⟩)⟩)⟩
          have hr := rest (sD S a) (sN S a) n.toInt.natAbs M5 _ (by omega) ga.2.2.2.2 ga.2.2.2.1 (by rw [Nat.gcd_comm]; exact ga.2.1) hN0 (fun q => absurd q ga.1) hp' (fun q => absurd q hs0) k5 rfl rfl rfl rfl
          rw [e32, e33, en]
          exact hr
      · rw [if_neg c3] at hp
        exact hp M1 ⟨_, _, _, _, k1, r1, pk_us⟩
    refine ⟨fun _ => r7_sign k1 rfl ha ?_, fun z => absurd z (by decide)⟩
    rw [a1]
    refine ⟨fun z => s49 (fun q => z q.2), fun z => ⟨fun w => s49 (fun q => ?_), fun w => ?_⟩⟩
    · have := i32_lt.mp q.1
      have := i32_0.mp w
      omega
    · have hnl : n < 0 := i32_lt.mpr (by
        rcases Int.lt_or_le n.toInt 0 with q | q
        · exact q
        · exact absurd (i32_0.mpr q) w)
      rw [if_pos ⟨hnl, z⟩] at hp
      exact r7_thr k1 (fun M2 k2 => hp M2 ⟨_, _, _, _, k2, zRn_ι r1 (pk_un (by decide)) (pk_un (by decide)), pk_us⟩)
  · rw [if_neg c]
    rw [if_neg (fun q => c ⟨by have := i32_le.mp q.1; rw [l1] at this; exact this, by have := i32_le.mp q.2; rw [l2] at this; exact this⟩)] at hp
    exact ⟨fun z => absurd rfl z, fun _ => hp M1 ⟨_, _, _, _, k1, r1, pk_us⟩⟩
theorem zkN_i {z : Nat → Int32} {p v : Nat} (h : zkN K z p v) {u : Nat} (hu : z p = nI u) (hu2 : u ≤ 16) (i : Nat) : (i < u ↔ 4294967296 ^ i ≤ v) ∧ (i < u → K (16 * p + i) = lN (zdg v i)) := by
  obtain ⟨u', h1, h2, h3, h4, h5⟩ := h
  have e : u' = u := (nI_eq (by omega) (by omega)).mp (h1.symm.trans hu)
  subst e
  refine ⟨⟨fun hi => ?_, fun hi => ?_⟩, fun hi => ?_⟩
  · have h6 := zs_top (d := fun i => uN (K (16 * p + i))) (u := u') (by omega) (h5 (by omega))
    rw [← h4] at h6
    exact Nat.le_trans (Nat.pow_le_pow_right (by decide) (by omega)) h6
  · rcases Nat.lt_or_ge i u' with c | c
    · exact c
    · have h6 : v < 4294967296 ^ u' := by rw [h4]; exact zs_lt h3
      have h7 : (4294967296 : Nat) ^ u' ≤ 4294967296 ^ i := Nat.pow_le_pow_right (by decide) c
      omega
  · have h6 := zs_dig (d := fun i => uN (K (16 * p + i))) h3 hi
    rw [← h4] at h6
    refine lN_of ?_
    exact h6.symm
theorem m7_limb (h : zRM G Bm M0 M S t) {x p i : Int32} (hp : ∀ M', zRM G Bm M0 M' (zo_limb S x p i).2 (zth (zo_limb S x p i).1) → post ((zo_limb S x p i).1.getD 0) M') : pX7_limb G Bm x p i post M := by
  obtain ⟨ι, α, K, ρ, h, r, _⟩ := h
  unfold zo_limb at hp
  unfold pX7_limb
  refine r7_thr h (fun M1 k1 => ?_)
  have r1 : zRn (upd ι 0 0) α K S := zRn_ι r (pk_un (by decide)) (pk_un (by decide))
  refine ⟨zP_o k1, r7_isNumber k1 r1 (fun e => ⟨fun _ => ?_, fun z => absurd rfl z⟩) (fun a e ha ht hx => ⟨fun z => absurd z (by decide), fun _ => r7_in ?_⟩)⟩
  · rw [e] at hp
    exact hp M1 ⟨_, _, _, _, k1, r1, pk_us⟩
  rw [e] at hp
  simp only at hp
  subst hx
  rw [i64_of32, show (0 : Int64).toInt = 0 from rfl, show (1 : Int64).toInt = 1 from rfl]
  by_cases c : 0 ≤ p.toInt ∧ p.toInt ≤ 1
  · rw [if_pos c]
    rw [if_pos ⟨i32_0.mpr c.1, i32_le.mpr c.2⟩] at hp
    obtain ⟨a1, a2, a3, ga⟩ := zRn_a r1 ha ht
    have ep := i32_n c.1
    obtain ⟨w, hw, hk⟩ : ∃ w, w = (if p = 0 then sN S a else sD S a) ∧ zkN K (α 4) (2 * a + p.toInt.toNat) w := by
      by_cases q : p = 0
      · refine ⟨sN S a, by rw [if_pos q], ?_⟩
        rw [q]
        exact a2
      · refine ⟨sD S a, by rw [if_neg q], ?_⟩
        have h9 : p.toInt.toNat = 1 := by
          have : p.toInt.toNat ≠ 0 := fun w => q (by rw [ep, w]; rfl)
          omega
        rw [h9]
        exact a3
    rw [← hw] at hp
    obtain ⟨u, z1, z2, z3, z4, z5⟩ := id hk
    have hki := zkN_i hk z1 z2
    have ix : (2 : Int32) * nI a + p = nI (2 * a + p.toInt.toNat) := by
      rw [ep, zix2, nI_toInt (by omega)]
      rfl
    refine ⟨fun _ => r7_kS k1 ix (by omega) (r7_in ?_), fun z => absurd z (by decide)⟩
    have e7 : (α 4 (2 * a + p.toInt.toNat) - (1 : Int32)).toInt = (u : Int) - 1 := i32_s (by rw [z1]; exact nI_toInt (by omega)) rfl (by omega) (by omega)
    rw [i64_of32, i64_of32, show (0 : Int64).toInt = 0 from rfl, e7]
    by_cases c2 : 0 ≤ i.toInt ∧ i.toInt ≤ (u : Int) - 1
    · rw [if_pos c2]
      have hiu : i.toInt.toNat < u := by omega
      rw [if_pos ⟨i32_0.mpr c2.1, (hki _).1.mp hiu⟩] at hp
      have ei := i32_n c2.1
      refine ⟨fun _ => r7_kL k1 (a := 16 * (2 * a + p.toInt.toNat) + i.toInt.toNat) ?_ (by omega) ?_, fun z => absurd z (by decide)⟩
      · rw [ix, ei, z16, nI_toInt (by omega)]
        rfl
      · rw [(hki _).2 hiu]
        exact hp M1 ⟨_, _, _, _, k1, r1, pk_us⟩
    · rw [if_neg c2]
      rw [if_neg (fun q => c2 ⟨i32_0.mp q.1, by have := (hki _).1.mpr q.2; have := i32_0.mp q.1; omega⟩)] at hp
      exact ⟨fun z => absurd rfl z, fun _ => r7_thr k1 (fun M2 k2 => hp M2 ⟨_, _, _, _, k2, zRn_ι r1 (pk_un (by decide)) (pk_un (by decide)), pk_us⟩)⟩
  · rw [if_neg c]
    rw [if_neg (fun q => c ⟨i32_0.mp q.1, i32_le.mp q.2⟩)] at hp
    exact ⟨fun z => absurd rfl z, fun _ => hp M1 ⟨_, _, _, _, k1, r1, pk_us⟩⟩
theorem i32_in4 {x : Int32} (h : 0 ≤ x.toInt ∧ x.toInt ≤ 4) : x = 0 ∨ x = 1 ∨ x = 2 ∨ x = 3 ∨ x = 4 := by
  have e := i32_n h.1
  have : x.toInt.toNat = 0 ∨ x.toInt.toNat = 1 ∨ x.toInt.toNat = 2 ∨ x.toInt.toNat = 3 ∨ x.toInt.toNat = 4 := by omega
  rcases this with c | c | c | c | c
  · exact Or.inl (by rw [e, c]; rfl)
  · exact Or.inr (Or.inl (by rw [e, c]; rfl))
  · exact Or.inr (Or.inr (Or.inl (by rw [e, c]; rfl)))
  · exact Or.inr (Or.inr (Or.inr (Or.inl (by rw [e, c]; rfl))))
  · exact Or.inr (Or.inr (Or.inr (Or.inr (by rw [e, c]; rfl))))
theorem m7_exact {post : Int64 → zm_M → Prop} (h : zRM G Bm M0 M S t) {x lane : Int32} (hp : ∀ M', zRM G Bm M0 M' (zo_exact S x lane).2 (zth (zo_exact S x lane).1) → post ((zo_exact S x lane).1.getD 0) M') : pX7_exact G Bm x lane post M := by
  obtain ⟨ι, α, K, ρ, h, r, _⟩ := h
  unfold zo_exact at hp
  unfold pX7_exact
  refine r7_thr h (fun M1 k1 => ?_)
  have r1 : zRn (upd ι 0 0) α K S := zRn_ι r (pk_un (by decide)) (pk_un (by decide))
  refine ⟨zP_o k1, r7_isNumber k1 r1 (fun e => ⟨fun _ => ?_, fun z => absurd rfl z⟩) (fun a e ha ht hx => ⟨fun z => absurd z (by decide), fun _ => r7_in ?_⟩)⟩
  · rw [e] at hp
    exact hp M1 ⟨_, _, _, _, k1, r1, pk_us⟩
  rw [e] at hp
  simp only at hp
  subst hx
  rw [i64_of32, show (0 : Int64).toInt = 0 from rfl, show (4 : Int64).toInt = 4 from rfl]
  by_cases c : 0 ≤ lane.toInt ∧ lane.toInt ≤ 4
  · rw [if_pos c]
    rw [if_pos ⟨i32_0.mpr c.1, i32_le.mpr c.2⟩] at hp
    obtain ⟨a1, a2, a3, ga⟩ := zRn_a r1 ha ht
    have sa := zgd_s ga
    have nb : zbl (sN S a) ≤ 512 := zbl_n.mpr ga.2.2.2.1
    refine ⟨fun _ => ⟨zP_o k1, r7_takeN k1 r1 2 a ha ht (fun M2 k2 => ⟨zP_o k2, r7_bits k2 2 (r7_thr k2 (fun M3 k3 => ?_))⟩)⟩, fun z => absurd z (by decide)⟩
    have r3 : zRn (upd (upd ι 0 0) 0 1) α K S := zRn_ι r1 (pk_un (by decide)) (pk_un (by decide))
    have e2 : rgu ρ 2 (sN S a) 2 = sN S a := rfl
    rw [e2]
    -- it throws
    have no : ¬ (sD S a = 1 ∧ zlo lane ≤ zvl (sS S a) (sN S a) ∧ zvl (sS S a) (sN S a) ≤ zhi lane) → ∀ (M' : zm_M) (ι' : Nat → Int32), zP G Bm M0 M' ι' α K (rgu ρ 2 (sN S a)) → zRn ι' α K S → ι' 0 = 1 → post 0 M' := by
      intro hn M' ι' k' r' e0
      rw [if_neg hn] at hp
      exact hp M' ⟨_, _, _, _, k', r', e0⟩
    have yes : (sD S a = 1 ∧ zlo lane ≤ zvl (sS S a) (sN S a) ∧ zvl (sS S a) (sN S a) ≤ zhi lane) → ∀ (M' : zm_M) (ι' : Nat → Int32), zP G Bm M0 M' ι' α K (rgu ρ 2 (sN S a)) → zRn ι' α K S → ι' 0 = 0 → post (if sS S a < 0 then -(lN (sN S a)) else lN (sN S a)) M' := by
      intro hn M' ι' k' r' e0
      rw [if_pos hn] at hp
      exact hp M' ⟨_, _, _, _, k', r', e0⟩
    refine ⟨zP_o k3, r7_isWhole k3 r3 ha ht ?_⟩
    by_cases c1 : sD S a = 1
    · rw [if_pos c1]
      refine ⟨fun z => absurd z (by decide), fun _ => ⟨fun y => ⟨zP_o k3, ?_⟩, fun y => ?_⟩⟩
      · have y' := (nI_leI (b := 64) (by omega) (by decide)).mp y
        have hl : sN S a < 2 ^ 64 := zbl_le.mp y'
        refine r7_asLong k3 2 (by show sN S a < _; omega) (r7_sign k3 rfl ha ?_)
        rw [a1, e2]
        -- with one lane's width
        have lane157 : ∀ (wd : Nat) (fl : Int32) (neg : Prop), wd ≤ 63 → zlo lane = -(2 ^ wd : Nat) → zhi lane = (2 ^ wd : Nat) - 1 → (fl = 0 ∧ ¬ sS S a < 0 ∨ fl = 1 ∧ sS S a < 0) → pX7_exact_157 G post Bm (nI (zbl (sN S a))) (lN (sN S a)) fl (nI wd) M3 := by
          intro wd fl neg hwd hlo hhi hfl
          have fits : (zlo lane ≤ zvl (sS S a) (sN S a) ∧ zvl (sS S a) (sN S a) ≤ zhi lane) → pX7_exact_193 G post Bm (lN (sN S a)) fl M3 := by
            intro hf
            unfold pX7_exact_193 pX7_exact_198
            refine ⟨fun z => absurd z (by decide), fun _ => ?_⟩
            unfold pX7_exact_211
            refine r7_thr k3 (fun M4 k4 => ⟨fun z => absurd z (by decide), fun _ => ?_⟩)
            have hy := yes ⟨c1, hf⟩ M4 _ k4 (zRn_ι r3 (pk_un (by decide)) (pk_un (by decide))) pk_us
            rcases hfl with ⟨q1, q2⟩ | ⟨q1, q2⟩
            · rw [if_neg q2] at hy
              exact ⟨fun _ => hy, fun z => absurd q1 z⟩
            · rw [if_pos q2] at hy
              exact ⟨fun z => absurd (q1.symm.trans z) (by decide), fun _ => hy⟩
          have nofit : ¬ (zlo lane ≤ zvl (sS S a) (sN S a) ∧ zvl (sS S a) (sN S a) ≤ zhi lane) → pX7_exact_197 G post Bm (lN (sN S a)) fl M3 := by
            intro hf
            unfold pX7_exact_197 pX7_exact_198
            refine ⟨fun _ => ?_, fun z => absurd rfl z⟩
            unfold pX7_exact_211
            refine r7_thr k3 (fun M4 k4 => ⟨fun _ => no (fun q => hf q.2) M4 _ k4 (zRn_ι r3 (pk_un (by decide)) (pk_un (by decide))) pk_us, fun z => absurd rfl z⟩)
          rw [hlo, hhi] at fits nofit
          have hb : zbl (sN S a) ≤ wd ↔ sN S a < 2 ^ wd := zbl_le
          have hb2 : zbl (sN S a) ≤ wd + 1 ↔ sN S a < 2 ^ (wd + 1) := zbl_le
          have p2 : (2 : Nat) ^ (wd + 1) = 2 * 2 ^ wd := Nat.pow_succ'
          unfold pX7_exact_157
          refine ⟨fun z => fits ?_, fun z => ⟨fun q => nofit ?_, fun q => ⟨fun z2 => nofit ?_, fun z2 => ⟨fun z3 => nofit ?_, fun z3 => fits ?_⟩⟩⟩⟩
          · have z' := hb.mp ((nI_leI (by omega) (by omega)).mp z)
            unfold zvl
            split <;> omega
          · have z' : ¬ sN S a < 2 ^ wd := fun w => z ((nI_leI (by omega) (by omega)).mpr (hb.mpr w))
            have q2 : ¬ sS S a < 0 := by
              rcases hfl with ⟨q1, q2⟩ | ⟨q1, q2⟩
              · exact q2
              · exact absurd (q1.symm.trans q) (by decide)
            unfold zvl
            rw [if_neg q2]
            omega
          all_goals
            have q2 : sS S a < 0 := by
              rcases hfl with ⟨q1, q2⟩ | ⟨q1, q2⟩
              · exact absurd q1 q
              · exact q2
            have z' : ¬ sN S a < 2 ^ wd := fun w => z ((nI_leI (by omega) (by omega)).mpr (hb.mpr w))
            unfold zvl
            rw [if_pos q2]
            rw [show nI wd + (1 : Int32) = nI (wd + 1) from nI_1 _] at z2
          · have z2' : zbl (sN S a) ≠ wd + 1 := fun w => z2 (by rw [w])
            have hne : ¬ zbl (sN S a) ≤ wd := fun w => z' (hb.mp w)
            have : ¬ sN S a < 2 ^ (wd + 1) := fun w => by
              have := hb2.mpr w
              omega
            omega
          all_goals
            have z2' : zbl (sN S a) = wd + 1 := (nI_eq (by omega) (by omega)).mp z2
            have hlt : sN S a < 2 ^ (wd + 1) := hb2.mp (by omega)
            have es : (63 : Int32) - nI wd = nI (63 - wd) := pk_sub (a := 63) (by omega)
            have hpp : (2 : Nat) ^ wd * 2 ^ (63 - wd) = 2 ^ 63 := by rw [← Nat.pow_add, show wd + (63 - wd) = 63 by omega]
            have hup : sN S a * 2 ^ (63 - wd) < 2 ^ 64 := by
              have h8 := Nat.mul_lt_mul_of_pos_right hlt (Nat.two_pow_pos (63 - wd))
              rw [p2, Nat.mul_assoc, hpp] at h8
              omega
            have hsh : lN (sN S a) <<< (((63 : Int32) - nI wd).toInt64 &&& 63) = lN (sN S a * 2 ^ (63 - wd)) := by
              rw [es, lN_shl64 (by omega) (by omega), Nat.mod_eq_of_lt (by omega)]
            have hcr : lN (sN S a * 2 ^ (63 - wd)) = (-9223372036854775808 : Int64) ↔ sN S a = 2 ^ wd := by
              rw [uN_eq, uN_lN (by omega), show uN (-9223372036854775808 : Int64) = 2 ^ 63 by decide, ← hpp]
              exact Nat.mul_left_inj (Nat.ne_of_gt (Nat.two_pow_pos _))
            rw [hsh, hcr] at z3
            omega
        have e84 : ∀ (fl : Int32), (fl = 0 ∧ ¬ sS S a < 0 ∨ fl = 1 ∧ sS S a < 0) → pX7_exact_84 G post Bm lane (nI (zbl (sN S a))) (lN (sN S a)) fl M3 := by
          intro fl hfl
          unfold pX7_exact_84
          rcases i32_in4 c with q | q | q | q | q
          · subst q
            exact ⟨fun _ => ⟨fun z => absurd rfl z, fun _ => lane157 7 fl True (by decide) rfl rfl hfl⟩, fun z => absurd z (by decide)⟩
          · subst q
            exact ⟨fun _ => ⟨fun _ => ⟨fun z => absurd rfl z, fun _ => lane157 15 fl True (by decide) rfl rfl hfl⟩, fun z => absurd z (by decide)⟩, fun z => absurd z (by decide)⟩
          · subst q
            refine ⟨fun z => absurd rfl z, fun _ => ⟨fun z => ?_, fun z => ⟨fun w => ?_, fun w => ?_⟩⟩⟩
            · have q2 : sS S a < 0 := by
                rcases hfl with ⟨q1, q2⟩ | ⟨q1, q2⟩
                · exact absurd q1 z
                · exact q2
              have hN0 : sN S a ≠ 0 := fun w => by
                rw [sa.2.2.mp w] at q2
                exact absurd q2 (by decide)
              unfold pX7_exact_103 pX7_exact_108
              refine r7_thr k3 (fun M4 k4 => r7_g0 k4 ?_)
              rw [pk_us]
              refine ⟨fun w => absurd rfl w, fun _ => no (fun w => ?_) M4 _ k4 (zRn_ι r3 (pk_un (by decide)) (pk_un (by decide))) pk_us⟩
              have w1 := w.2.1
              unfold zvl at w1
              rw [if_pos q2] at w1
              have : zlo 2 = 0 := rfl
              omega
            · have q2 : ¬ sS S a < 0 := by
                rcases hfl with ⟨q1, q2⟩ | ⟨q1, q2⟩
                · exact q2
                · exact absurd (q1.symm.trans z) (by decide)
              have w' : sN S a < 2 ^ 16 := zbl_le.mp ((nI_leI (b := 16) (by omega) (by decide)).mp w)
              unfold pX7_exact_108
              refine r7_thr k3 (fun M4 k4 => r7_g0 k4 ?_)
              rw [pk_us]
              have hy := yes ⟨c1, by unfold zvl; rw [if_neg q2]; exact ⟨by show (0 : Int) ≤ _; omega, by show _ ≤ (65535 : Int); omega⟩⟩ M4 _ k4 (zRn_ι r3 (pk_un (by decide)) (pk_un (by decide))) pk_us
              rw [if_neg q2] at hy
              exact ⟨fun _ => hy, fun w => absurd w (by decide)⟩
            · have q2 : ¬ sS S a < 0 := by
                rcases hfl with ⟨q1, q2⟩ | ⟨q1, q2⟩
                · exact q2
                · exact absurd (q1.symm.trans z) (by decide)
              have w' : ¬ sN S a < 2 ^ 16 := fun q => w ((nI_leI (b := 16) (by omega) (by decide)).mpr (zbl_le.mpr q))
              unfold pX7_exact_103 pX7_exact_108
              refine r7_thr k3 (fun M4 k4 => r7_g0 k4 ?_)
              rw [pk_us]
              refine ⟨fun w => absurd rfl w, fun _ => no (fun w => ?_) M4 _ k4 (zRn_ι r3 (pk_un (by decide)) (pk_un (by decide))) pk_us⟩
              have w1 := w.2.2
              unfold zvl at w1
              rw [if_neg q2] at w1
              have : zhi 2 = 65535 := rfl
              omega
          · subst q
            exact ⟨fun _ => ⟨fun _ => ⟨fun _ => ⟨fun z => absurd rfl z, fun _ => lane157 31 fl True (by decide) rfl rfl hfl⟩, fun z => absurd z (by decide)⟩, fun z => absurd z (by decide)⟩, fun z => absurd z (by decide)⟩
          · subst q
            exact ⟨fun _ => ⟨fun _ => ⟨fun _ => ⟨fun _ => lane157 63 fl True (by decide) rfl rfl hfl, fun z => absurd z (by decide)⟩, fun z => absurd z (by decide)⟩, fun z => absurd z (by decide)⟩, fun z => absurd z (by decide)⟩
        refine ⟨fun z => e84 0 (Or.inl ⟨rfl, fun q => ?_⟩), fun z => e84 1 (Or.inr ⟨rfl, i32_lt.mpr ?_⟩)⟩
        · have := i32_lt.mp q
          have := i32_0.mp z
          omega
        · rcases Int.lt_or_le (sS S a).toInt 0 with q | q
          · exact q
          · exact absurd (i32_0.mpr q) z
      · have y' : ¬ zbl (sN S a) ≤ 64 := fun q => y ((nI_leI (b := 64) (by omega) (by decide)).mpr q)
        have hl : ¬ sN S a < 2 ^ 64 := fun q => y' (zbl_le.mpr q)
        refine no (fun q => ?_) M3 _ k3 r3 pk_us
        obtain ⟨_, q1, q2⟩ := q
        have hlo : -9223372036854775808 ≤ zlo lane := by
          unfold zlo
          split <;> (try split) <;> (try split) <;> (try split) <;> omega
        have hhi : zhi lane ≤ 9223372036854775807 := by
          unfold zhi
          split <;> (try split) <;> (try split) <;> (try split) <;> omega
        have hv : zvl (sS S a) (sN S a) = -(sN S a : Int) ∨ zvl (sS S a) (sN S a) = (sN S a : Int) := by
          unfold zvl
          split
          · exact Or.inl rfl
          · exact Or.inr rfl
        rcases hv with hv | hv <;> omega
    · rw [if_neg c1]
      exact ⟨fun _ => no (fun q => c1 q.1) M3 _ k3 r3 pk_us, fun z => absurd rfl z⟩
  · rw [if_neg c]
    rw [if_neg (fun q => c ⟨i32_0.mp q.1, i32_le.mp q.2⟩)] at hp
    exact ⟨fun z => absurd rfl z, fun _ => hp M1 ⟨_, _, _, _, k1, r1, pk_us⟩⟩
end R84
