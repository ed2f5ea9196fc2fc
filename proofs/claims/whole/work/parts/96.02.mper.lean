/-! ===== THE REFERENCE: period ===== -/
section P7
variable {G : Nat → ClassId} {Bm : Nat} {M0 M : zm_M} {ι : Nat → Int32} {α : Nat → Nat → Int32} {K : Nat → Int64} {ρ : Nat → Nat} {S : zS} {t : Int32} {post : Int32 → zm_M → Prop}
theorem r7_perA {k53 : Nat → Int32 → Int32 → zm_M → Prop} {w : Int32} {D : Nat} (hk : ∀ (M' : zm_M) (ρ' : Nat → Nat) (n : Nat), zP G Bm M0 M' ι α K ρ' → D = 2 ^ n * ρ' 2 → ρ' 2 % 2 ≠ 0 → k53 Bm w (nI n) M') : ∀ (N n : Nat) (M : zm_M) (ρ : Nat → Nat), zP G Bm M0 M ι α K ρ → 0 < ρ 2 → ρ 2 < 2 ^ N → D = 2 ^ n * ρ 2 → pX7_period_34 G post k53 (N + 1) Bm w (nI n) M
  | 0, n, M, ρ, h, h0, hl, he => absurd hl (by rw [Nat.pow_zero]; omega)
  | N + 1, n, M, ρ, h, h0, hl, he => by
    rw [pX7_period_34]
    refine ⟨zP_o h, r7_isOdd h 2 ⟨fun y => ?_, fun y => ⟨zP_o h, r7_half h 2 (fun M1 k1 x11 e11 => ?_)⟩⟩⟩
    · refine hk M ρ n h he (fun c => ?_)
      rw [if_neg (by omega)] at y
      exact y rfl
    · have c : ρ 2 % 2 = 0 := by
        rcases Nat.mod_two_eq_zero_or_one (ρ 2) with c | c
        · exact c
        · rw [if_pos c] at y
          exact absurd y (by decide)
      have hdm := Nat.div_add_mod (ρ 2) 2
      rw [e11, nI_1]
      refine r7_perA hk N (n + 1) M1 _ k1 ?_ ?_ ?_
      · rw [rgu_s]; omega
      · rw [rgu_s]
        rw [Nat.pow_succ] at hl
        omega
      · rw [rgu_s, he, Nat.pow_succ, Nat.mul_assoc]
        congr 1
        omega
theorem r7_perB {k87 : Nat → Int32 → Int32 → Int32 → zm_M → Prop} {w v3 : Int32} {D : Nat} (hk : ∀ (M' : zm_M) (ρ' : Nat → Nat) (n : Nat), zP G Bm M0 M' ι α K ρ' → D = 5 ^ n * ρ' 2 → ρ' 2 % 5 ≠ 0 → k87 Bm w v3 (nI n) M') : ∀ (N n : Nat) (M : zm_M) (ρ : Nat → Nat), zP G Bm M0 M ι α K ρ → 0 < ρ 2 → ρ 2 < 2 ^ N → ρ 3 = ρ 2 → D = 5 ^ n * ρ 2 → pX7_period_62 G post k87 (N + 1) Bm w v3 (nI n) M
  | 0, n, M, ρ, h, h0, hl, h3, he => absurd hl (by rw [Nat.pow_zero]; omega)
  | N + 1, n, M, ρ, h, h0, hl, h3, he => by
    rw [pX7_period_62]
    have hm := Nat.mod_lt (ρ 3) (show 0 < 5 by decide)
    have hz : lN (ρ 3 % 5) = (0 : Int64) ↔ ρ 3 % 5 = 0 := lN_eq (b := 0) (by omega) (by decide)
    refine ⟨zP_o h, r7_bySmall h 3 5 (by decide) (by decide) (fun M1 k1 => ⟨fun y => ?_, fun y => ⟨zP_o k1, r7_copy k1 2 3 (fun M2 k2 x21 e21 => ?_)⟩⟩)⟩
    · refine hk M1 _ n k1 ?_ ?_
      · rw [rgu_n (by decide)]; exact he
      · rw [rgu_n (by decide), ← h3]
        exact fun c => y (hz.mpr c)
    · have c := hz.mp y
      have hdm := Nat.div_add_mod (ρ 3) 5
      rw [rgu_s] at k2
      rw [e21, nI_1]
      refine r7_perB hk N (n + 1) M2 _ k2 ?_ ?_ ?_ ?_
      · rw [rgu_s]; omega
      · rw [rgu_s]
        rw [Nat.pow_succ] at hl
        omega
      · rw [rgu_s, rgu_n (by decide), rgu_s]
      · rw [rgu_s, he, Nat.pow_succ, Nat.mul_assoc]
        congr 1
        omega
theorem r7_perC {d o : Nat} (hd : 2 ≤ d) (hd2 : d ≤ 100000) (ho : yod d o) (ho2 : o ≤ 100000) (hp : post (nI o) M) : ∀ (j m : Nat), m + j = o → 0 < m → pX7_period_162 G post (j + 1) (lN d) (nI m) (lN (10 ^ m % d)) M
  | j, m, hj, hm => by
    rw [pX7_period_162]
    have hml := Nat.mod_lt (10 ^ m) (show 0 < d by omega)
    have hz : lN (10 ^ m % d) = (1 : Int64) ↔ 10 ^ m % d = 1 := lN_eq (b := 1) (by omega) (by decide)
    refine ⟨fun y => ?_, fun y x35 e35 => ⟨fun c => ?_, fun x36 e36 => ?_⟩⟩
    · have h1 := (ymod hd).mp (hz.mp y)
      have e : m = o := by
        rcases Nat.lt_or_ge m o with c | c
        · exact absurd h1 (ho.2.2 m hm c)
        · omega
      rw [e]
      exact hp
    · have := (lN_eq (b := 0) (by omega) (by decide)).mp c
      omega
    · have hmo : m ≠ o := fun e => y (hz.mpr ((ymod hd).mpr (e ▸ ho.2.1)))
      obtain ⟨j', hj'⟩ : ∃ j', j = j' + 1 := ⟨j - 1, by omega⟩
      subst hj'
      have e10 : lN (10 ^ m % d) * (10 : Int64) = lN (10 ^ m % d * 10) := lN_mul _ 10
      rw [e35, e36, nI_1, e10, pk_lRem (by omega) (by omega) (by omega), Nat.mod_mul_mod, ← Nat.pow_succ]
      exact r7_perC hd hd2 ho ho2 hp j' (m + 1) (by omega) (by omega)
theorem ypr_ex {c : Nat} (hc : 2 ≤ c) : ∃ p, yPr p ∧ p ∣ c := by
  obtain ⟨p, h1, h2⟩ := pk_least (fun k => 2 ≤ k ∧ k ∣ c) ⟨c, hc, Nat.dvd_refl c⟩
  refine ⟨p, ⟨h1.1, fun q qd => ?_⟩, h1.2⟩
  have hq0 : q ≠ 0 := fun e => by
    rw [e] at qd
    have := Nat.eq_zero_of_zero_dvd qd
    have := h1.1
    omega
  rcases Nat.lt_or_ge q 2 with e | e
  · exact Or.inl (by omega)
  · have h8 := Nat.le_of_dvd (by have := h1.1; omega) qd
    rcases Nat.lt_or_ge q p with e2 | e2
    · exact absurd ⟨e, Nat.dvd_trans qd h1.2⟩ (h2 q e2)
    · exact Or.inr (by omega)
/-- Euler's row for every modulus that has no 2 or 5 -/
theorem yeuL : ∀ (N c : Nat), c ≤ N → 0 < c → Nat.Coprime c 10 → ∃ φ, 0 < φ ∧ φ ≤ c ∧ c ∣ 10 ^ φ - 1
  | 0, c, h, h0, _ => absurd h0 (by omega)
  | N + 1, c, h, h0, hc => by
    rcases Nat.lt_or_ge c 2 with e | e
    · exact ⟨1, by decide, by omega, by rw [show c = 1 by omega]; exact Nat.one_dvd _⟩
    · obtain ⟨p, pp, c', hc'⟩ := ypr_ex e
      have hp2 := pp.1
      have hc'0 : 0 < c' := by
        rcases Nat.eq_zero_or_pos c' with e | e
        · rw [e, Nat.mul_zero] at hc'; omega
        · exact e
      have hlt : 2 * c' ≤ c := by rw [hc']; exact Nat.mul_le_mul_right c' hp2
      obtain ⟨φ, f0, f1, f2⟩ := yeuL N c' (by omega) hc'0 (Nat.Coprime.coprime_dvd_left ⟨p, by rw [hc', Nat.mul_comm]⟩ hc)
      by_cases d : p ∣ c'
      · refine ⟨φ * p, Nat.mul_pos f0 (by omega), by rw [hc', Nat.mul_comm p c']; exact Nat.mul_le_mul_right p f1, ?_⟩
        rw [hc', Nat.mul_comm p c', Nat.pow_mul]
        exact ylft (yp1 φ) f2 d
      · have hcop : Nat.Coprime p c' := by
          rcases pp.2 _ (Nat.gcd_dvd_left p c') with h | h
          · exact h
          · exact absurd (h ▸ Nat.gcd_dvd_right p c') d
        refine ⟨φ * (p - 1), Nat.mul_pos f0 (by omega), by rw [hc', Nat.mul_comm p c']; exact Nat.mul_le_mul f1 (by omega), ?_⟩
        rw [hc']
        refine Nat.Coprime.mul_dvd_of_dvd_of_dvd hcop ?_ ?_
        · rw [Nat.mul_comm, Nat.pow_mul]
          exact ydp (yp1 _) (yfer10 pp (Nat.Coprime.coprime_dvd_left ⟨c', hc'⟩ hc)) φ
        · rw [Nat.pow_mul]
          exact ydp (yp1 φ) f2 _
theorem yeul {d : Nat} (hd : 2 ≤ d) (hd2 : d ≤ 100000) (hc : Nat.Coprime d 10) : ∃ o, yod d o ∧ o ≤ 100000 := by
  obtain ⟨φ, h0, h1, h2⟩ := yeuL d d (Nat.le_refl d) (by omega) hc
  obtain ⟨o, ho, hoφ⟩ := yod_ex h0 h2
  exact ⟨o, ho, by omega⟩
theorem m7_period (h : zRM G Bm M0 M S t) {x w : Int32} (hp : ∀ M', zRM G Bm M0 M' (zo_period S x w).2 0 → post (zo_period S x w).1 M') : pX7_period G Bm x w post M := by
  obtain ⟨ι, α, K, ρ, h, r, _⟩ := h
  unfold zo_period at hp
  unfold pX7_period
  refine r7_thr h (fun M1 k1 => ?_)
  have r1 : zRn (upd ι 0 0) α K S := zRn_ι r (pk_un (by decide)) (pk_un (by decide))
  refine ⟨zP_o k1, r7_isNumber k1 r1 (fun e => ⟨fun _ => ?_, fun z => absurd rfl z⟩) (fun a e ha ht hx => ⟨fun z => absurd z (by decide), fun _ => r7_in ?_⟩)⟩
  · rw [e] at hp
    exact hp M1 ⟨_, _, _, _, k1, r1, pk_us⟩
  · rw [e] at hp
    simp only at hp
    subst hx
    rw [i64_of32, show (0 : Int64).toInt = 0 from rfl, show (1 : Int64).toInt = 1 from rfl]
    by_cases c : 0 ≤ w.toInt ∧ w.toInt ≤ 1
    · rw [if_pos c] at hp ⊢
      obtain ⟨a1, a2, a3, ga⟩ := zRn_a r1 ha ht
      refine ⟨fun _ => ⟨zP_o k1, r7_takeD k1 r1 2 a ha ht (fun M2 k2 x7 e7 => ⟨513, ?_⟩)⟩, fun z => absurd z (by decide)⟩
      rw [e7]
      have hDl : sD S a < 2 ^ 512 := by rw [p512]; exact ga.2.2.2.2
      have hD0 : 0 < sD S a := Nat.pos_of_ne_zero ga.1
      refine r7_perA (D := sD S a) (fun M3 ρ3 k2n k3 e3 n3 x16 e16 => ⟨zP_o k3, r7_copy k3 3 2 (fun M4 k4 => ⟨513, ?_⟩)⟩) 512 0 M2 _ k2 (by rw [rgu_s]; exact hD0) (by rw [rgu_s]; exact hDl) (by rw [rgu_s, Nat.pow_zero, Nat.one_mul])
      have h30 : 0 < ρ3 2 := by
        rcases Nat.eq_zero_or_pos (ρ3 2) with e | e
        · rw [e] at n3; exact absurd rfl n3
        · exact e
      have h2p : 0 < 2 ^ k2n := Nat.pow_pos (by decide)
      have h3l : ρ3 2 < 2 ^ 512 := by
        have h9 : 1 * ρ3 2 ≤ 2 ^ k2n * ρ3 2 := Nat.mul_le_mul_right _ h2p
        omega
      have hk2n : k2n < 512 := by
        have h9 : 2 ^ k2n * 1 ≤ 2 ^ k2n * ρ3 2 := Nat.mul_le_mul_left _ h30
        exact (Nat.pow_lt_pow_iff_right (a := 2) (by decide)).mp (by omega)
      rw [e16]
      refine r7_perB (D := ρ3 2) (fun M5 ρ5 k5n k5 e5 n5 => ?_) 512 0 M4 _ k4 (by rw [rgu_n (by decide)]; exact h30) (by rw [rgu_n (by decide)]; exact h3l) (by rw [rgu_s, rgu_n (by decide)]) (by rw [rgu_n (by decide), Nat.pow_zero, Nat.one_mul])
      have h50 : 0 < ρ5 2 := by
        rcases Nat.eq_zero_or_pos (ρ5 2) with e | e
        · rw [e] at n5; exact absurd rfl n5
        · exact e
      have hk5n : k5n < 512 := by
        have h9 : 5 ^ k5n * 1 ≤ 5 ^ k5n * ρ5 2 := Nat.mul_le_mul_left _ h50
        have h8 : 2 ^ k5n ≤ 5 ^ k5n := Nat.pow_le_pow_left (by decide) _
        exact (Nat.pow_lt_pow_iff_right (a := 2) (by decide)).mp (by omega)
      have f2 : yfc 2 512 (sD S a) = (k2n, ρ3 2) := by rw [e3]; exact yfc_u (by decide) 512 k2n _ hk2n n3
      have f5 : yfc 5 512 (ρ3 2) = (k5n, ρ5 2) := by rw [e5]; exact yfc_u (by decide) 512 k5n _ hk5n n5
      simp only [f2, f5] at hp
      have hp := hp M5 ⟨_, _, _, _, k5, r1, pk_us⟩
      obtain ⟨g, n, kk, hz⟩ := k5
      obtain ⟨u, u1, u2, u3, u4, u5⟩ := hz 2 (by decide)
      refine nA kk (nR kk (r := 2) (by decide) ?_)
      rw [u1]
      have hbig : 1 < u → 4294967296 ≤ ρ5 2 := by
        intro hu
        rcases Nat.lt_or_ge (ρ5 2) 4294967296 with q | q
        · have := zsmall36 u4 u5 (k := 1) (by rw [Nat.pow_one]; exact q)
          omega
        · exact q
      refine ⟨fun y => ?_, fun y => ?_⟩
      · have hu : 1 < u := (nI_ltI (a := 1) (by decide) (by omega)).mp y
        have := hbig hu
        rw [if_pos (by omega)] at hp
        exact hp
      · have hu : ¬ 1 < u := fun q => y ((nI_ltI (a := 1) (by decide) (by omega)).mpr q)
        have hu1 : u = 1 := by
          rcases Nat.eq_zero_or_pos u with q | q
          · rw [q] at u4
            have : ρ5 2 = 0 := u4
            omega
          · omega
        subst hu1
        have e0 : g (72 * 2) = lN (dgt g 2 0) := gLN (g := g) (r := 2) (i := 0)
        have e1 : dgt g 2 0 = ρ5 2 := by
          rw [u4, zs_step]
          show _ = 0 + _ * 4294967296 ^ 0
          omega
        rw [e1] at e0
        have hlt : ρ5 2 < 4294967296 := by rw [← e1]; exact u3 0 (by decide)
        refine gA kk (gR7 kk (j := 144) rfl (by decide) ?_)
        rw [show g 144 = lN (ρ5 2) from e0]
        refine ⟨fun y2 => ?_, fun y2 => ?_⟩
        · have hs : ¬ 100000 < ρ5 2 := by
            have := (pk_lLE (b := 100000) (by omega) (by decide)).mp y2
            omega
          rw [if_neg hs] at hp
          refine ⟨fun y3 => gA kk (gR7 kk (j := 144) rfl (by decide) ?_), fun y3 => ?_⟩
          · rw [if_neg y3] at hp
            rw [show g 144 = lN (ρ5 2) from e0]
            refine ⟨fun y4 x33 e33 => ⟨fun q => ?_, fun x34 e34 => ?_⟩, fun y4 => ?_⟩
            · have := (pk_lEQ (b := 0) (by omega) (by decide)).mp q
              omega
            · have h1 : ρ5 2 ≠ 1 := fun q => y4 (by rw [q]; rfl)
              rw [if_neg h1] at hp
              have hn2 : ρ5 2 % 2 ≠ 0 := fun z => n3 (by rw [e5, Nat.mul_mod, z, Nat.mul_zero])
              obtain ⟨o, ho, ho2⟩ := yeul (d := ρ5 2) (by omega) (by omega) (ycop hn2 n5)
              rw [yoS_u (by omega) ho 100000 1 (by decide) ho.1 (by omega)] at hp
              have e10 : (10 : Int64) - (10 : Int64) / lN (ρ5 2) * lN (ρ5 2) = lN (10 % ρ5 2) := pk_lRem (a := 10) (by decide) (by omega) (by omega)
              refine ⟨o, ?_⟩
              rw [e33, e34, e10]
              have hj : o - 1 + 1 = o := by have := ho.1; omega
              have := r7_perC (G := G) (post := post) (M := M5) (d := ρ5 2) (by omega) (by omega) ho ho2 hp (o - 1) 1 (by omega) (by decide)
              rw [hj, Nat.pow_one] at this
              exact this
            · have h1 : ρ5 2 = 1 := (pk_lEQ (b := 1) (by omega) (by decide)).mp y4
              rw [if_pos h1] at hp
              exact hp
          · rw [if_pos y3] at hp
            refine ⟨fun y4 => ?_, fun y4 => ?_⟩
            · have q := (nI_leI (by omega) (by omega)).mp y4
              by_cases c1 : k2n < k5n
              · rw [if_pos c1] at hp
                exact hp
              · rw [if_neg c1] at hp
                rw [show k5n = k2n by omega]
                exact hp
            · have q : ¬ k2n ≤ k5n := fun q => y4 ((nI_leI (by omega) (by omega)).mpr q)
              rw [if_neg (by omega)] at hp
              exact hp
        · have hs : 100000 < ρ5 2 := by
            rcases Nat.lt_or_ge 100000 (ρ5 2) with q | q
            · exact q
            · exact absurd ((pk_lLE (b := 100000) (by omega) (by decide)).mpr q) y2
          rw [if_pos hs] at hp
          exact hp
    · rw [if_neg c] at hp ⊢
      exact ⟨fun z => absurd rfl z, fun _ => hp M1 ⟨_, _, _, _, k1, r1, pk_us⟩⟩
end P7
