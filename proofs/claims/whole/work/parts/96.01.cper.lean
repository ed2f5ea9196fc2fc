/-! ===== THE CLASS: period ===== -/
def zo_period (S : zS) (x w : Int32) : Int32 × zS := match zfd S x with
  | none => (-1, S)
  | some a => (if 0 ≤ w.toInt ∧ w.toInt ≤ 1 then if 100000 < (yfc 5 512 (yfc 2 512 (sD S a)).2).2 then -2 else if w = 0 then nI (if (yfc 2 512 (sD S a)).1 < (yfc 5 512 (yfc 2 512 (sD S a)).2).1 then (yfc 5 512 (yfc 2 512 (sD S a)).2).1 else (yfc 2 512 (sD S a)).1) else if (yfc 5 512 (yfc 2 512 (sD S a)).2).2 = 1 then 0 else nI (yoS (yfc 5 512 (yfc 2 512 (sD S a)).2).2 100000 1) else -1, S)
section P6
variable {G : Nat → ClassId} {B : Nat} {M0 M : zm_M} {S : zS} {post : Int32 → zm_M → Prop}
theorem c6_lfL {k23 : Int32 → zm_M → Prop} {n : Nat} (hn : 2 ≤ n) (hn2 : n < 2 ^ 30) (hp : ∀ p, yPr p → p ∣ n → (∀ q, 2 ≤ q → q ∣ n → p ≤ q) → post (nI p) M) (hk : yPr n → (∀ q, 2 ≤ q → q ∣ n → n ≤ q) → k23 (nI n) M) : ∀ (f k : Nat), f + k = n + 1 → 2 ≤ k → k ≤ n → (∀ q, 2 ≤ q → q < k → ¬ q ∣ n) → pX6_leastFactor_2 G post k23 f (nI n) (nI k) M
  | 0, k, hf, h2, hk2, hq => absurd hk2 (by omega)
  | f + 1, k, hf, h2, hk2, hq => by
    rw [pX6_leastFactor_2]
    have h0 : ¬ nI k = 0 := nI_ne0 (by omega) (by omega)
    rw [pk_div (by omega) (by omega) (by omega)]
    have hdl := Nat.div_le_self n k
    refine ⟨h0, fun y => ?_, fun y => ⟨h0, fun z x2 e2 => ?_, fun z => ?_⟩⟩
    · have y := (nI_ltI (by omega) (by omega)).mp y
      have hlt : n < k * k := (Nat.div_lt_iff_lt_mul (by omega)).mp y
      have hall : ∀ q, 2 ≤ q → q ∣ n → n ≤ q := by
        intro q q2 qd
        obtain ⟨r, hr⟩ := qd
        have hqk : k ≤ q := by
          rcases Nat.lt_or_ge q k with c | c
          · exact absurd ⟨r, hr⟩ (hq q q2 c)
          · exact c
        rcases Nat.lt_or_ge r 2 with c | c
        · have : r = 0 ∨ r = 1 := by omega
          rcases this with e | e
          · rw [e, Nat.mul_zero] at hr; omega
          · rw [e, Nat.mul_one] at hr; omega
        · have hrk : k ≤ r := by
            rcases Nat.lt_or_ge r k with c2 | c2
            · exact absurd ⟨q, by rw [hr, Nat.mul_comm]⟩ (hq r c c2)
            · exact c2
          have := Nat.mul_le_mul hqk hrk
          omega
      refine hk ⟨hn, fun q qd => ?_⟩ hall
      have hq0 : q ≠ 0 := fun e => by
        rw [e] at qd
        have := Nat.eq_zero_of_zero_dvd qd
        omega
      rcases Nat.lt_or_ge q 2 with c | c
      · exact Or.inl (by omega)
      · have h8 := hall q c qd
        have h9 := Nat.le_of_dvd (by omega) qd
        exact Or.inr (by omega)
    · have y' : ¬ n / k < k := fun c => y ((nI_ltI (by omega) (by omega)).mpr c)
      have hkk : k * k ≤ n := by
        have h5 : k ≤ n / k := by omega
        have h6 := Nat.mul_le_mul_left k h5
        have h7 := Nat.mul_div_le n k
        omega
      have hk1 : k + 1 ≤ n := by
        have : 2 * k ≤ k * k := Nat.mul_le_mul_right k h2
        omega
      rw [e2, nI_1]
      refine c6_lfL hn hn2 hp hk f (k + 1) (by omega) (by omega) hk1 (fun q q2 qk qd => ?_)
      by_cases e : q = k
      · subst e
        refine z ?_
        rw [← pk_div (by omega) (by omega) (by omega), pk_rem (by omega) (by omega) (by omega), Nat.mod_eq_zero_of_dvd qd]
        rfl
      · exact hq q q2 (by omega) qd
    · rw [← pk_div (by omega) (by omega) (by omega), pk_rem (by omega) (by omega) (by omega)] at z
      have hm := Nat.mod_lt n (show 0 < k by omega)
      have hd : k ∣ n := Nat.dvd_of_mod_eq_zero ((nI_eq (b := 0) (by omega) (by decide)).mp z)
      have hle : ∀ q, 2 ≤ q → q ∣ n → k ≤ q := fun q q2 qd => by
        rcases Nat.lt_or_ge q k with c | c
        · exact absurd qd (hq q q2 c)
        · exact c
      refine hp k ⟨h2, fun q qd => ?_⟩ hd hle
      have hq0 : q ≠ 0 := fun e => by
        rw [e] at qd
        have := Nat.eq_zero_of_zero_dvd qd
        omega
      rcases Nat.lt_or_ge q 2 with c | c
      · exact Or.inl (by omega)
      · have h8 := hle q c (Nat.dvd_trans qd hd)
        have h9 := Nat.le_of_dvd (by omega) qd
        exact Or.inr (by omega)
theorem c6_lf {n : Nat} (hn : 2 ≤ n) (hn2 : n < 2 ^ 30) (hp : ∀ p, yPr p → p ∣ n → (∀ q, 2 ≤ q → q ∣ n → p ≤ q) → post (nI p) M) : pX6_leastFactor G (nI n) post M := by
  unfold pX6_leastFactor
  refine fun x1 e1 => ⟨n - 1, ?_⟩
  rw [e1]
  refine c6_lfL hn hn2 hp (fun h1 h2 => ?_) (n - 1) 2 (by omega) (Nat.le_refl 2) hn (fun q q2 qk => absurd qk (by omega))
  have hlt : ¬ nI n < (2 : Int32) := fun c => absurd ((nI_ltI (b := 2) (by omega) (by decide)).mp c) (by omega)
  rw [if_neg hlt]
  exact hp n h1 (Nat.dvd_refl n) h2
theorem c6_totL {d : Nat} (hd2 : d < 2 ^ 20) (hc : Nat.Coprime d 10) (hp : ∀ φ, 0 < φ → φ ≤ d → d ∣ 10 ^ φ - 1 → post (nI φ) M) : ∀ (j k c l b φ : Nat), k + j = 32 → d = c * l → 0 < l → l < 2 ^ j → 0 < φ → φ ≤ c → c ∣ 10 ^ φ - 1 → (b = 1 ∨ b ∣ c) → (∀ q, 2 ≤ q → q ∣ l → b ≤ q) → (∀ q, yPr q → q ∣ c → q ≤ b) → b < 2 ^ 20 → pX6_totient_9 G post (j + 1) (nI (φ * l)) (nI l) (nI b) (nI k) M
  | 0, k, c, l, b, φ, hk, hd, hl0, hl, _, _, _, _, _, _, _ => absurd hl (by rw [Nat.pow_zero]; omega)
  | j + 1, k, c, l, b, φ, hk, hd, hl0, hl, hφ, hφc, hcd, hb, hbl, hbc, hb2 => by
    rw [pX6_totient_9]
    have hld : l ≤ d := by
      have : 1 * l ≤ c * l := Nat.mul_le_mul_right l (by omega)
      omega
    have hfl : φ * l ≤ d := by rw [hd]; exact Nat.mul_le_mul_right l hφc
    refine ⟨fun y => absurd ((nI_leI (a := 32) (by decide) (by omega)).mp y) (by omega), fun _ => ⟨fun y => ?_, fun y => ?_⟩⟩
    · have e : l = 1 := by have := (nI_leI (b := 1) (by omega) (by decide)).mp y; omega
      subst e
      rw [Nat.mul_one] at hd ⊢
      exact hp φ hφ (by omega) (hd ▸ hcd)
    · have hl2 : 2 ≤ l := by
        rcases Nat.lt_or_ge l 2 with c | c
        · exact absurd ((nI_leI (b := 1) (by omega) (by decide)).mpr (by omega)) y
        · exact c
      refine c6_lf hl2 (by omega) (fun p pp pd pl => ?_)
      obtain ⟨l', hl'⟩ := pd
      have hp2 := pp.1
      have hl'0 : 0 < l' := by
        rcases Nat.eq_zero_or_pos l' with e | e
        · rw [e, Nat.mul_zero] at hl'; omega
        · exact e
      have hpl : p ≤ l := by rw [hl']; exact Nat.le_mul_of_pos_right p hl'0
      have hdiv : l / p = l' := by rw [hl', Nat.mul_div_cancel_left _ (by omega)]
      have hl'j : l' < 2 ^ j := by
        have h1 : 2 * l' ≤ l := by rw [hl']; exact Nat.mul_le_mul_right l' hp2
        rw [Nat.pow_succ] at hl
        omega
      have hp0 : ¬ nI p = 0 := nI_ne0 (by omega) (by omega)
      have hd' : d = c * p * l' := by rw [hd, hl', Nat.mul_assoc]
      have hbp : b ≤ p := hbl p hp2 ⟨l', hl'⟩
      have hbl' : ∀ q, 2 ≤ q → q ∣ l' → p ≤ q := fun q q2 qd => pl q q2 (Nat.dvd_trans qd ⟨p, by rw [hl', Nat.mul_comm]⟩)
      have hpc : p ∣ c * p := Nat.dvd_mul_left p c
      have hbc' : ∀ q, yPr q → q ∣ c * p → q ≤ p := by
        intro q qp qd
        by_cases e : q ∣ p
        · exact Nat.le_of_dvd (by omega) e
        · have hcop : Nat.Coprime q p := by
            rcases qp.2 _ (Nat.gcd_dvd_left q p) with h | h
            · exact h
            · exact absurd (h ▸ Nat.gcd_dvd_right q p) e
          have := hbc q qp (Nat.Coprime.dvd_of_dvd_mul_right hcop qd)
          omega
      refine ⟨fun y2 => ?_, fun y2 => ⟨hp0, fun x7 e7 => ?_⟩⟩
      · have e : p = b := (nI_eq (by omega) (by omega)).mp y2
        unfold pX6_totient_40
        refine ⟨hp0, fun x5 e5 x6 e6 => ?_⟩
        rw [e5, e6, nI_1, pk_div (by omega) (by omega) (by omega), hdiv]
        have hpc2 : p ∣ c := by
          rcases hb with h | h
          · omega
          · rw [e]; exact h
        rw [show φ * l = φ * p * l' by rw [hl', Nat.mul_assoc]]
        refine c6_totL hd2 hc hp j (k + 1) (c * p) l' p (φ * p) (by omega) hd' hl'0 hl'j (Nat.mul_pos hφ (by omega)) (Nat.mul_le_mul_right p hφc) ?_ (Or.inr hpc) hbl' hbc' (by omega)
        rw [Nat.pow_mul]
        exact ylft (yp1 φ) hcd hpc2
      · have hne : p ≠ b := fun e => y2 (by rw [e])
        unfold pX6_totient_40
        refine ⟨hp0, fun x5 e5 x6 e6 => ?_⟩
        have hdv2 : φ * l / p = φ * l' := by rw [hl', Nat.mul_left_comm, Nat.mul_div_cancel_left _ (by omega)]
        rw [e5, e6, e7, nI_1, pk_div (a := φ * l) (by omega) (by omega) (by omega), pk_div (a := l) (by omega) (by omega) (by omega), hdiv, hdv2]
        obtain ⟨p', hp'⟩ : ∃ p', p = p' + 1 := ⟨p - 1, by omega⟩
        have hsub : φ * l - φ * l' = φ * p' * l' := by
          rw [hl', hp', Nat.succ_mul, Nat.mul_add, Nat.mul_assoc]
          omega
        rw [pk_sub (by rw [hl']; exact Nat.mul_le_mul_left φ (Nat.le_mul_of_pos_left l' (by omega))), hsub]
        have hcop : Nat.Coprime c p := by
          rcases pp.2 _ (Nat.gcd_dvd_right c p) with h | h
          · exact h
          · have := hbc p pp (h ▸ Nat.gcd_dvd_left c p)
            omega
        have hp10 : Nat.Coprime p 10 := Nat.Coprime.coprime_dvd_left ⟨c * l', by rw [hd', Nat.mul_comm c p, Nat.mul_assoc]⟩ hc
        refine c6_totL hd2 hc hp j (k + 1) (c * p) l' p (φ * p') (by omega) hd' hl'0 hl'j (Nat.mul_pos hφ (by omega)) (Nat.mul_le_mul hφc (by omega)) ?_ (Or.inr hpc) hbl' hbc' (by omega)
        refine Nat.Coprime.mul_dvd_of_dvd_of_dvd hcop ?_ ?_
        · rw [Nat.pow_mul]
          exact ydp (yp1 φ) hcd p'
        · rw [Nat.mul_comm φ p', Nat.pow_mul]
          have := yfer10 pp hp10
          rw [show p - 1 = p' by omega] at this
          exact ydp (yp1 p') this φ
theorem c6_tot {d : Nat} (hd : 2 ≤ d) (hd2 : d < 2 ^ 20) (hc : Nat.Coprime d 10) (hp : ∀ φ, 0 < φ → φ ≤ d → d ∣ 10 ^ φ - 1 → post (nI φ) M) : pX6_totient G (nI d) post M := by
  unfold pX6_totient
  refine fun x1 e1 x2 e2 => ⟨33, ?_⟩
  rw [e1, e2]
  have := c6_totL (G := G) (M := M) hd2 hc hp 32 0 1 d 1 1 (by decide) (by omega) (by omega) (by omega) (by decide) (by decide) (Nat.one_dvd _) (Or.inl rfl) (fun q q2 _ => by omega) (fun q qp qd => Nat.le_of_dvd (by decide) qd) (by decide)
  rw [Nat.one_mul] at this
  exact this
theorem c6_tenL {d R : Nat} (hd : 1 ≤ d) (hd2 : d < 2 ^ 20) (hp : post (nI R) M) (hR : R < d) : ∀ (j a b t : Nat), t < 2 ^ j → t < 2 ^ 31 → a < d → b < d → a * b ^ t % d = R → pX6_tenToThe_22 G post (j + 1) (nI d) (lN a) (lN b) (nI t) M
  | j, a, b, t, ht, ht2, ha, hb, he => by
    rw [pX6_tenToThe_22]
    have hdl : (nI d).toInt64 = lN d := nI_l (by omega)
    have hd0 : ¬ lN d = (0 : Int64) := fun c => by
      have := (pk_lEQ (b := 0) (by omega) (by decide)).mp c
      omega
    refine ⟨fun y => ?_, fun y => ?_⟩
    · have e : t = 0 := by have := (nI_leI (b := 0) (by omega) (by decide)).mp y; omega
      subst e
      rw [Nat.pow_zero, Nat.mul_one, Nat.mod_eq_of_lt ha] at he
      subst he
      rw [lN_i32 (by omega)]
      exact hp
    · have ht0 : 0 < t := by
        rcases Nat.eq_zero_or_pos t with c | c
        · exact absurd (by rw [c]; decide) y
        · exact c
      obtain ⟨j', hj'⟩ : ∃ j', j = j' + 1 := ⟨j - 1, by
        rcases Nat.eq_zero_or_pos j with c | c
        · rw [c, Nat.pow_zero] at ht; omega
        · omega⟩
      subst hj'
      have hand : nI t &&& (1 : Int32) = nI (t % 2) := pk_andN (by omega) 1 (by decide)
      have hshr : nI t >>> ((1 : Int32) &&& 31) = nI (t / 2) := pk_shrN ht2 _ 1 (by decide)
      have hbb : b * b < 2 ^ 63 := Nat.lt_of_lt_of_le (Nat.mul_lt_mul_of_lt_of_lt hb hb) (Nat.le_trans (Nat.mul_le_mul (by omega : d ≤ 2 ^ 20) (by omega : d ≤ 2 ^ 20)) (by decide))
      have hab : a * b < 2 ^ 63 := Nat.lt_of_lt_of_le (Nat.mul_lt_mul_of_lt_of_lt ha hb) (Nat.le_trans (Nat.mul_le_mul (by omega : d ≤ 2 ^ 20) (by omega : d ≤ 2 ^ 20)) (by decide))
      have hdm := Nat.div_add_mod t 2
      have ht3 : t / 2 < 2 ^ j' := by rw [Nat.pow_succ] at ht; omega
      have key : ∀ x, x * (b * b % d) ^ (t / 2) % d = x * b ^ (2 * (t / 2)) % d := fun x => by
        rw [Nat.mul_mod, ← Nat.pow_mod, ← Nat.mul_mod, ← Nat.pow_two, ← Nat.pow_mul]
      have go : ∀ a', a' < d → a' * b ^ (2 * (t / 2)) % d = R → pX6_tenToThe_43 G post (pX6_tenToThe_22 G post (j' + 1)) (nI d) (lN a') (lN b) (nI t) M := by
        intro a' ha' he'
        unfold pX6_tenToThe_43
        rw [hdl]
        refine ⟨hd0, fun x3 e3 x4 e4 => ?_⟩
        rw [e3, e4, hshr, lN_mul, pk_lRem hbb (by omega) (by omega)]
        exact c6_tenL hd hd2 hp hR j' a' (b * b % d) (t / 2) ht3 (by omega) ha' (Nat.mod_lt _ (by omega)) (by rw [key]; exact he')
      refine ⟨fun z => ?_, fun z => ?_⟩
      · have e : t % 2 = 0 := by
          rcases Nat.mod_two_eq_zero_or_one t with c | c
          · exact c
          · exact absurd (by rw [hand, c]; rfl) z
        refine go a ha ?_
        rw [show 2 * (t / 2) = t by omega]
        exact he
      · have e : t % 2 = 1 := by
          rw [hand] at z
          exact (nI_eq (b := 1) (by omega) (by decide)).mp z
        rw [hdl]
        refine ⟨hd0, fun x5 e5 => ?_⟩
        rw [e5, lN_mul, pk_lRem hab (by omega) (by omega)]
        refine go _ (Nat.mod_lt _ (by omega)) ?_
        rw [Nat.mod_mul_mod, Nat.mul_assoc, ← Nat.pow_succ', show (2 * (t / 2)).succ = t by omega]
        exact he
theorem c6_ten {n d : Nat} (hd : 1 ≤ d) (hd2 : d < 2 ^ 20) (hn : n < 2 ^ 31) (hp : post (nI (10 ^ n % d)) M) : pX6_tenToThe G (nI n) (nI d) post M := by
  unfold pX6_tenToThe
  have h0 : ¬ nI d = 0 := nI_ne0 (by omega) (by omega)
  refine ⟨fun _ => ⟨h0, fun x1 e1 => ⟨h0, fun x2 e2 => ⟨32, ?_⟩⟩⟩, fun y => absurd ((nI_leI (a := 1) (by decide) (by omega)).mpr hd) y⟩
  have q1 : (1 : Int32) - (1 : Int32) / nI d * nI d = nI (1 % d) := pk_rem (a := 1) (by decide) (by omega) (by omega)
  have q2 : (10 : Int32) - (10 : Int32) / nI d * nI d = nI (10 % d) := pk_rem (a := 10) (by decide) (by omega) (by omega)
  have m1 := Nat.mod_lt 1 (show 0 < d by omega)
  have m2 := Nat.mod_lt 10 (show 0 < d by omega)
  rw [e1, e2, q1, q2, nI_l (by omega), nI_l (by omega)]
  refine c6_tenL hd hd2 hp (Nat.mod_lt _ (by omega)) 31 (1 % d) (10 % d) n hn hn m1 m2 ?_
  rw [Nat.mod_mul_mod, Nat.one_mul, ← Nat.pow_mod]
theorem c6_ordL {d o : Nat} (hd : 2 ≤ d) (hd2 : d < 2 ^ 20) (ho : yod d o) (hp : post (nI o) M) : ∀ (j k m l : Nat), k + j = 32 → 0 < m → o * m < 2 ^ 20 → m ∣ l → l ∣ o * m → 0 < l → l < 2 ^ j → pX6_orderOfTen_16 G post (j + 1) (nI d) (nI (o * m)) (nI l) (nI k) M
  | 0, k, m, l, hk, _, _, _, _, hl0, hl => absurd hl (by rw [Nat.pow_zero]; omega)
  | j + 1, k, m, l, hk, hm0, hom, hml, hlo, hl0, hl => by
    rw [pX6_orderOfTen_16]
    have hl20 : l < 2 ^ 20 := Nat.lt_of_le_of_lt (Nat.le_of_dvd (Nat.mul_pos ho.1 hm0) hlo) hom
    refine ⟨fun y => absurd ((nI_leI (a := 32) (by decide) (by omega)).mp y) (by omega), fun _ => ⟨fun y => ?_, fun y => ?_⟩⟩
    · have e : l = 1 := by have := (nI_leI (b := 1) (by omega) (by decide)).mp y; omega
      subst e
      rw [Nat.dvd_one.mp hml, Nat.mul_one]
      exact hp
    · have hl2 : 2 ≤ l := by
        rcases Nat.lt_or_ge l 2 with c | c
        · exact absurd ((nI_leI (b := 1) (by omega) (by decide)).mpr (by omega)) y
        · exact c
      refine c6_lf hl2 (by omega) (fun p pp pd pl => ?_)
      have hp2 := pp.1
      have hpo : p ∣ o * m := Nat.dvd_trans pd hlo
      have hst := yod_st pp ho hpo
      obtain ⟨l', hl'⟩ := pd
      have hl'0 : 0 < l' := by
        rcases Nat.eq_zero_or_pos l' with e | e
        · rw [e, Nat.mul_zero] at hl'; omega
        · exact e
      have hpl : p ≤ l := by rw [hl']; exact Nat.le_mul_of_pos_right p hl'0
      have hdiv : l / p = l' := by rw [hl', Nat.mul_div_cancel_left _ (by omega)]
      have hl'j : l' < 2 ^ j := by
        have h1 : 2 * l' ≤ l := by rw [hl']; exact Nat.mul_le_mul_right l' hp2
        rw [Nat.pow_succ] at hl
        omega
      have hp0 : ¬ nI p = 0 := nI_ne0 (by omega) (by omega)
      have hdl := Nat.div_le_self (o * m) p
      refine ⟨hp0, fun x6 e6 => ⟨hp0, ?_⟩⟩
      rw [e6, pk_div (by omega) (by omega) (by omega), pk_div (by omega) (by omega) (by omega), hdiv]
      refine c6_ten (by omega) hd2 (by omega) ?_
      have hm1 := Nat.mod_lt (10 ^ (o * m / p)) (show 0 < d by omega)
      have hiff : nI (10 ^ (o * m / p) % d) = (1 : Int32) ↔ p ∣ m := (nI_eq (b := 1) (by omega) (by decide)).trans ((ymod hd).trans hst)
      refine ⟨fun z x9 e9 => ?_, fun z => ⟨hp0, fun x10 e10 x11 e11 => ?_⟩⟩
      · have hpm : ¬ p ∣ m := fun c => z (hiff.mpr c)
        rw [e9, nI_1]
        have hcop : Nat.Coprime m p := by
          rcases pp.2 _ (Nat.gcd_dvd_right m p) with h | h
          · exact h
          · exact absurd (h ▸ Nat.gcd_dvd_left m p) hpm
        exact c6_ordL hd hd2 ho hp j (k + 1) m l' (by omega) hm0 hom (Nat.Coprime.dvd_of_dvd_mul_left hcop (hl' ▸ hml)) (Nat.dvd_trans ⟨p, by rw [hl', Nat.mul_comm]⟩ hlo) hl'0 hl'j
      · obtain ⟨m', hm'⟩ := hiff.mp z
        have e : o * m / p = o * m' := by rw [hm', Nat.mul_left_comm, Nat.mul_div_cancel_left _ (by omega)]
        rw [e10, e11, nI_1, e]
        have hm'0 : 0 < m' := by
          rcases Nat.eq_zero_or_pos m' with e | e
          · rw [e, Nat.mul_zero] at hm'; omega
          · exact e
        refine c6_ordL hd hd2 ho hp j (k + 1) m' l' (by omega) hm'0 (by omega) ?_ ?_ hl'0 hl'j
        · rw [hm', hl'] at hml
          exact Nat.dvd_of_mul_dvd_mul_left (by omega) hml
        · rw [hl', hm', Nat.mul_left_comm] at hlo
          exact Nat.dvd_of_mul_dvd_mul_left (by omega) hlo
theorem c6_ord {d : Nat} (hd : 2 ≤ d) (hd2 : d ≤ 100000) (hc : Nat.Coprime d 10) (hp : post (nI (yoS d 100000 1)) M) : pX6_orderOfTen G (nI d) post M := by
  unfold pX6_orderOfTen
  refine ⟨fun _ => c6_tot hd (by omega) hc (fun φ h0 h1 h2 x3 e3 => ⟨33, ?_⟩), fun y => absurd ((nI_leI (a := 2) (by decide) (by omega)).mpr hd) y⟩
  obtain ⟨o, ho, hoφ⟩ := yod_ex h0 h2
  obtain ⟨m, hm⟩ := yod_dvd ho h2
  rw [yoS_u hd ho 100000 1 (by decide) ho.1 (by omega)] at hp
  have hm0 : 0 < m := by
    rcases Nat.eq_zero_or_pos m with e | e
    · rw [e, Nat.mul_zero] at hm; omega
    · exact e
  rw [e3, hm]
  exact c6_ordL hd (by omega) ho hp 32 0 m (o * m) (by decide) hm0 (by omega) (Nat.dvd_mul_left m o) (Nat.dvd_refl _) (by omega) (by omega)
theorem ycop {r : Nat} (h2 : r % 2 ≠ 0) (h5 : r % 5 ≠ 0) : Nat.Coprime r 10 := by
  have e2 : Nat.Coprime r 2 := by
    have h := Nat.gcd_rec r 2
    show Nat.gcd r 2 = 1
    rw [Nat.gcd_comm, Nat.gcd_rec, show r % 2 = 1 by omega]
    exact Nat.gcd_one_left 2
  have e5 : Nat.Coprime r 5 := by
    show Nat.gcd r 5 = 1
    rw [Nat.gcd_comm, Nat.gcd_rec]
    have : r % 5 = 1 ∨ r % 5 = 2 ∨ r % 5 = 3 ∨ r % 5 = 4 := by omega
    rcases this with e | e | e | e <;> rw [e] <;> decide
  exact Nat.Coprime.mul_right (k := r) (m := 2) (n := 5) e2 e5
theorem c6_period (h : zRC G B M0 M S) {x w : Int32} (hp : ∀ M', zRC G B M0 M' (zo_period S x w).2 → post (zo_period S x w).1 M') : pX6_period G B x w post M := by
  obtain ⟨σ, τ, π, β, h, r⟩ := h
  unfold zo_period at hp
  unfold pX6_period
  have q0 : w < 0 ↔ w.toInt < 0 := i32_lt
  have q1 : w ≤ (1 : Int32) ↔ w.toInt ≤ 1 := Int32.le_iff_toInt_le
  refine ⟨zC_xo h, c6_find' h r (fun e => ?_) (fun a e ha ht hx => ⟨fun y => ?_, fun y => ⟨fun y2 => ?_, fun y2 => ?_⟩⟩)⟩
  · rw [e] at hp
    exact hp M ⟨σ, τ, π, β, h, r⟩
  · rw [e] at hp
    simp only at hp
    rw [if_neg (fun c => by have := q0.mp y; omega)] at hp
    exact hp M ⟨σ, τ, π, β, h, r⟩
  · rw [e] at hp
    simp only at hp
    have hw : 0 ≤ w.toInt ∧ w.toInt ≤ 1 := by
      have h1 := q1.mp y2
      have h2 : ¬ w.toInt < 0 := fun c => y (q0.mpr c)
      omega
    rw [if_pos hw] at hp
    obtain ⟨t1, t2, t3, t4⟩ := zRr_a r ha ht
    refine xB h (bL h (gB h a (by omega) ⟨zC_o h 50 (by decide), c5_copy h 50 (2 * a + 1) (by decide) (by omega) ?_ (fun M1 k1 => xB k1 ⟨zC_bo k1, ?_⟩)⟩))
    · rw [t3]
      exact Nat.lt_of_lt_of_le t4.2.2.2.2 (Nat.pow_le_pow_right (by decide) (by decide))
    rw [t3] at k1
    have hDl : ux σ 50 (sD S a) 50 < 2 ^ 512 := by rw [ux_s, p512]; exact t4.2.2.2.2
    refine c0_takeFactors k1 (f := 2) (by decide) (by decide) (by rw [ux_s]; exact t4.1) hDl (fun M2 σ2 k2n k2 hk2 e2 n2 s2 => xB k2 ⟨zC_bo k2, ?_⟩)
    rw [ux_s] at e2
    have h20 : σ2 50 ≠ 0 := fun c => n2 (by rw [c])
    have h2l : σ2 50 < 2 ^ 512 := by
      have h8 : sD S a < 2 ^ 512 := by rw [p512]; exact t4.2.2.2.2
      have h9 : 1 * σ2 50 ≤ 2 ^ k2n * σ2 50 := Nat.mul_le_mul_right _ (Nat.pow_pos (by decide))
      omega
    refine c0_takeFactors k2 (f := 5) (by decide) (by decide) h20 h2l (fun M3 σ3 k5n k3 hk5 e3 n3 s3 => ⟨zC_o k3 50 (by decide), c5_isAbove k3 50 (by decide) (by decide) ?_⟩)
    have r3 : zRr σ3 τ β S := zRr_k r (fun l hl => (s3 l (by omega) (by omega)).trans ((s2 l (by omega) (by omega)).trans (ux_n (by omega)))) (fun _ _ => rfl)
    have f2 : yfc 2 512 (sD S a) = (k2n, σ2 50) := by rw [e2]; exact yfc_u (by decide) 512 k2n _ hk2 n2
    have f5 : yfc 5 512 (σ2 50) = (k5n, σ3 50) := by rw [e3]; exact yfc_u (by decide) 512 k5n _ hk5 n3
    simp only [f2, f5] at hp
    have hp := hp M3 ⟨σ3, τ, π, β, k3, r3⟩
    have u5 : uN (100000 : Int64) = 100000 := rfl
    rw [u5]
    by_cases c : 100000 < σ3 50
    · rw [if_pos c] at hp ⊢
      exact ⟨fun y => absurd y (by decide), fun _ => hp⟩
    · rw [if_neg c] at hp ⊢
      refine ⟨fun _ => ⟨fun y3 => ⟨zC_o k3 50 (by decide), c5_low k3 50 (by decide) ?_⟩, fun y3 => ?_⟩, fun y => absurd rfl y⟩
      · rw [if_neg y3] at hp
        rw [Nat.mod_eq_of_lt (by omega), lN_i32 (by omega)]
        have hn2 : σ3 50 % 2 ≠ 0 := fun z => n2 (by rw [e3, Nat.mul_mod, z, Nat.mul_zero])
        have h30 : σ3 50 ≠ 0 := fun c => n3 (by rw [c])
        by_cases c1 : σ3 50 = 1
        · rw [if_pos c1] at hp
          unfold pX6_orderOfTen
          exact ⟨fun y => absurd ((nI_leI (a := 2) (by decide) (by omega)).mp y) (by omega), fun _ => hp⟩
        · rw [if_neg c1] at hp
          exact c6_ord (by omega) (by omega) (ycop hn2 n3) hp
      · rw [if_pos y3] at hp
        by_cases c1 : k2n < k5n
        · rw [if_pos c1] at hp
          rw [if_pos (nI_lt c1 (by omega))]
          exact hp
        · rw [if_neg c1] at hp
          rw [if_neg (nI_nlt (by omega) (by omega))]
          exact hp
  · rw [e] at hp
    simp only at hp
    rw [if_neg (fun c => y2 (q1.mpr c.2))] at hp
    exact hp M ⟨σ, τ, π, β, h, r⟩
end P6
