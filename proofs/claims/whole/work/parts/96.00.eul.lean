/-! ===== TEN'S POWERS BY A MODULUS: Fermat's row, Euler's by the way the class goes, the order ===== -/
def yPr (p : Nat) : Prop := 2 ≤ p ∧ ∀ q, q ∣ p → q = 1 ∨ q = p
def ybn : Nat → Nat → Nat
  | 0, 0 => 1
  | 0, _ + 1 => 0
  | _ + 1, 0 => 1
  | n + 1, k + 1 => ybn n k + ybn n (k + 1)
def ysu (f : Nat → Nat) : Nat → Nat
  | 0 => 0
  | n + 1 => ysu f n + f n
theorem ysu_sh (f : Nat → Nat) : ∀ n, ysu f (n + 1) = f 0 + ysu (fun k => f (k + 1)) n
  | 0 => by show 0 + f 0 = f 0 + 0; omega
  | n + 1 => by
    have ih := ysu_sh f n
    show ysu f (n + 1) + f (n + 1) = f 0 + (ysu (fun k => f (k + 1)) n + f (n + 1))
    omega
theorem ysu_add (f g : Nat → Nat) : ∀ n, ysu (fun k => f k + g k) n = ysu f n + ysu g n
  | 0 => rfl
  | n + 1 => by
    have ih := ysu_add f g n
    show ysu (fun k => f k + g k) n + (f n + g n) = ysu f n + f n + (ysu g n + g n)
    omega
theorem ysu_mul (f : Nat → Nat) (c : Nat) : ∀ n, ysu (fun k => f k * c) n = ysu f n * c
  | 0 => (Nat.zero_mul c).symm
  | n + 1 => by
    have ih := ysu_mul f c n
    show ysu (fun k => f k * c) n + f n * c = (ysu f n + f n) * c
    rw [ih, Nat.add_mul]
theorem ysu_cg {f g : Nat → Nat} : ∀ n, (∀ k, k < n → f k = g k) → ysu f n = ysu g n
  | 0, _ => rfl
  | n + 1, h => by
    show ysu f n + f n = ysu g n + g n
    rw [ysu_cg n (fun k hk => h k (by omega)), h n (by omega)]
theorem ysu_dvd {f : Nat → Nat} {p : Nat} : ∀ n, (∀ k, k < n → p ∣ f k) → p ∣ ysu f n
  | 0, _ => Nat.dvd_zero p
  | n + 1, h => Nat.dvd_add (ysu_dvd n (fun k hk => h k (by omega))) (h n (by omega))
theorem ybn_n0 : ∀ n, ybn n 0 = 1
  | 0 => rfl
  | _ + 1 => rfl
theorem ybn_0 : ∀ n k, n < k → ybn n k = 0
  | _, 0, h => absurd h (Nat.not_lt_zero _)
  | 0, _ + 1, _ => rfl
  | n + 1, k + 1, h => by
    show ybn n k + ybn n (k + 1) = 0
    rw [ybn_0 n k (by omega), ybn_0 n (k + 1) (by omega)]
theorem ybn_nn : ∀ n, ybn n n = 1
  | 0 => rfl
  | n + 1 => by
    show ybn n n + ybn n (n + 1) = 1
    rw [ybn_nn n, ybn_0 n (n + 1) (by omega)]
theorem ybn_ab : ∀ n k, (k + 1) * ybn (n + 1) (k + 1) = (n + 1) * ybn n k
  | 0, 0 => rfl
  | 0, k + 1 => by
    show (k + 1 + 1) * (0 + 0) = (0 + 1) * 0
    simp
  | n + 1, 0 => by
    have ih := ybn_ab n 0
    rw [ybn_n0] at ih
    show (0 + 1) * (ybn (n + 1) 0 + ybn (n + 1) (0 + 1)) = (n + 1 + 1) * ybn (n + 1) 0
    rw [ybn_n0]
    omega
  | n + 1, k + 1 => by
    have i1 := ybn_ab n (k + 1)
    have i2 := ybn_ab n k
    have i3 : ybn (n + 1) (k + 1) = ybn n k + ybn n (k + 1) := rfl
    show (k + 1 + 1) * (ybn (n + 1) (k + 1) + ybn (n + 1) (k + 1 + 1)) = (n + 1 + 1) * ybn (n + 1) (k + 1)
    rw [Nat.mul_add, i1]
    have i4 : (n + 1) * ybn (n + 1) (k + 1) = (n + 1) * ybn n k + (n + 1) * ybn n (k + 1) := by rw [i3, Nat.mul_add]
    have i5 : (k + 1 + 1) * ybn (n + 1) (k + 1) = (k + 1) * ybn (n + 1) (k + 1) + ybn (n + 1) (k + 1) := Nat.succ_mul _ _
    have i6 : (n + 1 + 1) * ybn (n + 1) (k + 1) = (n + 1) * ybn (n + 1) (k + 1) + ybn (n + 1) (k + 1) := Nat.succ_mul _ _
    omega
theorem ybin (a : Nat) : ∀ n, (a + 1) ^ n = ysu (fun k => ybn n k * a ^ k) (n + 1)
  | 0 => by
    show (a + 1) ^ 0 = 0 + 1 * a ^ 0
    simp
  | n + 1 => by
    have ih := ybin a n
    have e0 : ysu (fun k => ybn (n + 1) k * a ^ k) (n + 1 + 1) = ybn (n + 1) 0 * a ^ 0 + ysu (fun k => ybn (n + 1) (k + 1) * a ^ (k + 1)) (n + 1) := ysu_sh (fun k => ybn (n + 1) k * a ^ k) (n + 1)
    have e1 : ysu (fun k => ybn (n + 1) (k + 1) * a ^ (k + 1)) (n + 1) = ysu (fun k => ybn n k * a ^ k) (n + 1) * a + ysu (fun k => ybn n (k + 1) * a ^ (k + 1)) (n + 1) := by
      rw [← ysu_mul, ← ysu_add]
      refine ysu_cg _ (fun k _ => ?_)
      show (ybn n k + ybn n (k + 1)) * a ^ (k + 1) = ybn n k * a ^ k * a + ybn n (k + 1) * a ^ (k + 1)
      rw [Nat.add_mul, Nat.pow_succ a k, Nat.mul_assoc]
    have e2 : ysu (fun k => ybn n k * a ^ k) (n + 1 + 1) = ybn n 0 * a ^ 0 + ysu (fun k => ybn n (k + 1) * a ^ (k + 1)) (n + 1) := ysu_sh (fun k => ybn n k * a ^ k) (n + 1)
    have e3 : ysu (fun k => ybn n k * a ^ k) (n + 1 + 1) = ysu (fun k => ybn n k * a ^ k) (n + 1) + ybn n (n + 1) * a ^ (n + 1) := rfl
    rw [ybn_0 n (n + 1) (by omega), Nat.zero_mul, Nat.add_zero] at e3
    have e4 : (a + 1) ^ (n + 1) = (a + 1) ^ n * a + (a + 1) ^ n := by rw [Nat.pow_succ, Nat.mul_add, Nat.mul_one]
    rw [e4, ih, e0]
    have e5 : ybn (n + 1) 0 * a ^ 0 = ybn n 0 * a ^ 0 := by rw [ybn_n0, ybn_n0]
    have e6 := e2.symm.trans e3
    rw [e1, e5]
    omega
theorem ypr_cop {p k : Nat} (hp : yPr p) (h0 : 0 < k) (hk : k < p) : Nat.Coprime p k := by
  rcases hp.2 _ (Nat.gcd_dvd_left p k) with h | h
  · exact h
  · have := Nat.le_of_dvd h0 (Nat.gcd_dvd_right p k)
    omega
theorem ybn_dvd {p k : Nat} (hp : yPr p) (hk : k + 1 < p) : p ∣ ybn p (k + 1) := by
  obtain ⟨n, rfl⟩ : ∃ n, p = n + 1 := ⟨p - 1, by have := hp.1; omega⟩
  have h : n + 1 ∣ (k + 1) * ybn (n + 1) (k + 1) := by
    rw [ybn_ab]
    exact Nat.dvd_mul_right _ _
  exact Nat.Coprime.dvd_of_dvd_mul_left (ypr_cop hp (by omega) hk) h
/-- Fermat's row -/
theorem yfer {p : Nat} (hp : yPr p) : ∀ a, a ^ p % p = a % p
  | 0 => by rw [Nat.zero_pow (by have := hp.1; omega)]
  | a + 1 => by
    have ih := yfer hp a
    obtain ⟨n, hn⟩ : ∃ n, p = n + 1 := ⟨p - 1, by have := hp.1; omega⟩
    have h1 : (a + 1) ^ p = ysu (fun k => ybn p k * a ^ k) p + ybn p p * a ^ p := ybin a p
    have h2 : ysu (fun k => ybn p k * a ^ k) p = ybn p 0 * a ^ 0 + ysu (fun k => ybn p (k + 1) * a ^ (k + 1)) n := by
      have := ysu_sh (fun k => ybn p k * a ^ k) n
      rw [← hn] at this
      exact this
    obtain ⟨t, ht⟩ : p ∣ ysu (fun k => ybn p (k + 1) * a ^ (k + 1)) n := ysu_dvd n (fun k hk => Nat.dvd_trans (ybn_dvd hp (by omega)) (Nat.dvd_mul_right _ _))
    rw [h1, h2, ht, ybn_nn, ybn_n0, Nat.pow_zero, Nat.one_mul, Nat.one_mul]
    rw [show 1 + p * t + a ^ p = a ^ p + 1 + p * t by omega, Nat.add_mul_mod_self_left, Nat.add_mod, ih, ← Nat.add_mod]
theorem yp1 (n : Nat) : 1 ≤ 10 ^ n := Nat.pow_pos (by decide)
theorem yfer10 {p : Nat} (hp : yPr p) (hc : Nat.Coprime p 10) : p ∣ 10 ^ (p - 1) - 1 := by
  obtain ⟨n, hn⟩ : ∃ n, p = n + 1 := ⟨p - 1, by have := hp.1; omega⟩
  have h1 := yfer hp 10
  have h2 : p ∣ 10 ^ p - 10 := by
    refine Nat.dvd_of_mod_eq_zero ?_
    have e1 := Nat.div_add_mod (10 ^ p) p
    have e2 := Nat.div_add_mod 10 p
    rw [h1] at e1
    have h9 : 10 / p ≤ 10 ^ p / p := Nat.div_le_div_right (by rw [hn, Nat.pow_succ]; have := yp1 n; omega)
    have h8 : p * (10 / p) ≤ p * (10 ^ p / p) := Nat.mul_le_mul_left _ h9
    rw [show 10 ^ p - 10 = p * (10 ^ p / p - 10 / p) by rw [Nat.mul_sub]; omega]
    exact Nat.mul_mod_right _ _
  rw [hn, Nat.pow_succ] at h2
  rw [show p - 1 = n by omega]
  have h3 : 10 ^ n * 10 - 10 = 10 * (10 ^ n - 1) := by
    have := yp1 n
    omega
  rw [h3, ← hn] at h2
  exact Nat.Coprime.dvd_of_dvd_mul_left hc h2
theorem ydp {x d : Nat} (hx : 1 ≤ x) (h : d ∣ x - 1) : ∀ m, d ∣ x ^ m - 1
  | 0 => by rw [Nat.pow_zero]; exact Nat.dvd_zero d
  | m + 1 => by
    have ih := ydp hx h m
    have e : x ^ (m + 1) - 1 = x ^ m * (x - 1) + (x ^ m - 1) := by
      have h1 : 1 ≤ x ^ m := Nat.pow_pos hx
      rw [Nat.pow_succ, Nat.mul_sub, Nat.mul_one]
      have h2 : x ^ m * 1 ≤ x ^ m * x := Nat.mul_le_mul_left _ hx
      omega
    rw [e]
    exact Nat.dvd_add (Nat.dvd_trans h (Nat.dvd_mul_left _ _)) ih
theorem ybi2 (y : Nat) : ∀ n, ∃ s, (1 + y) ^ n = 1 + n * y + y * y * s
  | 0 => ⟨0, by simp⟩
  | n + 1 => by
    obtain ⟨s, hs⟩ := ybi2 y n
    refine ⟨s + n + y * s, ?_⟩
    rw [Nat.pow_succ, hs]
    have e1 : (1 + n * y + y * y * s) * (1 + y) = 1 + n * y + y * y * s + (1 * y + n * y * y + y * y * s * y) := by rw [Nat.mul_add, Nat.mul_one, Nat.add_mul, Nat.add_mul]
    have e2 : y * y * (s + n + y * s) = y * y * s + y * y * n + y * y * (y * s) := by rw [Nat.mul_add, Nat.mul_add]
    have e3 : y * y * (y * s) = y * y * s * y := by rw [Nat.mul_comm y s, Nat.mul_assoc (y * y) s y]
    have e4 : n * y * y = y * y * n := by rw [Nat.mul_assoc, Nat.mul_comm]
    have e5 : (n + 1) * y = n * y + y := Nat.succ_mul n y
    rw [e1, e2, e3, e4, e5]
    omega
theorem ylft {x c p : Nat} (hx : 1 ≤ x) (h : c ∣ x - 1) (hp : p ∣ c) : c * p ∣ x ^ p - 1 := by
  obtain ⟨t, ht⟩ := h
  obtain ⟨k, hk⟩ := hp
  obtain ⟨s, hs⟩ := ybi2 (c * t) p
  have e : x = 1 + c * t := by omega
  rw [e, hs]
  rw [show 1 + p * (c * t) + c * t * (c * t) * s - 1 = p * (c * t) + c * t * (c * t) * s by omega]
  refine Nat.dvd_add ⟨t, ?_⟩ ⟨t * (k * t) * s, ?_⟩
  · rw [Nat.mul_comm c p, Nat.mul_assoc]
  · have : c * t * (c * t) = c * p * (t * (k * t)) := by
      calc c * t * (c * t) = c * t * (p * k * t) := by rw [← hk]
        _ = c * (t * (p * (k * t))) := by rw [Nat.mul_assoc c t, Nat.mul_assoc p k t]
        _ = c * (p * (t * (k * t))) := by rw [Nat.mul_left_comm t p]
        _ = c * p * (t * (k * t)) := by rw [Nat.mul_assoc]
    rw [this, Nat.mul_assoc (c * p)]
theorem ymod {d n : Nat} (hd : 2 ≤ d) : 10 ^ n % d = 1 ↔ d ∣ 10 ^ n - 1 := by
  have h1 := yp1 n
  constructor
  · intro h
    refine ⟨10 ^ n / d, ?_⟩
    have := Nat.div_add_mod (10 ^ n) d
    omega
  · intro ⟨t, ht⟩
    rw [show 10 ^ n = 1 + d * t by omega, Nat.add_mul_mod_self_left, Nat.mod_eq_of_lt (by omega)]
/-- the order of ten -/
def yod (d o : Nat) : Prop := 0 < o ∧ d ∣ 10 ^ o - 1 ∧ ∀ j, 0 < j → j < o → ¬ d ∣ 10 ^ j - 1
theorem yod_ex {d φ : Nat} (h0 : 0 < φ) (h : d ∣ 10 ^ φ - 1) : ∃ o, yod d o ∧ o ≤ φ := by
  obtain ⟨o, h1, h2⟩ := pk_least (fun k => 0 < k ∧ d ∣ 10 ^ k - 1) ⟨φ, h0, h⟩
  refine ⟨o, ⟨h1.1, h1.2, fun j hj hjo c => h2 j hjo ⟨hj, c⟩⟩, ?_⟩
  rcases Nat.lt_or_ge φ o with c | c
  · exact absurd ⟨h0, h⟩ (h2 φ c)
  · exact c
theorem yod_dvd {d o n : Nat} (h : yod d o) (hn : d ∣ 10 ^ n - 1) : o ∣ n := by
  have e := Nat.div_add_mod n o
  have hr := Nat.mod_lt n h.1
  have h1 : d ∣ (10 ^ o) ^ (n / o) - 1 := ydp (yp1 o) h.2.1 _
  rw [← Nat.pow_mul] at h1
  have h2 : 10 ^ n - 1 = 10 ^ (n % o) * (10 ^ (o * (n / o)) - 1) + (10 ^ (n % o) - 1) := by
    have e2 : 10 ^ n = 10 ^ (n % o) * 10 ^ (o * (n / o)) := by rw [← Nat.pow_add, Nat.add_comm, e]
    have h3 := yp1 (n % o)
    have h4 := yp1 (o * (n / o))
    have h5 : 10 ^ (n % o) * 1 ≤ 10 ^ (n % o) * 10 ^ (o * (n / o)) := Nat.mul_le_mul_left _ h4
    rw [e2, Nat.mul_sub, Nat.mul_one]
    omega
  rw [h2] at hn
  have h6 := (Nat.dvd_add_right (Nat.dvd_trans h1 (Nat.dvd_mul_left _ _))).mp hn
  rcases Nat.eq_zero_or_pos (n % o) with c | c
  · exact Nat.dvd_of_mod_eq_zero c
  · exact absurd h6 (h.2.2 _ c hr)
theorem yod_pw {d o n : Nat} (h : yod d o) : d ∣ 10 ^ (o * n) - 1 := by
  rw [Nat.pow_mul]
  exact ydp (yp1 o) h.2.1 n
/-- a step of the class's search -/
theorem yod_st {d o m p : Nat} (hp : yPr p) (ho : yod d o) (hpm : p ∣ o * m) : (d ∣ 10 ^ (o * m / p) - 1 ↔ p ∣ m) := by
  obtain ⟨t, ht⟩ := hpm
  have hp0 : 0 < p := by have := hp.1; omega
  rw [ht, Nat.mul_div_cancel_left _ hp0]
  constructor
  · intro h
    obtain ⟨q, hq⟩ := yod_dvd ho h
    refine ⟨q, ?_⟩
    rw [hq] at ht
    refine Nat.eq_of_mul_eq_mul_left ho.1 ?_
    rw [ht, Nat.mul_left_comm]
  · intro ⟨q, hq⟩
    rw [hq, Nat.mul_left_comm] at ht
    rw [← Nat.eq_of_mul_eq_mul_left hp0 ht]
    exact yod_pw ho
/-- the search that tells the answer -/
def yoS (d : Nat) : Nat → Nat → Nat
  | 0, m => m
  | n + 1, m => if 10 ^ m % d = 1 then m else yoS d n (m + 1)
theorem yoS_u {d o : Nat} (hd : 2 ≤ d) (h : yod d o) : ∀ n m, 0 < m → m ≤ o → o ≤ m + n → yoS d n m = o
  | 0, m, h0, h1, h2 => by show m = o; omega
  | n + 1, m, h0, h1, h2 => by
    unfold yoS
    by_cases c : 10 ^ m % d = 1
    · rw [if_pos c]
      rcases Nat.lt_or_ge m o with c2 | c2
      · exact absurd ((ymod hd).mp c) (h.2.2 m h0 c2)
      · omega
    · rw [if_neg c]
      have : m ≠ o := fun e => c ((ymod hd).mpr (e ▸ h.2.1))
      exact yoS_u hd h n (m + 1) (by omega) (by omega) (by omega)
/-- how often a factor is in, and what is left -/
def yfc (f : Nat) : Nat → Nat → Nat × Nat
  | 0, v => (0, v)
  | n + 1, v => if v % f = 0 then ((yfc f n (v / f)).1 + 1, (yfc f n (v / f)).2) else (0, v)
theorem yfc_u {f : Nat} (hf : 2 ≤ f) : ∀ n k r, k < n → r % f ≠ 0 → yfc f n (f ^ k * r) = (k, r)
  | 0, k, r, h, _ => absurd h (Nat.not_lt_zero k)
  | n + 1, 0, r, h, hr => by
    rw [Nat.pow_zero, Nat.one_mul]
    unfold yfc
    rw [if_neg hr]
  | n + 1, k + 1, r, h, hr => by
    have e : f ^ (k + 1) * r = f * (f ^ k * r) := by rw [Nat.pow_succ, Nat.mul_comm (f ^ k) f, Nat.mul_assoc]
    rw [e]
    unfold yfc
    rw [if_pos (Nat.mul_mod_right _ _), Nat.mul_div_cancel_left _ (by omega), yfc_u hf n k r (by omega) hr]
