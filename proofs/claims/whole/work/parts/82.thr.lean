/-! ===== CALLS THAT MAY THROW: what they answer; the reference ===== -/
def zth {A : Type} (o : Option A) : Int32 := match o with
  | none => 1
  | some _ => 0
def zsm (p : Int32 × zS) : Option Int32 × zS := (some p.1, p.2)
def zo_shifted (S : zS) (n : Int32) : Option Int32 × zS := if 0 ≤ n then if zF S < 24 then if n ≤ 15 then zsm (zkp S 1 (2 ^ (32 * n.toInt.toNat)) 1) else (some (-4), S) else (some (-3), S) else (none, S)
def zo_over (S : zS) (x y : Int32) : Option Int32 × zS := match zfd S x, zfd S y with
  | some a, some b => if sS S b = 0 then (none, S) else if zF S < 24 then zsm (zkp S (sS S a * sS S b) (sN S a * sD S b) (sD S a * sN S b)) else (some (-3), S)
  | _, _ => (some (-1), S)
def zrt (s s' : Int32) (T U : Nat) : Nat := if s = s' ∨ T % U = 0 then T % U else U - T % U
def zap (S : zS) (op : Int32) (a b : Nat) : Int32 × zS := if op = 0 then zkp S (zsum (sS S a) (sN S a * sD S b) (sS S b) (sN S b * sD S a)).1 (zsum (sS S a) (sN S a * sD S b) (sS S b) (sN S b * sD S a)).2 (sD S a * sD S b) else if op = 1 then zkp S (zsum (sS S a) (sN S a * sD S b) (-sS S b) (sN S b * sD S a)).1 (zsum (sS S a) (sN S a * sD S b) (-sS S b) (sN S b * sD S a)).2 (sD S a * sD S b) else if op = 2 then zkp S (sS S a * sS S b) (sN S a * sN S b) (sD S a * sD S b) else zkp S (sS S b) (zrt (sS S a) (sS S b) (sN S a * sD S b) (sN S b * sD S a)) (sD S a * sD S b)
def zo_apply (S : zS) (op x y : Int32) : Option Int32 × zS := match zfd S x, zfd S y with
  | some a, some b => if 0 ≤ op ∧ op ≤ 3 then if op = 3 ∧ sS S b = 0 then (none, S) else if zF S < 24 then zsm (zap S op a b) else (some (-3), S) else (some (-1), S)
  | _, _ => (some (-1), S)
def zo_power (S : zS) (x n : Int32) : Option Int32 × zS := match zfd S x with
  | none => (some (-1), S)
  | some a => if -512 ≤ n ∧ n ≤ 512 then if n < 0 ∧ sS S a = 0 then (none, S) else if zF S < 24 then zsm (zkp S (if n.toInt.natAbs % 2 = 1 then sS S a else 1) ((if n < 0 then sD S a else sN S a) ^ n.toInt.natAbs) ((if n < 0 then sN S a else sD S a) ^ n.toInt.natAbs)) else (some (-3), S) else (some (-1), S)
def zo_limb (S : zS) (x p i : Int32) : Option Int32 × zS := match zfd S x with
  | none => (some (-1), S)
  | some a => if 0 ≤ p ∧ p ≤ 1 then if 0 ≤ i ∧ 4294967296 ^ i.toInt.toNat ≤ (if p = 0 then sN S a else sD S a) then (some (lN (zdg (if p = 0 then sN S a else sD S a) i.toInt.toNat)).toInt32, S) else (none, S) else (some (-1), S)
def zvl (s : Int32) (N : Nat) : Int := if s < 0 then -(N : Int) else N
def zlo (lane : Int32) : Int := if lane = 0 then -128 else if lane = 1 then -32768 else if lane = 2 then 0 else if lane = 3 then -2147483648 else -9223372036854775808
def zhi (lane : Int32) : Int := if lane = 0 then 127 else if lane = 1 then 32767 else if lane = 2 then 65535 else if lane = 3 then 2147483647 else 9223372036854775807
def zo_exact (S : zS) (x lane : Int32) : Option Int64 × zS := match zfd S x with
  | none => (some (-1), S)
  | some a => if 0 ≤ lane ∧ lane ≤ 4 then if sD S a = 1 ∧ zlo lane ≤ zvl (sS S a) (sN S a) ∧ zvl (sS S a) (sN S a) ≤ zhi lane then (some (if sS S a < 0 then -(lN (sN S a)) else lN (sN S a)), S) else (none, S) else (some (-1), S)
theorem zsum_pm {s s' : Int32} {T U : Nat} (h1 : s = 0 ∨ s = 1 ∨ s = -1) (h2 : s' = 0 ∨ s' = 1 ∨ s' = -1) (h3 : T = 0 ↔ s = 0) (h4 : U = 0 ↔ s' = 0) (hV : (zsum s T s' U).2 ≠ 0) : (zsum s T s' U).1 = 1 ∨ (zsum s T s' U).1 = -1 := by
  have q : T ≠ 0 → s = 1 ∨ s = -1 := fun c => h1.resolve_left (fun e => c (h3.mpr e))
  have q' : U ≠ 0 → s' = 1 ∨ s' = -1 := fun c => h2.resolve_left (fun e => c (h4.mpr e))
  unfold zsum at hV ⊢
  by_cases c1 : T = 0
  · rw [if_pos c1] at hV ⊢
    exact q' hV
  · rw [if_neg c1] at hV ⊢
    by_cases c2 : s = s'
    · rw [if_pos c2]
      exact q c1
    · rw [if_neg c2] at hV ⊢
      by_cases c3 : T < U
      · rw [if_pos c3]
        exact q' (by omega)
      · rw [if_neg c3]
        exact q c1
section R83
variable {G : Nat → ClassId} {Bm : Nat} {M0 M : zm_M} {ι : Nat → Int32} {α : Nat → Nat → Int32} {K : Nat → Int64} {ρ : Nat → Nat} {S : zS} {t : Int32} {post : Int32 → zm_M → Prop}
theorem m7_shifted (h : zRM G Bm M0 M S t) {n : Int32} (hp : ∀ M', zRM G Bm M0 M' (zo_shifted S n).2 (zth (zo_shifted S n).1) → post ((zo_shifted S n).1.getD 0) M') : pX7_shifted G Bm n post M := by
  obtain ⟨ι, α, K, ρ, h, r, _⟩ := h
  unfold zo_shifted at hp
  unfold pX7_shifted
  refine ⟨fun y => ?_, fun y => ?_⟩
  · rw [if_pos y] at hp
    unfold pX7_shifted_10
    refine r7_thr h (fun M1 k1 => ?_)
    have r1 : zRn (upd ι 0 0) α K S := zRn_ι r (pk_un (by decide)) (pk_un (by decide))
    refine ⟨fun _ => ⟨zP_o k1, r7_isFull k1 r1 (fun c => ?_) (fun c => ?_)⟩, fun z => absurd y z⟩
    · rw [if_pos c] at hp
      refine ⟨fun z => ?_, fun z => ?_⟩
      · rw [if_pos z] at hp
        have y' := i32_0.mp y
        have z' : n.toInt ≤ 15 := i32_le.mp z
        have en := i32_n y'
        have e32 : (32 : Int32) * n = nI (32 * n.toInt.toNat) := by
          rw [en, nI_toInt (by omega)]
          exact pk_mul 32 _
        rw [e32]
        have hb : (1 : Nat) * 2 ^ (32 * n.toInt.toNat) < 4294967296 ^ 71 := by
          rw [Nat.one_mul, zB2]
          exact Nat.pow_lt_pow_right (by decide) (by omega)
        refine ⟨zP_o k1, r7_small k1 2 (fun M2 k2 => ⟨zP_o k2, r7_up k2 2 (32 * n.toInt.toNat) (by show (0 : Nat) < 1; decide) (by omega) hb (fun M3 k3 => ⟨zP_o k3, ?_⟩)⟩)⟩
        have e2 : rgu (rgu ρ 2 (uN 1)) 2 (rgu ρ 2 (uN 1) 2 * 2 ^ (32 * n.toInt.toNat)) 2 = 2 ^ (32 * n.toInt.toNat) := Nat.one_mul _
        refine r7_keepWhole k3 r1 c 2 (fun _ => Or.inl rfl) pk_us ?_
        rw [e2]
        exact hp
      · rw [if_neg z] at hp
        exact hp M1 ⟨_, _, _, _, k1, r1, pk_us⟩
    · rw [if_neg c] at hp
      exact hp M1 ⟨_, _, _, _, k1, r1, pk_us⟩
  · rw [if_neg y] at hp
    unfold pX7_shifted_10
    refine r7_thr h (fun M1 k1 => ?_)
    have r1 : zRn (upd ι 0 1) α K S := zRn_ι r (pk_un (by decide)) (pk_un (by decide))
    exact ⟨fun z => absurd z y, fun _ => hp M1 ⟨_, _, _, _, k1, r1, pk_us⟩⟩
theorem zl32 {a b : Nat} (ha : a < 4294967296 ^ 16) (hb : b < 4294967296 ^ 16) : a * b < 4294967296 ^ 36 ∧ a * b < 4294967296 ^ 71 := by
  have h1 : a * b ≤ 4294967296 ^ 16 * 4294967296 ^ 16 := Nat.mul_le_mul (by omega) (by omega)
  rw [← Nat.pow_add] at h1
  exact ⟨Nat.lt_of_le_of_lt h1 (Nat.pow_lt_pow_right (by decide) (by decide)), Nat.lt_of_le_of_lt h1 (Nat.pow_lt_pow_right (by decide) (by decide))⟩
theorem zpm {s s' : Int32} {N N' D D' : Nat} (h : zgd s N D) (h' : zgd s' N' D') (h0 : N ≠ 0) (h0' : N' ≠ 0) : s * s' = 1 ∨ s * s' = -1 := by
  rcases h.2.2.1 with ⟨_, e⟩ | ⟨e | e, _⟩
  · exact absurd e h0
  all_goals
    rcases h'.2.2.1 with ⟨_, e'⟩ | ⟨e' | e', _⟩
    · exact absurd e' h0'
    all_goals (rw [e, e']; decide)
theorem m7_over (h : zRM G Bm M0 M S t) {x y : Int32} (hp : ∀ M', zRM G Bm M0 M' (zo_over S x y).2 (zth (zo_over S x y).1) → post ((zo_over S x y).1.getD 0) M') : pX7_over G Bm x y post M := by
  obtain ⟨ι, α, K, ρ, h, r, _⟩ := h
  unfold zo_over at hp
  unfold pX7_over
  refine r7_thr h (fun M1 k1 => ?_)
  have r1 : zRn (upd ι 0 0) α K S := zRn_ι r (pk_un (by decide)) (pk_un (by decide))
  refine ⟨zP_o k1, r7_isNumber k1 r1 (fun e => ⟨fun _ => ?_, fun z => absurd rfl z⟩) (fun a e ha ht hx => ⟨fun z => absurd z (by decide), fun _ => ⟨zP_o k1, r7_isNumber k1 r1 (fun e2 => ⟨fun z => absurd rfl z, fun _ => ?_⟩) (fun b e2 hb htb hy => ⟨fun _ => ?_, fun z => absurd z (by decide)⟩)⟩⟩)⟩
  · rw [e] at hp
    exact hp M1 ⟨_, _, _, _, k1, r1, pk_us⟩
  · rw [e, e2] at hp
    exact hp M1 ⟨_, _, _, _, k1, r1, pk_us⟩
  · rw [e, e2] at hp
    simp only at hp
    subst hx
    subst hy
    obtain ⟨a1, a2, a3, ga⟩ := zRn_a r1 ha ht
    obtain ⟨b1, b2, b3, gb⟩ := zRn_a r1 hb htb
    refine r7_sign k1 rfl hb ?_
    rw [b1]
    refine ⟨fun z => ⟨zP_o k1, r7_isFull k1 r1 (fun c => ?_) (fun c => ?_)⟩, fun z => ?_⟩
    · rw [if_neg z, if_pos c] at hp
      have hNb : sN S b ≠ 0 := fun q => z ((zgd_s gb).2.2.mp q)
      refine ⟨zP_o k1, r7_takeN k1 r1 2 a ha ht (fun M2 k2 => ⟨zP_o k2, r7_takeD k2 r1 3 b hb htb (fun M3 k3 => ⟨zP_o k3, r7_times k3 0 2 3 (zl36 ga.2.2.2.1) (zl36 gb.2.2.2.2) (fun M4 k4 => ⟨zP_o k4, r7_takeD k4 r1 2 a ha ht (fun M5 k5 => ⟨zP_o k5, r7_takeN k5 r1 3 b hb htb (fun M6 k6 => ⟨zP_o k6, r7_times k6 1 2 3 (zl36 ga.2.2.2.2) (zl36 gb.2.2.2.1) (fun M7 k7 => r7_sign k7 rfl ha (r7_sign k7 rfl hb ⟨zP_o k7, ?_⟩))⟩)⟩)⟩)⟩)⟩)⟩
      rw [a1, b1]
      refine r7_keepLeast (s := sS S a * sS S b) k7 r1 c ?_ (zl32 ga.2.2.2.1 gb.2.2.2.2).2 (zl32 ga.2.2.2.2 gb.2.2.2.1).2 ?_ pk_us hp
      · show sD S a * sN S b ≠ 0
        exact Nat.mul_ne_zero ga.1 hNb
      · show sN S a * sD S b ≠ 0 → _
        intro hne
        exact zpm ga gb (fun q => hne (by rw [q, Nat.zero_mul])) hNb
    · rw [if_neg z, if_neg c] at hp
      exact hp M1 ⟨_, _, _, _, k1, r1, pk_us⟩
    · rw [if_pos z] at hp
      exact r7_thr k1 (fun M2 k2 => hp M2 ⟨_, _, _, _, k2, zRn_ι r1 (pk_un (by decide)) (pk_un (by decide)), pk_us⟩)
theorem r7_sum (h : zP G Bm M0 M ι α K ρ) {s s' : Int32} (h1 : ρ 0 < 4294967296 ^ 71) (h2 : ρ 7 < 4294967296 ^ 71) (h3 : ρ 0 = 0 → s = 0) (h4 : s = s' → s = 0 → ρ 7 = 0) (hp : ∀ (M' : zm_M) (ρ' : Nat → Nat) (s'' : Int32), zP G Bm M0 M' ι α K ρ' → ρ' 0 = (zsum s (ρ 0) s' (ρ 7)).2 → (∀ j, j ≠ 0 → j ≠ 20 → ρ' j = ρ j) → ((zsum s (ρ 0) s' (ρ 7)).2 ≠ 0 → s'' = (zsum s (ρ 0) s' (ρ 7)).1) → post s'' M') : pX7_sum G Bm (0 : Int32) s (7 : Int32) s' post M := by
  unfold pX7_sum
  refine ⟨fun y => ⟨zP_o h, r7_cmp h 0 7 (ρ 0) (ρ 7) rfl rfl ?_⟩, fun y => ⟨zP_o h, r7_add h 0 7 h1 h2 (fun M1 k1 => hp M1 _ s k1 ?_ (fun j j1 _ => rgu_n j1) (fun _ => ?_))⟩⟩
  · by_cases c : ρ 0 < ρ 7
    · rw [if_pos c]
      have ez : zsum s (ρ 0) s' (ρ 7) = (s', ρ 7 - ρ 0) := by
        unfold zsum
        by_cases c1 : ρ 0 = 0
        · rw [if_pos c1, c1, Nat.sub_zero]
        · rw [if_neg c1, if_neg y, if_pos c]
      refine ⟨fun _ => ⟨zP_o h, r7_copy h 20 7 (fun M1 k1 => ⟨zP_o k1, r7_less k1 20 0 (Nat.le_of_lt c) (fun M2 k2 => ⟨zP_o k2, r7_copy k2 0 20 (fun M3 k3 => hp M3 _ s' k3 ?_ (fun j j1 j2 => ?_) (fun _ => ?_))⟩)⟩)⟩, fun z => absurd (by decide) z⟩
      · rw [ez]
        rfl
      · rw [rgu_n j1, rgu_n j2, rgu_n j2]
      · rw [ez]
    · rw [if_neg c]
      refine ⟨fun z => absurd z (by split <;> decide), fun _ => ⟨zP_o h, r7_less h 0 7 (by omega) (fun M1 k1 => hp M1 _ s k1 ?_ (fun j j1 _ => rgu_n j1) (fun hv => ?_))⟩⟩
      · rw [rgu_s]
        unfold zsum
        by_cases c1 : ρ 0 = 0
        · rw [if_pos c1]
          show ρ 0 - ρ 7 = ρ 7
          omega
        · rw [if_neg c1, if_neg y, if_neg c]
      · unfold zsum at hv ⊢
        by_cases c1 : ρ 0 = 0
        · rw [if_pos c1] at hv
          have hv' : ρ 7 ≠ 0 := hv
          omega
        · rw [if_neg c1, if_neg y, if_neg c]
  · rw [rgu_s]
    unfold zsum
    by_cases c1 : ρ 0 = 0
    · rw [if_pos c1, c1, Nat.zero_add]
    · rw [if_neg c1, if_pos y]
  · unfold zsum
    by_cases c1 : ρ 0 = 0
    · rw [if_pos c1]
      exact y
    · rw [if_neg c1, if_pos y]
theorem i32_neg3 {s : Int32} (h : s = 0 ∨ s = 1 ∨ s = -1) : (-s = 0 ∨ -s = 1 ∨ -s = -1) ∧ (-s = 0 ↔ s = 0) := by
  rcases h with e | e | e <;> (rw [e]; decide)
theorem m7_apply56 (k1 : zP G Bm M0 M ι α K ρ) (r1 : zRn ι α K S) (h0 : ι 0 = 0) {a b : Nat} (ha : a < 24) (ht : sT S a = true) (hb : b < 24) (htb : sT S b = true) {op : Int32} (hop : 0 ≤ op.toInt ∧ op.toInt ≤ 3) (hz : op = 3 → sS S b ≠ 0) (hp : ∀ M', zRM G Bm M0 M' (if zF S < 24 then zsm (zap S op a b) else (some (-3), S)).2 (zth (if zF S < 24 then zsm (zap S op a b) else (some (-3), S)).1) → post ((if zF S < 24 then zsm (zap S op a b) else (some (-3), S)).1.getD 0) M') : pX7_apply_56 G post Bm op (nI a) (nI b) M := by
  obtain ⟨a1, a2, a3, ga⟩ := zRn_a r1 ha ht
  obtain ⟨b1, b2, b3, gb⟩ := zRn_a r1 hb htb
  have sa := zgd_s ga
  have sb := zgd_s gb
  have hDD : sD S a * sD S b ≠ 0 := Nat.mul_ne_zero ga.1 gb.1
  have hDl := (zl32 ga.2.2.2.2 gb.2.2.2.2).2
  unfold pX7_apply_56
  refine ⟨zP_o k1, r7_isFull k1 r1 (fun c => ?_) (fun c => ?_)⟩
  · rw [if_pos c] at hp
    have hp' : ∀ M', zRM G Bm M0 M' (zap S op a b).2 0 → post (zap S op a b).1 M' := hp
    unfold zap at hp'
    refine ⟨zP_o k1, r7_takeD k1 r1 4 a ha ht (fun M2 k2 => ⟨zP_o k2, r7_takeD k2 r1 5 b hb htb (fun M3 k3 => ⟨zP_o k3, r7_times k3 1 4 5 (zl36 ga.2.2.2.2) (zl36 gb.2.2.2.2) (fun M4 k4 => ⟨fun y => ?_, fun y => ?_⟩)⟩)⟩)⟩
    · refine ⟨zP_o k4, r7_takeN k4 r1 6 a ha ht (fun M5 k5 => ⟨zP_o k5, r7_times k5 0 6 5 (zl36 ga.2.2.2.1) (zl36 gb.2.2.2.2) (fun M6 k6 => ⟨zP_o k6, r7_takeN k6 r1 6 b hb htb (fun M7 k7 => ⟨zP_o k7, r7_times k7 7 6 4 (zl36 gb.2.2.2.1) (zl36 ga.2.2.2.2) (fun M8 k8 => r7_sign k8 rfl ha ?_)⟩)⟩)⟩)⟩
      rw [a1]
      have e0 : ∀ ρ', ρ' = rgu (rgu (rgu (rgu (rgu (rgu (rgu ρ 4 (sD S a)) 5 (sD S b)) 1 (rgu (rgu ρ 4 (sD S a)) 5 (sD S b) 4 * rgu (rgu ρ 4 (sD S a)) 5 (sD S b) 5)) 6 (sN S a)) 0 (rgu (rgu (rgu (rgu ρ 4 (sD S a)) 5 (sD S b)) 1 (rgu (rgu ρ 4 (sD S a)) 5 (sD S b) 4 * rgu (rgu ρ 4 (sD S a)) 5 (sD S b) 5)) 6 (sN S a) 6 * rgu (rgu (rgu (rgu ρ 4 (sD S a)) 5 (sD S b)) 1 (rgu (rgu ρ 4 (sD S a)) 5 (sD S b) 4 * rgu (rgu ρ 4 (sD S a)) 5 (sD S b) 5)) 6 (sN S a) 5)) 6 (sN S b)) 7 (rgu (rgu (rgu (rgu (rgu (rgu ρ 4 (sD S a)) 5 (sD S b)) 1 (rgu (rgu ρ 4 (sD S a)) 5 (sD S b) 4 * rgu (rgu ρ 4 (sD S a)) 5 (sD S b) 5)) 6 (sN S a)) 0 (rgu (rgu (rgu (rgu ρ 4 (sD S a)) 5 (sD S b)) 1 (rgu (rgu ρ 4 (sD S a)) 5 (sD S b) 4 * rgu (rgu ρ 4 (sD S a)) 5 (sD S b) 5)) 6 (sN S a) 6 * rgu (rgu (rgu (rgu ρ 4 (sD S a)) 5 (sD S b)) 1 (rgu (rgu ρ 4 (sD S a)) 5 (sD S b) 4 * rgu (rgu ρ 4 (sD S a)) 5 (sD S b) 5)) 6 (sN S a) 5)) 6 (sN S b) 6 * rgu (rgu (rgu (rgu (rgu (rgu ρ 4 (sD S a)) 5 (sD S b)) 1 (rgu (rgu ρ 4 (sD S a)) 5 (sD S b) 4 * rgu (rgu ρ 4 (sD S a)) 5 (sD S b) 5)) 6 (sN S a)) 0 (rgu (rgu (rgu (rgu ρ 4 (sD S a)) 5 (sD S b)) 1 (rgu (rgu ρ 4 (sD S a)) 5 (sD S b) 4 * rgu (rgu ρ 4 (sD S a)) 5 (sD S b) 5)) 6 (sN S a) 6 * rgu (rgu (rgu (rgu ρ 4 (sD S a)) 5 (sD S b)) 1 (rgu (rgu ρ 4 (sD S a)) 5 (sD S b) 4 * rgu (rgu ρ 4 (sD S a)) 5 (sD S b) 5)) 6 (sN S a) 5)) 6 (sN S b) 4) → ρ' 0 = sN S a * sD S b ∧ ρ' 7 = sN S b * sD S a ∧ ρ' 1 = sD S a * sD S b := by
        intro ρ' e
        subst e
        exact ⟨rfl, rfl, rfl⟩
      obtain ⟨v0, v7, v1⟩ := e0 _ rfl
      clear e0
      revert k8
      generalize rgu (rgu (rgu (rgu (rgu (rgu (rgu ρ 4 (sD S a)) 5 (sD S b)) 1 _) 6 (sN S a)) 0 _) 6 (sN S b)) 7 _ = ρ8 at *
      intro k8
      have l0 : ρ8 0 < 4294967296 ^ 71 := by rw [v0]; exact (zl32 ga.2.2.2.1 gb.2.2.2.2).2
      have l7 : ρ8 7 < 4294967296 ^ 71 := by rw [v7]; exact (zl32 gb.2.2.2.1 ga.2.2.2.2).2
      have hT : sN S a * sD S b = 0 ↔ sS S a = 0 := by
        rw [← sa.2.2]
        constructor
        · intro q
          rcases Nat.mul_eq_zero.mp q with w | w
          · exact w
          · exact absurd w gb.1
        · intro q; rw [q, Nat.zero_mul]
      have hU : sN S b * sD S a = 0 ↔ sS S b = 0 := by
        rw [← sb.2.2]
        constructor
        · intro q
          rcases Nat.mul_eq_zero.mp q with w | w
          · exact w
          · exact absurd w ga.1
        · intro q; rw [q, Nat.zero_mul]
      -- sums
      have sm : ∀ s' : Int32, (s' = 0 ∨ s' = 1 ∨ s' = -1) → (s' = 0 ↔ sS S b = 0) → (∀ M', zRM G Bm M0 M' (zkp S (zsum (sS S a) (sN S a * sD S b) s' (sN S b * sD S a)).1 (zsum (sS S a) (sN S a * sD S b) s' (sN S b * sD S a)).2 (sD S a * sD S b)).2 0 → post (zkp S (zsum (sS S a) (sN S a * sD S b) s' (sN S b * sD S a)).1 (zsum (sS S a) (sN S a * sD S b) s' (sN S b * sD S a)).2 (sD S a * sD S b)).1 M') → pX7_apply_205 G post Bm Bm (0 : Int32) (sS S a) (7 : Int32) s' M8 := by
        intro s' hs3 hs0 hq
        unfold pX7_apply_205
        refine ⟨zP_o k8, r7_sum k8 l0 l7 (fun q => hT.mp (by rw [← v0]; exact q)) (fun q1 q2 => by rw [v7]; exact hU.mpr (hs0.mp (by rw [← q1]; exact q2))) (fun M9 ρ9 s9 k9 e9 f9 g9 => ⟨zP_o k9, ?_⟩)⟩
        rw [v0, v7] at e9 g9
        have v1' : ρ9 1 = sD S a * sD S b := by rw [f9 1 (by decide) (by decide), v1]
        have hpm := zsum_pm (zgd_3 ga) hs3 hT (by rw [hU, hs0])
        have hVl : (zsum (sS S a) (sN S a * sD S b) s' (sN S b * sD S a)).2 < 4294967296 ^ 71 := by
          have hs : (zsum (sS S a) (sN S a * sD S b) s' (sN S b * sD S a)).2 ≤ sN S a * sD S b + sN S b * sD S a := by
            unfold zsum
            split
            · show sN S b * sD S a ≤ _; omega
            · split
              · exact Nat.le_refl _
              · split
                · show sN S b * sD S a - sN S a * sD S b ≤ _; omega
                · show sN S a * sD S b - sN S b * sD S a ≤ _; omega
          have q1 := (zl32 ga.2.2.2.1 gb.2.2.2.2).1
          have q2 := (zl32 gb.2.2.2.1 ga.2.2.2.2).1
          have q3 : (4294967296 : Nat) ^ 36 + 4294967296 ^ 36 ≤ 4294967296 ^ 71 := by
            have : (4294967296 : Nat) ^ 36 * 2 ≤ 4294967296 ^ 36 * 4294967296 ^ 35 := Nat.mul_le_mul_left _ (by decide)
            rw [← Nat.pow_add] at this
            omega
          omega
        refine r7_keepLeast k9 r1 c (by rw [v1']; exact hDD) (by rw [e9]; exact hVl) (by rw [v1']; exact hDl) (fun q => by rw [e9] at q; rw [g9 q]; exact hpm q) h0 ?_
        rw [e9, v1']
        exact zkp_12 (zkp_s (fun q => (g9 q).symm)) hq
      refine ⟨fun z => ?_, fun z => ⟨fun w => r7_sign k8 rfl hb ?_, fun w => r7_sign k8 rfl hb ?_⟩⟩
      · have z' : (2 : Int) ≤ op.toInt := i32_le.mp z
        have h3 : op = 3 := by
          rcases i32_in hop with q | q | q | q
          · rw [q] at z'; exact absurd z' (by decide)
          · rw [q] at z'; exact absurd z' (by decide)
          · exact absurd q y
          · exact q
        subst h3
        rw [if_neg (by decide), if_neg (by decide), if_neg (by decide)] at hp'
        have hs0 := hz rfl
        have hN0 : sN S b ≠ 0 := fun q => hs0 (sb.2.2.mp q)
        have hU0 : sN S b * sD S a ≠ 0 := Nat.mul_ne_zero hN0 ga.1
        have fin : ∀ (M' : zm_M) (ρ' : Nat → Nat), zP G Bm M0 M' ι α K ρ' → ρ' 0 = zrt (sS S a) (sS S b) (sN S a * sD S b) (sN S b * sD S a) → ρ' 1 = sD S a * sD S b → pX7_apply_277 G post Bm (nI b) M' := by
          intro M' ρ' k' e e'
          unfold pX7_apply_277
          refine r7_sign k' rfl hb ⟨zP_o k', ?_⟩
          rw [b1]
          have hrl : zrt (sS S a) (sS S b) (sN S a * sD S b) (sN S b * sD S a) ≤ sN S b * sD S a := by
            unfold zrt
            have := Nat.mod_lt (sN S a * sD S b) (Nat.pos_of_ne_zero hU0)
            split <;> omega
          refine r7_keepLeast k' r1 c (by rw [e']; exact hDD) (by rw [e]; exact Nat.lt_of_le_of_lt hrl (zl32 gb.2.2.2.1 ga.2.2.2.2).2) (by rw [e']; exact hDl) (fun _ => (zgd_3 gb).resolve_left hs0) h0 ?_
          rw [e, e']
          exact hp'
        refine ⟨zP_o k8, r7_divide k8 8 9 0 7 (by rw [v7]; exact Nat.pos_of_ne_zero hU0) l7 (fun M9 k9 => ?_)⟩
        have w9 : rgu (rgu ρ8 8 (ρ8 0 / ρ8 7)) 9 (ρ8 0 % ρ8 7) 9 = sN S a * sD S b % (sN S b * sD S a) := by
          rw [rgu_s, v0, v7]
        have w1 : rgu (rgu ρ8 8 (ρ8 0 / ρ8 7)) 9 (ρ8 0 % ρ8 7) 1 = sD S a * sD S b := v1
        have w7 : rgu (rgu ρ8 8 (ρ8 0 / ρ8 7)) 9 (ρ8 0 % ρ8 7) 7 = sN S b * sD S a := v7
        have same : (sS S a = sS S b ∨ sN S a * sD S b % (sN S b * sD S a) = 0) → pX7_apply_270 G post Bm (nI b) M9 := by
          intro q
          unfold pX7_apply_270
          refine ⟨zP_o k9, r7_copy k9 0 9 (fun M10 k10 => fin M10 _ k10 ?_ ?_)⟩
          · rw [rgu_s, w9]
            unfold zrt
            rw [if_pos q]
          · rw [rgu_n (by decide), w1]
        refine r7_np k9 9 (fun q => same (Or.inr (by rw [← w9]; exact q))) (fun q => r7_sign k9 rfl ha (r7_sign k9 rfl hb ?_))
        rw [a1, b1]
        refine ⟨fun q2 => same (Or.inl q2), fun q2 => ⟨zP_o k9, r7_copy k9 0 7 (fun M10 k10 => ⟨zP_o k10, r7_less k10 0 9 ?_ (fun M11 k11 => fin M11 _ k11 ?_ ?_)⟩)⟩⟩
        · show ρ8 0 % ρ8 7 ≤ ρ8 7
          rw [v7]
          exact Nat.le_of_lt (Nat.mod_lt _ (Nat.pos_of_ne_zero hU0))
        · show ρ8 7 - ρ8 0 % ρ8 7 = _
          rw [v0, v7]
          unfold zrt
          rw [if_neg (fun q3 => q3.elim q2 (fun q3 => q (by rw [w9]; exact q3)))]
        · rw [rgu_n (by decide), rgu_n (by decide), w1]
      · have h1 : op = 1 := by
          rcases i32_in hop with q | q | q | q
          · exact absurd q w
          · exact q
          · exact absurd q y
          · rw [q] at z; exact absurd (by decide) z
        subst h1
        rw [if_neg (by decide), if_pos rfl] at hp'
        rw [b1]
        obtain ⟨n1, n2⟩ := i32_neg3 (zgd_3 gb)
        exact sm _ n1 n2 hp'
      · subst w
        rw [if_pos rfl] at hp'
        rw [b1]
        exact sm _ (zgd_3 gb) Iff.rfl hp'
    · subst y
      rw [if_neg (by decide), if_neg (by decide), if_pos rfl] at hp'
      refine ⟨zP_o k4, r7_takeN k4 r1 4 a ha ht (fun M5 k5 => ⟨zP_o k5, r7_takeN k5 r1 5 b hb htb (fun M6 k6 => ⟨zP_o k6, r7_times k6 0 4 5 (zl36 ga.2.2.2.1) (zl36 gb.2.2.2.1) (fun M7 k7 => r7_sign k7 rfl ha (r7_sign k7 rfl hb ⟨zP_o k7, ?_⟩))⟩)⟩)⟩
      rw [a1, b1]
      refine r7_keepLeast (s := sS S a * sS S b) k7 r1 c hDD (zl32 ga.2.2.2.1 gb.2.2.2.1).2 hDl ?_ h0 hp'
      show sN S a * sN S b ≠ 0 → _
      intro hne
      exact zpm ga gb (fun q => hne (by rw [q, Nat.zero_mul])) (fun q => hne (by rw [q, Nat.mul_zero]))
  · rw [if_neg c] at hp
    exact hp M ⟨_, _, _, _, k1, r1, h0⟩
theorem m7_apply (h : zRM G Bm M0 M S t) {op x y : Int32} (hp : ∀ M', zRM G Bm M0 M' (zo_apply S op x y).2 (zth (zo_apply S op x y).1) → post ((zo_apply S op x y).1.getD 0) M') : pX7_apply G Bm op x y post M := by
  obtain ⟨ι, α, K, ρ, h, r, _⟩ := h
  unfold zo_apply at hp
  unfold pX7_apply
  refine r7_thr h (fun M1 k1 => r7_in ?_)
  have r1 : zRn (upd ι 0 0) α K S := zRn_ι r (pk_un (by decide)) (pk_un (by decide))
  rw [i64_of32, show (0 : Int64).toInt = 0 from rfl, show (3 : Int64).toInt = 3 from rfl]
  by_cases c : 0 ≤ op.toInt ∧ op.toInt ≤ 3
  · rw [if_pos c]
    refine ⟨fun z => absurd z (by decide), fun _ => ⟨zP_o k1, r7_isNumber k1 r1 (fun e => ⟨fun _ => ?_, fun z => absurd rfl z⟩) (fun a e ha ht hx => ⟨fun z => absurd z (by decide), fun _ => ⟨zP_o k1, r7_isNumber k1 r1 (fun e2 => ⟨fun z => absurd rfl z, fun _ => ?_⟩) (fun b e2 hb htb hy => ⟨fun _ => ?_, fun z => absurd z (by decide)⟩)⟩⟩)⟩⟩
    · rw [e] at hp
      exact hp M1 ⟨_, _, _, _, k1, r1, pk_us⟩
    · rw [e, e2] at hp
      exact hp M1 ⟨_, _, _, _, k1, r1, pk_us⟩
    · rw [e, e2] at hp
      simp only at hp
      subst hx
      subst hy
      rw [if_pos ⟨i32_0.mpr c.1, i32_le.mpr c.2⟩] at hp
      obtain ⟨b1, b2, b3, gb⟩ := zRn_a r1 hb htb
      refine ⟨fun z => ?_, fun z => r7_sign k1 rfl hb ?_⟩
      · rw [if_neg (fun q => z q.1)] at hp
        exact m7_apply56 k1 r1 pk_us ha ht hb htb c (fun q => absurd q z) hp
      · rw [b1]
        refine ⟨fun w => ?_, fun w => ?_⟩
        · rw [if_neg (fun q => w q.2)] at hp
          exact m7_apply56 k1 r1 pk_us ha ht hb htb c (fun _ => w) hp
        · rw [if_pos ⟨z, w⟩] at hp
          exact r7_thr k1 (fun M2 k2 => hp M2 ⟨_, _, _, _, k2, zRn_ι r1 (pk_un (by decide)) (pk_un (by decide)), pk_us⟩)
  · rw [if_neg c]
    refine ⟨fun _ => ?_, fun z => absurd rfl z⟩
    have e : zo_apply S op x y = (some (-1), S) := by
      unfold zo_apply
      cases zfd S x with
      | none => rfl
      | some a => cases zfd S y with
        | none => rfl
        | some b => exact if_neg (fun q => c ⟨i32_0.mp q.1, i32_le.mp q.2⟩)
    unfold zo_apply at e
    rw [e] at hp
    exact hp M1 ⟨_, _, _, _, k1, r1, pk_us⟩
end R83
