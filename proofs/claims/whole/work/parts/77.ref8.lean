/-! ===== THE REFERENCE'S CALLS: whole, near, common, drop, count, compare, of, terms, term ===== -/
theorem zl71 {v : Nat} (h : v < 4294967296 ^ 16) : v < 4294967296 ^ 71 := Nat.lt_of_lt_of_le h (Nat.pow_le_pow_right (by decide) (by decide))
theorem zl36 {v : Nat} (h : v < 4294967296 ^ 16) : v < 4294967296 ^ 36 := Nat.lt_of_lt_of_le h (Nat.pow_le_pow_right (by decide) (by decide))
theorem zkp_s {S : zS} {s s' : Int32} {T D : Nat} (h : T ≠ 0 → s = s') : zkp S s T D = zkp S s' T D := by
  unfold zkp
  by_cases c : T = 0
  · rw [if_pos c, if_pos c]
  · rw [if_neg c, if_neg c, h c]
theorem zkp_12 {p p' : Int32 × zS} (e : p = p') {G : Nat → ClassId} {Bm : Nat} {M0 : zm_M} {t : Int32} {post : Int32 → zm_M → Prop} (hp : ∀ M', zRM G Bm M0 M' p.2 t → post p.1 M') : ∀ M', zRM G Bm M0 M' p'.2 t → post p'.1 M' := by
  subst e
  exact hp
theorem zgd_s {s : Int32} {N D : Nat} (h : zgd s N D) : (s < 0 → s = -1) ∧ (¬ s < 0 → N ≠ 0 → s = 1) ∧ (N = 0 ↔ s = 0) := by
  obtain ⟨h1, h2, h3, h4, h5⟩ := h
  rcases h3 with ⟨e, e'⟩ | ⟨e | e, e'⟩
  · subst e
    exact ⟨fun c => absurd c (by decide), fun _ c => absurd e' c, fun _ => rfl, fun _ => e'⟩
  · subst e
    exact ⟨fun c => absurd c (by decide), fun _ _ => rfl, fun c => absurd c e', fun c => absurd c (by decide)⟩
  · subst e
    exact ⟨fun _ => rfl, fun c => absurd (by decide) c, fun c => absurd c e', fun c => absurd c (by decide)⟩
/-- the sign that the reference works with -/
def zsr (s : Int32) : Int32 := if s < 0 then -1 else 1
theorem zsr_s (s : Int32) : zsr s = 1 ∨ zsr s = -1 := by
  unfold zsr
  split
  · exact Or.inr rfl
  · exact Or.inl rfl
theorem zsr_g {s : Int32} {N D : Nat} (h : zgd s N D) (hN : N ≠ 0) : zsr s = s := by
  obtain ⟨h1, h2, h3⟩ := zgd_s h
  unfold zsr
  by_cases c : s < 0
  · rw [if_pos c, h1 c]
  · rw [if_neg c, h2 c hN]
theorem zhd_0 {s : Int32} {D : Nat} : zhd s 0 D = 0 := by
  unfold zhd
  rw [if_neg (by rw [Nat.zero_mod]; simp), Nat.zero_div]
theorem zsr_h {s : Int32} {N D T : Nat} (h : zgd s N D) (hT : N = 0 → T = 0) (hT0 : T ≠ 0) : zsr s = s := zsr_g h (fun c => hT0 (hT c))
section R78
variable {G : Nat → ClassId} {Bm : Nat} {M0 M : zm_M} {ι : Nat → Int32} {α : Nat → Nat → Int32} {K : Nat → Int64} {ρ : Nat → Nat} {S : zS} {t : Int32} {post : Int32 → zm_M → Prop}
theorem m7_whole (h : zRM G Bm M0 M S t) {v : Int64} (hp : ∀ M', zRM G Bm M0 M' (zo_whole S v).2 0 → post (zo_whole S v).1 M') : pX7_whole G Bm v post M := by
  obtain ⟨ι, α, K, ρ, h, r, _⟩ := h
  unfold zo_whole at hp
  unfold pX7_whole
  refine r7_thr h (fun M1 k1 => ?_)
  have r1 : zRn (upd ι 0 0) α K S := zRn_ι r (pk_un (by decide)) (pk_un (by decide))
  refine ⟨zP_o k1, r7_isFull k1 r1 (fun c => ?_) (fun c => ?_)⟩
  · rw [if_pos c] at hp
    refine ⟨fun y => ?_, fun y => ?_⟩
    · rw [if_pos y, if_pos y] at hp
      unfold pX7_whole_31
      refine ⟨zP_o k1, r7_small k1 0 (fun M2 k2 => ⟨zP_o k2, r7_small k2 1 (fun M3 k3 => ⟨fun _ => ?_, fun z => absurd y z⟩)⟩)⟩
      unfold pX7_whole_52
      exact ⟨zP_o k3, r7_keep (s := 1) k3 r1 c (Nat.gcd_one_right _) (by show (1 : Nat) ≠ 0; decide) (fun _ => Or.inl rfl) pk_us (fun M4 => hp M4)⟩
    · rw [if_neg y, if_neg y] at hp
      unfold pX7_whole_31
      refine ⟨zP_o k1, r7_small k1 0 (fun M2 k2 => ⟨zP_o k2, r7_small k2 1 (fun M3 k3 => ⟨fun z => absurd z y, fun _ => ?_⟩)⟩)⟩
      unfold pX7_whole_52
      exact ⟨zP_o k3, r7_keep (s := -1) k3 r1 c (Nat.gcd_one_right _) (by show (1 : Nat) ≠ 0; decide) (fun _ => Or.inr rfl) pk_us (fun M4 => hp M4)⟩
  · rw [if_neg c] at hp
    exact hp M1 ⟨_, _, _, _, k1, r1, pk_us⟩
theorem m7_count (h : zRM G Bm M0 M S t) (hp : ∀ M', zRM G Bm M0 M' (zo_count S).2 0 → post (zo_count S).1 M') : pX7_count G Bm post M := by
  obtain ⟨ι, α, K, ρ, h, r, _⟩ := h
  unfold pX7_count
  refine r7_thr h (fun M1 k1 => ?_)
  have r1 : zRn (upd ι 0 0) α K S := zRn_ι r (pk_un (by decide)) (pk_un (by decide))
  exact ⟨zP_o k1, r7_many k1 r1.1 (hp M1 ⟨_, _, _, _, k1, r1, pk_us⟩)⟩
theorem m7_drop (h : zRM G Bm M0 M S t) {x : Int32} (hp : ∀ M', zRM G Bm M0 M' (zo_drop S x).2 0 → post (zo_drop S x).1 M') : pX7_drop G Bm x post M := by
  obtain ⟨ι, α, K, ρ, h, r, _⟩ := h
  unfold zo_drop at hp
  unfold pX7_drop
  refine r7_thr h (fun M1 k1 => ?_)
  have r1 : zRn (upd ι 0 0) α K S := zRn_ι r (pk_un (by decide)) (pk_un (by decide))
  refine ⟨zP_o k1, r7_isNumber k1 r1 (fun e => ⟨fun y => absurd rfl y, fun _ => ?_⟩) (fun a e ha ht hx => ⟨fun _ => ?_, fun y => absurd y (by decide)⟩)⟩
  · rw [e] at hp
    exact hp M1 ⟨_, _, _, _, k1, r1, pk_us⟩
  · rw [e] at hp
    simp only at hp
    refine r7_Wthere k1 hx ha (fun M2 k2 => ⟨zP_o k2, ?_⟩)
    have hth : ∀ j, j < 24 → upd (α 1) a (vp_nar .boolean (0 : Int32)) j = if sT (zdrop S a) j = true then 1 else 0 := fun j hj => by
      show _ = if (if j = a then false else sT S j) = true then 1 else 0
      by_cases c : j = a
      · rw [c, pk_us, if_pos rfl, if_neg (by decide)]
        rfl
      · rw [pk_un c, if_neg c]
        exact r1.1 j hj
    refine r7_many k2 (f := sT (zdrop S a)) hth (hp M2 ⟨_, _, _, _, k2, ⟨hth, fun j hj hx' => ?_, r1.2.2.1, r1.2.2.2.1, fun j hj hx' => ?_⟩, pk_us⟩)
    all_goals
      have hx2 : sT S j = true := by
        have h9 : (if j = a then false else sT S j) = true := hx'
        by_cases c : j = a
        · rw [if_pos c] at h9; cases h9
        · rw [if_neg c] at h9; exact h9
    · exact r1.2.1 j hj hx2
    · exact r1.2.2.2.2 j hj hx2
theorem m7_common (h : zRM G Bm M0 M S t) {x y : Int32} (hp : ∀ M', zRM G Bm M0 M' (zo_common S x y).2 0 → post (zo_common S x y).1 M') : pX7_common G Bm x y post M := by
  obtain ⟨ι, α, K, ρ, h, r, _⟩ := h
  unfold zo_common at hp
  unfold pX7_common
  refine r7_thr h (fun M1 k1 => ?_)
  have r1 : zRn (upd ι 0 0) α K S := zRn_ι r (pk_un (by decide)) (pk_un (by decide))
  refine ⟨zP_o k1, r7_isNumber k1 r1 (fun e => ⟨fun _ => ?_, fun z => absurd rfl z⟩) (fun a e ha ht hx => ⟨fun z => absurd z (by decide), fun _ => ⟨zP_o k1, r7_isNumber k1 r1 (fun e2 => ⟨fun z => absurd rfl z, fun _ => ?_⟩) (fun b e2 hb htb hy => ⟨fun _ => ⟨zP_o k1, ?_⟩, fun z => absurd z (by decide)⟩)⟩⟩)⟩
  · rw [e] at hp
    exact hp M1 ⟨_, _, _, _, k1, r1, pk_us⟩
  · rw [e, e2] at hp
    exact hp M1 ⟨_, _, _, _, k1, r1, pk_us⟩
  · rw [e, e2] at hp
    simp only at hp
    subst hx
    subst hy
    refine r7_isWhole k1 r1 ha ht ?_
    by_cases c : sD S a = 1
    · rw [if_pos c]
      refine ⟨fun z => absurd z (by decide), fun _ => ⟨zP_o k1, r7_isWhole k1 r1 hb htb ?_⟩⟩
      by_cases c2 : sD S b = 1
      · rw [if_pos c2]
        rw [if_pos ⟨c, c2⟩] at hp
        refine ⟨fun _ => ⟨zP_o k1, r7_isFull k1 r1 (fun c3 => ?_) (fun c3 => ?_)⟩, fun z => absurd z (by decide)⟩
        · rw [if_pos c3] at hp
          obtain ⟨_, _, _, ga⟩ := zRn_a r1 ha ht
          obtain ⟨_, _, _, gb⟩ := zRn_a r1 hb htb
          by_cases z : 0 < sN S a ∨ 0 < sN S b
          · refine ⟨zP_o k1, r7_takeN k1 r1 2 a ha ht (fun M2 k2 => ⟨zP_o k2, r7_takeN k2 r1 3 b hb htb (fun M3 k3 => ⟨zP_o k3, r7_divisor k3 2 3 z (zl71 ga.2.2.2.1) (zl71 gb.2.2.2.1) (fun M4 w w' k4 => ⟨zP_o k4, ?_⟩)⟩)⟩)⟩
            exact r7_keepWhole k4 r1 c3 2 (fun _ => Or.inl rfl) pk_us (fun M5 => hp M5)
          · have za : sN S a = 0 := by omega
            have zb' : sN S b = 0 := by omega
            refine ⟨zP_o k1, r7_takeN k1 r1 2 a ha ht (fun M2 k2 => ⟨zP_o k2, r7_takeN k2 r1 3 b hb htb (fun M3 k3 => ⟨zP_o k3, ?_⟩)⟩)⟩
            unfold pX7_divisor
            refine r7_nz k3 2 (fun _ => ?_) (fun w => absurd za w)
            unfold pX7_divisor_18
            refine r7_nz' k3 2 (fun _ => ?_) (fun w => absurd za w)
            unfold pX7_divisor_34
            refine ⟨zP_o k3, r7_copy k3 2 3 (fun M4 k4 => ⟨zP_o k4, ?_⟩)⟩
            rw [za, Nat.gcd_zero_left] at hp
            exact r7_keepWhole k4 r1 c3 2 (fun _ => Or.inl rfl) pk_us (fun M5 => hp M5)
        · rw [if_neg c3] at hp
          exact hp M1 ⟨_, _, _, _, k1, r1, pk_us⟩
      · rw [if_neg c2]
        rw [if_neg (fun q => c2 q.2)] at hp
        exact ⟨fun z => absurd rfl z, fun _ => hp M1 ⟨_, _, _, _, k1, r1, pk_us⟩⟩
    · rw [if_neg c]
      rw [if_neg (fun q => c q.1)] at hp
      exact ⟨fun _ => hp M1 ⟨_, _, _, _, k1, r1, pk_us⟩, fun z => absurd rfl z⟩
theorem m7_compare (h : zRM G Bm M0 M S t) {x y : Int32} (hp : ∀ M', zRM G Bm M0 M' (zo_compare S x y).2 0 → post (zo_compare S x y).1 M') : pX7_compare G Bm x y post M := by
  obtain ⟨ι, α, K, ρ, h, r, _⟩ := h
  unfold zo_compare at hp
  unfold pX7_compare
  refine r7_thr h (fun M1 k1 => ?_)
  have r1 : zRn (upd ι 0 0) α K S := zRn_ι r (pk_un (by decide)) (pk_un (by decide))
  refine ⟨zP_o k1, r7_isNumber k1 r1 (fun e => ⟨fun _ => ?_, fun z => absurd rfl z⟩) (fun a e ha ht hx => ⟨fun z => absurd z (by decide), fun _ => ⟨zP_o k1, r7_isNumber k1 r1 (fun e2 => ⟨fun z => absurd rfl z, fun _ => ?_⟩) (fun b e2 hb htb hy => ⟨fun _ => ?_, fun z => absurd z (by decide)⟩)⟩⟩)⟩
  · rw [e] at hp
    exact hp M1 ⟨_, _, _, _, k1, r1, pk_us⟩
  · rw [e, e2] at hp
    exact hp M1 ⟨_, _, _, _, k1, r1, pk_us⟩
  · rw [e, e2] at hp
    simp only at hp
    subst hx
    subst hy
    obtain ⟨a1, a2, a3, ga⟩ := zRn_a r1 ha ht
    obtain ⟨b1, b2, b3, gb⟩ := zRn_a r1 hb htb
    refine r7_sign k1 rfl ha (r7_sign k1 rfl hb ?_)
    rw [a1, b1]
    refine ⟨fun z => ?_, fun z => r7_sign k1 rfl ha (r7_sign k1 rfl hb ?_)⟩
    · rw [if_neg (fun q => q z)] at hp
      refine ⟨zP_o k1, r7_takeN k1 r1 2 a ha ht (fun M2 k2 => ⟨zP_o k2, r7_takeD k2 r1 3 b hb htb (fun M3 k3 => ⟨zP_o k3, r7_times k3 4 2 3 (zl36 ga.2.2.2.1) (zl36 gb.2.2.2.2) (fun M4 k4 => ⟨zP_o k4, r7_takeN k4 r1 2 b hb htb (fun M5 k5 => ⟨zP_o k5, r7_takeD k5 r1 3 a ha ht (fun M6 k6 => ⟨zP_o k6, r7_times k6 5 2 3 (zl36 gb.2.2.2.1) (zl36 ga.2.2.2.2) (fun M7 k7 => ⟨zP_o k7, r7_compared k7 4 5 (r7_sign k7 rfl ha ?_)⟩)⟩)⟩)⟩)⟩)⟩)⟩
      rw [a1]
      have hp' := hp M7 ⟨_, _, _, _, k7, r1, pk_us⟩
      obtain ⟨s1, s2, s3⟩ := zgd_s ga
      obtain ⟨s1', s2', s3'⟩ := zgd_s gb
      show (0 ≤ sS S a → post ((if sN S a * sD S b < sN S b * sD S a then (-1 : Int32) else if sN S a * sD S b = sN S b * sD S a then 0 else 1) * 1) M7) ∧ (¬ 0 ≤ sS S a → post ((if sN S a * sD S b < sN S b * sD S a then (-1 : Int32) else if sN S a * sD S b = sN S b * sD S a then 0 else 1) * (-1)) M7)
      rcases ga.2.2.1 with ⟨q, q'⟩ | ⟨q | q, q'⟩
      · have n0 : sN S b = 0 := s3'.mpr (z ▸ q)
        rw [q, q', n0, Nat.zero_mul, Nat.zero_mul, if_neg (by decide), if_pos rfl] at hp'
        rw [q, q', n0, Nat.zero_mul, Nat.zero_mul, if_neg (by decide), if_pos rfl]
        exact ⟨fun _ => hp', fun w => absurd (by decide) w⟩
      · rw [q, Int32.mul_comm] at hp'
        rw [q]
        exact ⟨fun _ => hp', fun w => absurd (by decide) w⟩
      · rw [q, Int32.mul_comm] at hp'
        rw [q]
        exact ⟨fun w => absurd w (by decide), fun _ => hp'⟩
    · rw [a1, b1]
      rw [if_pos z] at hp
      refine ⟨fun w => ?_, fun w => ?_⟩
      · rw [if_neg (fun c => by have := Int32.lt_iff_toInt_lt.mp c; have := i32_le.mp w; omega)] at hp
        exact hp M1 ⟨_, _, _, _, k1, r1, pk_us⟩
      · rw [if_pos (Int32.lt_iff_toInt_lt.mpr (by
          rcases Int.lt_or_le (sS S a).toInt (sS S b).toInt with c | c
          · exact c
          · exact absurd (i32_le.mpr c) w))] at hp
        exact hp M1 ⟨_, _, _, _, k1, r1, pk_us⟩
theorem i32_in {x : Int32} (h : 0 ≤ x.toInt ∧ x.toInt ≤ 3) : x = 0 ∨ x = 1 ∨ x = 2 ∨ x = 3 := by
  have e := i32_n h.1
  have : x.toInt.toNat = 0 ∨ x.toInt.toNat = 1 ∨ x.toInt.toNat = 2 ∨ x.toInt.toNat = 3 := by omega
  rcases this with c | c | c | c
  · exact Or.inl (by rw [e, c]; rfl)
  · exact Or.inr (Or.inl (by rw [e, c]; rfl))
  · exact Or.inr (Or.inr (Or.inl (by rw [e, c]; rfl)))
  · exact Or.inr (Or.inr (Or.inr (by rw [e, c]; rfl)))
theorem m7_of (h : zRM G Bm M0 M S t) {x w : Int32} (hp : ∀ M', zRM G Bm M0 M' (zo_of S x w).2 0 → post (zo_of S x w).1 M') : pX7_of G Bm x w post M := by
  obtain ⟨ι, α, K, ρ, h, r, _⟩ := h
  unfold zo_of at hp
  unfold pX7_of
  refine r7_thr h (fun M1 k1 => ?_)
  have r1 : zRn (upd ι 0 0) α K S := zRn_ι r (pk_un (by decide)) (pk_un (by decide))
  refine ⟨zP_o k1, r7_isNumber k1 r1 (fun e => ⟨fun _ => ?_, fun z => absurd rfl z⟩) (fun a e ha ht hx => ⟨fun z => absurd z (by decide), fun _ => r7_in ?_⟩)⟩
  · rw [e] at hp
    exact hp M1 ⟨_, _, _, _, k1, r1, pk_us⟩
  · rw [e] at hp
    simp only at hp
    subst hx
    rw [i64_of32, show (0 : Int64).toInt = 0 from rfl, show (3 : Int64).toInt = 3 from rfl]
    by_cases c : 0 ≤ w.toInt ∧ w.toInt ≤ 3
    · rw [if_pos c]
      obtain ⟨a1, a2, a3, ga⟩ := zRn_a r1 ha ht
      refine ⟨fun _ => ?_, fun z => absurd z (by decide)⟩
      rcases i32_in c with q | q | q | q
      · subst q
        refine ⟨fun z => absurd z (by decide), fun _ => ⟨fun z => absurd rfl z, fun _ => r7_sign k1 rfl ha ?_⟩⟩
        rw [a1]
        exact hp M1 ⟨_, _, _, _, k1, r1, pk_us⟩
      · subst q
        refine ⟨fun z => absurd z (by decide), fun _ => ⟨fun _ => ⟨zP_o k1, r7_isWhole k1 r1 ha ht ?_⟩, fun z => absurd z (by decide)⟩⟩
        have hp' := hp M1 ⟨_, _, _, _, k1, r1, pk_us⟩
        rw [if_neg (by decide), if_pos rfl] at hp'
        by_cases c2 : sD S a = 1
        · rw [if_pos c2] at hp' ⊢
          exact ⟨fun z => absurd z (by decide), fun _ => hp'⟩
        · rw [if_neg c2] at hp' ⊢
          exact ⟨fun _ => hp', fun z => absurd rfl z⟩
      · subst q
        refine ⟨fun _ => ⟨zP_o k1, r7_takeN k1 r1 2 a ha ht (fun M2 k2 => ⟨zP_o k2, r7_bits k2 2 ?_⟩)⟩, fun z => absurd (by decide) z⟩
        exact hp M2 ⟨_, _, _, _, k2, r1, pk_us⟩
      · subst q
        refine ⟨fun _ => ⟨zP_o k1, r7_takeD k1 r1 2 a ha ht (fun M2 k2 => ⟨zP_o k2, r7_bits k2 2 ?_⟩)⟩, fun z => absurd (by decide) z⟩
        exact hp M2 ⟨_, _, _, _, k2, r1, pk_us⟩
    · rw [if_neg c]
      have hp' := hp M1 ⟨_, _, _, _, k1, r1, pk_us⟩
      rw [if_neg (fun q => c (by rw [q]; decide)), if_neg (fun q => c (by rw [q]; decide)), if_neg (fun q => c (by rw [q]; decide)), if_neg (fun q => c (by rw [q]; decide))] at hp'
      exact ⟨fun z => absurd rfl z, fun _ => hp'⟩
theorem r7_floor (h : zP G Bm M0 M ι α K ρ) (r : zRn ι α K S) {a : Nat} (ha : a < 24) (ht : sT S a = true) (hp : ∀ (M' : zm_M) (ρ' : Nat → Nat), zP G Bm M0 M' ι α K ρ' → ρ' 10 = zhd (sS S a) (sN S a) (sD S a) → ρ' 11 = sD S a → ρ' 12 = zrs (sS S a) (sN S a) (sD S a) → (∀ q, q < 10 ∨ 14 < q → ρ' q = ρ q) → post (zsr (sS S a)) M') : pX7_floor G Bm (nI a) post M := by
  obtain ⟨a1, a2, a3, ga⟩ := zRn_a r ha ht
  have hD : 0 < sD S a := Nat.pos_of_ne_zero ga.1
  have hm := Nat.mod_lt (sN S a) hD
  have last : ∀ (M' : zm_M) (ρ' : Nat → Nat), zP G Bm M0 M' ι α K ρ' → ρ' 10 = zhd (sS S a) (sN S a) (sD S a) → ρ' 11 = sD S a → ρ' 12 = zrs (sS S a) (sN S a) (sD S a) → (∀ q, q < 10 ∨ 14 < q → ρ' q = ρ q) → pX7_floor_86 G post Bm (nI a) M' := by
    intro M' ρ' k e1 e2 e3 e4
    have hp' := hp M' ρ' k e1 e2 e3 e4
    unfold pX7_floor_86
    refine r7_sign k rfl ha ?_
    rw [a1]
    unfold zsr at hp'
    refine ⟨fun y => ?_, fun y => ?_⟩
    · rw [if_neg (fun c => by have := i32_lt.mp c; have := i32_0.mp y; omega)] at hp'
      exact hp'
    · rw [if_pos (i32_lt.mpr (by
        rcases Int.lt_or_le (sS S a).toInt 0 with c | c
        · exact c
        · exact absurd (i32_0.mpr c) y))] at hp'
      exact hp'
  have hql : sN S a / sD S a < 4294967296 ^ 16 := Nat.lt_of_le_of_lt (Nat.div_le_self _ _) ga.2.2.2.1
  unfold pX7_floor
  refine ⟨zP_o h, r7_takeN h r 13 a ha ht (fun M1 k1 => ⟨zP_o k1, r7_takeD k1 r 11 a ha ht (fun M2 k2 => ⟨zP_o k2, r7_divide k2 10 12 13 11 hD (zl71 ga.2.2.2.2) (fun M3 k3 => r7_sign k3 rfl ha ?_)⟩)⟩)⟩
  rw [a1]
  have fr : ∀ q, q < 10 ∨ 14 < q → rgu (rgu (rgu (rgu ρ 13 (sN S a)) 11 (sD S a)) 10 (rgu (rgu ρ 13 (sN S a)) 11 (sD S a) 13 / rgu (rgu ρ 13 (sN S a)) 11 (sD S a) 11)) 12 (rgu (rgu ρ 13 (sN S a)) 11 (sD S a) 13 % rgu (rgu ρ 13 (sN S a)) 11 (sD S a) 11) q = ρ q := fun q hq => by
    rw [rgu_n (by omega), rgu_n (by omega), rgu_n (by omega), rgu_n (by omega)]
  have same : ¬ (sS S a < 0 ∧ sN S a % sD S a ≠ 0) → pX7_floor_86 G post Bm (nI a) M3 := fun c => by
    refine last M3 _ k3 ?_ rfl ?_ fr
    · unfold zhd
      rw [if_neg c]
      rfl
    · unfold zrs
      rw [if_neg c]
      rfl
  refine ⟨fun y => same (fun c => ?_), fun y => r7_np k3 12 (fun e => same (fun c => c.2 e)) (fun e => ⟨zP_o k3, r7_small k3 14 (fun M4 k4 => ⟨zP_o k4, r7_add k4 10 14 (zl71 hql) (by show (1 : Nat) < _; exact Nat.one_lt_pow (by decide) (by decide)) (fun M5 k5 => ⟨zP_o k5, r7_copy k5 14 11 (fun M6 k6 => ⟨zP_o k6, r7_less k6 14 12 (Nat.le_of_lt hm) (fun M7 k7 => ⟨zP_o k7, r7_copy k7 12 14 (fun M8 k8 => ?_)⟩)⟩)⟩)⟩)⟩)⟩
  · have := i32_lt.mp c.1
    have := i32_0.mp y
    omega
  · have hc : sS S a < 0 ∧ sN S a % sD S a ≠ 0 := ⟨i32_lt.mpr (by
      rcases Int.lt_or_le (sS S a).toInt 0 with c | c
      · exact c
      · exact absurd (i32_0.mpr c) y), e⟩
    refine last M8 _ k8 ?_ rfl ?_ (fun q hq => ?_)
    · unfold zhd
      rw [if_pos hc]
      rfl
    · unfold zrs
      rw [if_pos hc]
      rfl
    · rw [rgu_n (by omega), rgu_n (by omega), rgu_n (by omega), rgu_n (by omega), rgu_n (by omega)]
      exact fr q hq
theorem r7_next {post : zm_M → Prop} (h : zP G Bm M0 M ι α K ρ) (h0 : ρ 12 ≠ 0) (h1 : ρ 12 < 4294967296 ^ 16) (hp : ∀ (M' : zm_M) (ρ' : Nat → Nat), zP G Bm M0 M' ι α K ρ' → ρ' 10 = ρ 11 / ρ 12 → ρ' 11 = ρ 12 → ρ' 12 = ρ 11 % ρ 12 → (∀ q, q < 10 ∨ 13 < q → ρ' q = ρ q) → post M') : pX7_nextTerm G Bm post M := by
  unfold pX7_nextTerm
  refine ⟨zP_o h, r7_divide h 10 13 11 12 (Nat.pos_of_ne_zero h0) (zl71 h1) (fun M1 k1 => ⟨zP_o k1, r7_copy k1 11 12 (fun M2 k2 => ⟨zP_o k2, r7_copy k2 12 13 (fun M3 k3 => hp M3 _ k3 rfl rfl rfl (fun q hq => ?_))⟩)⟩)⟩
  rw [rgu_n (by omega), rgu_n (by omega), rgu_n (by omega), rgu_n (by omega)]
theorem m7_near (h : zRM G Bm M0 M S t) {x how : Int32} (hp : ∀ M', zRM G Bm M0 M' (zo_near S x how).2 0 → post (zo_near S x how).1 M') : pX7_near G Bm x how post M := by
  obtain ⟨ι, α, K, ρ, h, r, _⟩ := h
  unfold zo_near at hp
  unfold pX7_near
  refine r7_thr h (fun M1 k1 => ?_)
  have r1 : zRn (upd ι 0 0) α K S := zRn_ι r (pk_un (by decide)) (pk_un (by decide))
  refine ⟨zP_o k1, r7_isNumber k1 r1 (fun e => ⟨fun _ => ?_, fun z => absurd rfl z⟩) (fun a e ha ht hx => ⟨fun z => absurd z (by decide), fun _ => r7_in ?_⟩)⟩
  · rw [e] at hp
    exact hp M1 ⟨_, _, _, _, k1, r1, pk_us⟩
  rw [e] at hp
  simp only at hp
  subst hx
  rw [i64_of32, show (0 : Int64).toInt = 0 from rfl, show (3 : Int64).toInt = 3 from rfl]
  by_cases c : 0 ≤ how.toInt ∧ how.toInt ≤ 3
  · rw [if_pos c]
    rw [if_pos ⟨i32_0.mpr c.1, i32_le.mpr c.2⟩] at hp
    refine ⟨fun _ => ⟨zP_o k1, r7_isFull k1 r1 (fun c3 => ⟨zP_o k1, ?_⟩) (fun c3 => ?_)⟩, fun z => absurd z (by decide)⟩
    · rw [if_pos c3] at hp
      obtain ⟨a1, a2, a3, ga⟩ := zRn_a r1 ha ht
      have hD : 0 < sD S a := Nat.pos_of_ne_zero ga.1
      have hm := Nat.mod_lt (sN S a) hD
      refine r7_floor k1 r1 ha ht (fun M2 ρ2 k2 e10 e11 e12 f2 => ?_)
      -- the end: register 10 holds the answer
      have fin : ∀ (M' : zm_M) (ρ' : Nat → Nat), zP G Bm M0 M' (upd ι 0 0) α K ρ' → ρ' 10 = znr (sS S a) how (sN S a) (sD S a) → pX7_near_174 G post Bm (zsr (sS S a)) M' := by
        intro M' ρ' k' e'
        unfold pX7_near_174
        refine ⟨zP_o k', r7_keepWhole k' r1 c3 10 (fun _ => zsr_s _) pk_us (fun M5 => ?_)⟩
        rw [e']
        refine zkp_12 (zkp_s (fun hT => (zsr_h ga (fun h0 => ?_) hT).symm)) hp M5
        have hs0 := (zgd_s ga).2.2.mp h0
        rw [hs0, h0]
        exact znr_0 ga.1
      have hhl : ρ2 10 < 4294967296 ^ 71 := by
        rw [e10]
        have := zhd_le (s := sS S a) (N := sN S a) (D := sD S a)
        have h16 := ga.2.2.2.1
        have : (4294967296 : Nat) ^ 16 + 1 ≤ 4294967296 ^ 71 := Nat.pow_lt_pow_right (by decide) (by decide)
        omega
      -- one more, or not
      have go : ∀ (b : Int32) (M' : zm_M) (ρ' : Nat → Nat), zP G Bm M0 M' (upd ι 0 0) α K ρ' → ρ' 10 = zhd (sS S a) (sN S a) (sD S a) → ((b = 0 ∧ zhd (sS S a) (sN S a) (sD S a) = znr (sS S a) how (sN S a) (sD S a)) ∨ (¬ b = 0 ∧ sS S a < 0 ∧ zhd (sS S a) (sN S a) (sD S a) = znr (sS S a) how (sN S a) (sD S a) + 1) ∨ (¬ b = 0 ∧ ¬ sS S a < 0 ∧ zhd (sS S a) (sN S a) (sD S a) + 1 = znr (sS S a) how (sN S a) (sD S a))) → pX7_near_139 G post Bm (zsr (sS S a)) b M' := by
        intro b M' ρ' k' e' hb
        unfold pX7_near_139
        have h71 : ρ' 10 < 4294967296 ^ 71 := by rw [e', ← e10]; exact hhl
        refine ⟨fun z => fin M' ρ' k' ?_, fun z => ⟨zP_o k', r7_small k' 14 (fun M3 k3 => ⟨fun w => ⟨zP_o k3, r7_add k3 10 14 h71 (by show (1 : Nat) < _; exact Nat.one_lt_pow (by decide) (by decide)) (fun M4 k4 => fin M4 _ k4 ?_)⟩, fun w => ⟨zP_o k3, r7_less k3 10 14 ?_ (fun M4 k4 => fin M4 _ k4 ?_)⟩⟩)⟩⟩
        · rcases hb with ⟨_, q⟩ | ⟨q, _, _⟩ | ⟨q, _, _⟩
          · rw [e', q]
          · exact absurd z q
          · exact absurd z q
        · rcases hb with ⟨q, _⟩ | ⟨_, q, _⟩ | ⟨_, _, q⟩
          · exact absurd q z
          · unfold zsr at w
            rw [if_pos q] at w
            exact absurd w (by decide)
          · show ρ' 10 + 1 = _
            rw [e', q]
        · show 1 ≤ ρ' 10
          rcases hb with ⟨q, _⟩ | ⟨_, _, q⟩ | ⟨_, q, _⟩
          · exact absurd q z
          · omega
          · unfold zsr at w
            rw [if_neg q] at w
            exact absurd (by decide) w
        · show ρ' 10 - 1 = _
          rcases hb with ⟨q, _⟩ | ⟨_, _, q⟩ | ⟨_, q, _⟩
          · exact absurd q z
          · omega
          · unfold zsr at w
            rw [if_neg q] at w
            exact absurd (by decide) w
      have hsg := zgd_s ga
      -- the cases
      have hR : zrs (sS S a) (sN S a) (sD S a) = 0 ↔ sN S a % sD S a = 0 := by
        unfold zrs
        by_cases q : sS S a < 0 ∧ sN S a % sD S a ≠ 0
        · rw [if_pos q]
          have := q.2
          omega
        · rw [if_neg q]
      rcases i32_in c with q | q | q | q
      · subst q
        refine ⟨fun _ => ?_, fun z => absurd z (by decide)⟩
        unfold pX7_near_60
        refine ⟨fun _ => ?_, fun z => absurd z (by decide)⟩
        unfold pX7_near_88 pX7_near_89
        refine ⟨fun _ => go 0 M2 ρ2 k2 e10 (Or.inl ⟨rfl, ?_⟩), fun z => absurd z (by decide)⟩
        unfold zhd znr
        by_cases q : sS S a < 0 ∧ sN S a % sD S a ≠ 0
        · rw [if_pos q, if_pos (Or.inl ⟨rfl, q⟩)]
        · rw [if_neg q, if_neg (fun z => z.elim (fun z => q z.2) (fun z => z.elim (fun z => absurd z.1 (by decide)) (fun z => absurd z.1 (by decide))))]
      · subst q
        refine ⟨fun z => absurd rfl z, fun _ => r7_n k2 12 (fun u hu hz => ⟨fun z => ?_, fun z => ?_⟩)⟩
        · have z' := (nI_ltI (a := 0) (by decide) (by omega)).mp z
          have hn0 : sN S a % sD S a ≠ 0 := fun q => by
            have h3 := hz.mpr (by rw [e12]; exact hR.mpr q)
            omega
          unfold pX7_near_84 pX7_near_89
          refine ⟨fun _ => go 1 M2 ρ2 k2 e10 (Or.inr ?_), fun z => absurd z (by decide)⟩
          by_cases q : sS S a < 0
          · refine Or.inl ⟨by decide, q, ?_⟩
            have hnn : ¬ 0 < sS S a := fun z => by
              have h3 := i32_lt.mp q
              have h4 : 0 < (sS S a).toInt := Int32.lt_iff_toInt_lt.mp z
              omega
            unfold zhd znr
            rw [if_pos ⟨q, hn0⟩, if_neg (fun z => z.elim (fun z => absurd z.1 (by decide)) (fun z => z.elim (fun z => hnn z.2.1) (fun z => absurd z.1 (by decide))))]
          · refine Or.inr ⟨by decide, q, ?_⟩
            have h1 : sN S a ≠ 0 := fun q => hn0 (by rw [q, Nat.zero_mod])
            unfold zhd znr
            rw [if_neg (fun z => q z.1), if_pos (Or.inr (Or.inl ⟨rfl, by rw [hsg.2.1 q h1]; decide, hn0⟩))]
        · have z' : ¬ 0 < u := fun q => z ((nI_ltI (a := 0) (by decide) (by omega)).mpr q)
          have hn0 : sN S a % sD S a = 0 := hR.mp (by rw [← e12]; exact hz.mp (by omega))
          unfold pX7_near_60
          refine ⟨fun _ => ?_, fun z => absurd z (by decide)⟩
          unfold pX7_near_88 pX7_near_89
          refine ⟨fun _ => go 0 M2 ρ2 k2 e10 (Or.inl ⟨rfl, ?_⟩), fun z => absurd z (by decide)⟩
          unfold zhd znr
          rw [if_neg (fun z => z.2 hn0), if_neg (fun z => z.elim (fun z => z.2.2 hn0) (fun z => z.elim (fun z => z.2.2 hn0) (fun z => absurd z.1 (by decide))))]
      · subst q
        refine ⟨fun _ => ?_, fun z => absurd z (by decide)⟩
        unfold pX7_near_60
        refine ⟨fun _ => ?_, fun z => absurd z (by decide)⟩
        unfold pX7_near_88 pX7_near_89
        have h12 : ρ2 12 < 4294967296 ^ 16 := by
          rw [e12]
          exact Nat.lt_trans (zrs_lt ga.1) ga.2.2.2.2
        refine ⟨fun z => absurd rfl z, fun _ => ⟨zP_o k2, r7_twice k2 12 0 (by decide) (zl71 h12) (fun M3 k3 => ⟨zP_o k3, r7_compared k3 12 11 ?_⟩)⟩⟩
        have t12 : rgu ρ2 12 (ρ2 12 * 2 + 0) 12 = zrs (sS S a) (sN S a) (sD S a) * 2 := by rw [rgu_s, e12, Nat.add_zero]
        have t11 : rgu ρ2 12 (ρ2 12 * 2 + 0) 11 = sD S a := by rw [rgu_n (by decide), e11]
        have t10 : rgu ρ2 12 (ρ2 12 * 2 + 0) 10 = zhd (sS S a) (sN S a) (sD S a) := by rw [rgu_n (by decide), e10]
        rw [t12, t11]
        -- what the middle says
        have yes : (sD S a < 2 * zrs (sS S a) (sN S a) (sD S a) ∨ (sD S a = 2 * zrs (sS S a) (sN S a) (sD S a) ∧ zhd (sS S a) (sN S a) (sD S a) % 2 = 1)) → pX7_near_139 G post Bm (zsr (sS S a)) 1 M3 := by
          intro hy
          refine go 1 M3 _ k3 t10 (Or.inr ?_)
          by_cases q : sS S a < 0
          · refine Or.inl ⟨by decide, q, ?_⟩
            have hn0 : sN S a % sD S a ≠ 0 := fun h0 => by
              have := hR.mpr h0
              omega
            unfold zhd zrs at hy
            rw [if_pos ⟨q, hn0⟩, if_pos ⟨q, hn0⟩] at hy
            unfold zhd znr
            rw [if_pos ⟨q, hn0⟩, if_neg (fun z => z.elim (fun z => absurd z.1 (by decide)) (fun z => z.elim (fun z => absurd z.1 (by decide)) (fun z => by
              have := z.2
              omega)))]
          · refine Or.inr ⟨by decide, q, ?_⟩
            unfold zhd zrs at hy
            rw [if_neg (fun z => q z.1), if_neg (fun z => q z.1)] at hy
            unfold zhd znr
            rw [if_neg (fun z => q z.1), if_pos (Or.inr (Or.inr ⟨rfl, by omega⟩))]
        have no : ¬ (sD S a < 2 * zrs (sS S a) (sN S a) (sD S a) ∨ (sD S a = 2 * zrs (sS S a) (sN S a) (sD S a) ∧ zhd (sS S a) (sN S a) (sD S a) % 2 = 1)) → pX7_near_139 G post Bm (zsr (sS S a)) 0 M3 := by
          intro hy
          refine go 0 M3 _ k3 t10 (Or.inl ⟨rfl, ?_⟩)
          unfold zhd zrs at hy
          unfold zhd znr
          by_cases q : sS S a < 0 ∧ sN S a % sD S a ≠ 0
          · rw [if_pos q, if_pos q] at hy
            have hq2 := q.2
            rw [if_pos q, if_pos (Or.inr (Or.inr ⟨rfl, by omega⟩))]
          · rw [if_neg q, if_neg q] at hy
            rw [if_neg q, if_neg (fun z => z.elim (fun z => absurd z.1 (by decide)) (fun z => z.elim (fun z => absurd z.1 (by decide)) (fun z => by
              have := z.2
              omega)))]
        by_cases q1 : zrs (sS S a) (sN S a) (sD S a) * 2 < sD S a
        · rw [if_pos q1]
          refine ⟨fun z => absurd z (by decide), fun _ => ⟨fun _ => ?_, fun z => absurd z (by decide)⟩⟩
          unfold pX7_near_136 pX7_near_137
          exact no (by omega)
        · rw [if_neg q1]
          by_cases q2 : zrs (sS S a) (sN S a) (sD S a) * 2 = sD S a
          · rw [if_pos q2]
            refine ⟨fun z => absurd z (by decide), fun _ => ⟨fun z => absurd rfl z, fun _ => ⟨zP_o k3, r7_isOdd k3 10 ?_⟩⟩⟩
            rw [t10]
            by_cases q3 : zhd (sS S a) (sN S a) (sD S a) % 2 = 1
            · rw [if_pos q3]
              refine ⟨fun z => absurd z (by decide), fun _ => ?_⟩
              unfold pX7_near_132 pX7_near_137
              exact yes (by omega)
            · rw [if_neg q3]
              refine ⟨fun _ => ?_, fun z => absurd rfl z⟩
              unfold pX7_near_136 pX7_near_137
              exact no (by omega)
          · rw [if_neg q2]
            refine ⟨fun _ => ?_, fun z => absurd (by decide) z⟩
            unfold pX7_near_132 pX7_near_137
            exact yes (by omega)
      · subst q
        refine ⟨fun _ => ?_, fun z => absurd z (by decide)⟩
        unfold pX7_near_60
        refine ⟨fun z => absurd rfl z, fun _ => r7_sign k2 rfl ha ?_⟩
        rw [a1]
        have no : ¬ (sS S a < 0 ∧ sN S a % sD S a ≠ 0) → pX7_near_88 G post Bm 3 (zsr (sS S a)) M2 := fun q => by
          unfold pX7_near_88 pX7_near_89
          refine ⟨fun _ => go 0 M2 ρ2 k2 e10 (Or.inl ⟨rfl, ?_⟩), fun z => absurd z (by decide)⟩
          unfold zhd znr
          rw [if_neg q, if_neg (fun z => z.elim (fun z => absurd z.1 (by decide)) (fun z => z.elim (fun z => absurd z.1 (by decide)) (fun z => absurd z.1 (by decide))))]
        refine ⟨fun z => no (fun q => ?_), fun z => r7_np k2 12 (fun q => no (fun q2 => q2.2 (hR.mp (by rw [← e12]; exact q)))) (fun q => ?_)⟩
        · have := i32_lt.mp q.1
          have := i32_0.mp z
          omega
        · have hneg : sS S a < 0 := i32_lt.mpr (by
            rcases Int.lt_or_le (sS S a).toInt 0 with c | c
            · exact c
            · exact absurd (i32_0.mpr c) z)
          have hn0 : sN S a % sD S a ≠ 0 := fun h0 => q (by rw [e12]; exact hR.mpr h0)
          unfold pX7_near_84 pX7_near_89
          refine ⟨fun _ => go 1 M2 ρ2 k2 e10 (Or.inr (Or.inl ⟨by decide, hneg, ?_⟩)), fun z => absurd z (by decide)⟩
          unfold zhd znr
          rw [if_pos ⟨hneg, hn0⟩, if_neg (fun z => z.elim (fun z => absurd z.1 (by decide)) (fun z => z.elim (fun z => absurd z.1 (by decide)) (fun z => absurd z.1 (by decide))))]
    · rw [if_neg c3] at hp
      exact hp M1 ⟨_, _, _, _, k1, r1, pk_us⟩
  · rw [if_neg c]
    rw [if_neg (fun q => c ⟨i32_0.mp q.1, i32_le.mp q.2⟩)] at hp
    exact ⟨fun z => absurd rfl z, fun _ => hp M1 ⟨_, _, _, _, k1, r1, pk_us⟩⟩
theorem r7_termsL {k43 : Int32 → Int32 → zm_M → Prop} {s : Int32} {n : Nat} (hk : ∀ (M' : zm_M) (ρ' : Nat → Nat), zP G Bm M0 M' ι α K ρ' → k43 s (nI n) M') : ∀ (m c : Nat) (M : zm_M) (ρ : Nat → Nat), zP G Bm M0 M ι α K ρ → zE m (ρ 11) (ρ 12) → ρ 12 < 4294967296 ^ 16 → c + zsl m (ρ 11) (ρ 12) = n → pX7_terms_23 G post k43 (m + 1) Bm s (nI c) M
  | 0, c, M, ρ, h, he, hl, hn => by
    rw [pX7_terms_23]
    have hcn : c = n := hn
    rw [hcn]
    exact r7_np h 12 (fun _ => hk M ρ h) (fun q => absurd he q)
  | m + 1, c, M, ρ, h, he, hl, hn => by
    rw [pX7_terms_23]
    unfold zsl at hn
    refine r7_np h 12 (fun q => ?_) (fun q => ⟨zP_o h, r7_next h q hl (fun M1 ρ1 k1 e10 e11 e12 f1 x e => ?_)⟩)
    · rw [if_pos q] at hn
      have hcn : c = n := hn
      rw [hcn]
      exact hk M ρ h
    · rw [if_neg q] at hn
      rw [e, nI_1]
      refine r7_termsL hk m (c + 1) M1 ρ1 k1 ?_ ?_ ?_
      · rw [e11, e12]
        exact he.resolve_left q
      · rw [e12]
        exact Nat.lt_trans (Nat.mod_lt _ (Nat.pos_of_ne_zero q)) hl
      · rw [e11, e12]
        omega
theorem m7_terms (h : zRM G Bm M0 M S t) {x : Int32} (hp : ∀ M', zRM G Bm M0 M' (zo_terms S x).2 0 → post (zo_terms S x).1 M') : pX7_terms G Bm x post M := by
  obtain ⟨ι, α, K, ρ, h, r, _⟩ := h
  unfold zo_terms at hp
  unfold pX7_terms
  refine r7_thr h (fun M1 k1 => ?_)
  have r1 : zRn (upd ι 0 0) α K S := zRn_ι r (pk_un (by decide)) (pk_un (by decide))
  refine ⟨zP_o k1, r7_isNumber k1 r1 (fun e => ⟨fun z => absurd rfl z, fun _ => ?_⟩) (fun a e ha ht hx => ⟨fun _ => ⟨zP_o k1, ?_⟩, fun z => absurd z (by decide)⟩)⟩
  · rw [e] at hp
    exact hp M1 ⟨_, _, _, _, k1, r1, pk_us⟩
  · rw [e] at hp
    simp only at hp
    subst hx
    obtain ⟨a1, a2, a3, ga⟩ := zRn_a r1 ha ht
    refine r7_floor k1 r1 ha ht (fun M2 ρ2 k2 e10 e11 e12 f2 x6 e6 => ⟨1025, ?_⟩)
    have h12 : ρ2 12 < 4294967296 ^ 16 := by
      rw [e12]
      exact Nat.lt_trans (zrs_lt ga.1) ga.2.2.2.2
    rw [e6]
    refine r7_termsL (n := 1 + zsl 1024 (sD S a) (zrs (sS S a) (sN S a) (sD S a))) (fun M3 ρ3 k3 => ⟨fun _ => hp M3 ⟨_, _, _, _, k3, r1, pk_us⟩, fun z => ?_⟩) 1024 1 M2 ρ2 k2 (zE_of 512 _ _ (by rw [p512]; exact h12)) h12 (by rw [e11, e12])
    rcases zsr_s (sS S a) with q | q
    · rw [q] at z
      exact absurd z (by decide)
    · rw [q] at z
      exact absurd z (by decide)
theorem r7_termL {k58 : Nat → Int32 → zm_M → Prop} {i : Nat} (hi : i < 2 ^ 31) {o : Option Nat} (hy : ∀ (M' : zm_M) (ρ' : Nat → Nat), 0 < i → zP G Bm M0 M' ι α K ρ' → o = some (ρ' 10) → k58 Bm 1 M') (hn : ∀ (M' : zm_M) (ρ' : Nat → Nat), zP G Bm M0 M' ι α K ρ' → o = none → post (-1) M') : ∀ (d k : Nat) (M : zm_M) (ρ : Nat → Nat) (s : Int32), k + d = i → zP G Bm M0 M ι α K ρ → (0 < k → s = 1) → zgo d (ρ 11) (ρ 12) (ρ 10) = o → ρ 12 < 4294967296 ^ 16 → (k = 0 → ∀ (M' : zm_M), i = 0 → zP G Bm M0 M' ι α K ρ → o = some (ρ 10) → k58 Bm s M') → pX7_term_28 G post k58 (d + 1) Bm (nI i) s (nI k) M
  | 0, k, M, ρ, s, hk, h, hs, ho, hl, hz => by
    rw [pX7_term_28]
    have e : k = i := by omega
    subst e
    refine ⟨fun _ => ?_, fun y => absurd ((nI_leI (by omega) (by omega)).mpr (Nat.le_refl _)) y⟩
    rcases Nat.eq_zero_or_pos k with c | c
    · exact hz c M c h ho.symm
    · rw [hs c]
      exact hy M ρ c h ho.symm
  | d + 1, k, M, ρ, s, hk, h, hs, ho, hl, hz => by
    rw [pX7_term_28]
    unfold zgo at ho
    refine ⟨fun y => absurd ((nI_leI (by omega) (by omega)).mp y) (by omega), fun _ => r7_nz' h 12 (fun q => ?_) (fun q => ⟨zP_o h, r7_next h q hl (fun M1 ρ1 k1 e10 e11 e12 f1 x10 e10' x11 e11' => ?_)⟩)⟩
    · rw [if_pos q] at ho
      exact hn M ρ h ho.symm
    · rw [if_neg q] at ho
      rw [e10', e11', nI_1]
      refine r7_termL hi hy hn d (k + 1) M1 ρ1 1 (by omega) k1 (fun _ => rfl) ?_ ?_ (fun q => by omega)
      · rw [e10, e11, e12]
        exact ho
      · rw [e12]
        exact Nat.lt_trans (Nat.mod_lt _ (Nat.pos_of_ne_zero q)) hl
theorem m7_term (h : zRM G Bm M0 M S t) {x i : Int32} (hp : ∀ M', zRM G Bm M0 M' (zo_term S x i).2 0 → post (zo_term S x i).1 M') : pX7_term G Bm x i post M := by
  obtain ⟨ι, α, K, ρ, h, r, _⟩ := h
  unfold zo_term at hp
  unfold pX7_term
  refine r7_thr h (fun M1 k1 => ?_)
  have r1 : zRn (upd ι 0 0) α K S := zRn_ι r (pk_un (by decide)) (pk_un (by decide))
  refine ⟨zP_o k1, r7_isNumber k1 r1 (fun e => ⟨fun _ => ?_, fun z => absurd rfl z⟩) (fun a e ha ht hx => ⟨fun z => absurd z (by decide), fun _ => ⟨fun z => ⟨zP_o k1, ?_⟩, fun z => ?_⟩⟩)⟩
  · rw [e] at hp
    exact hp M1 ⟨_, _, _, _, k1, r1, pk_us⟩
  · rw [e] at hp
    simp only at hp
    subst hx
    have z' := i32_0.mp z
    rw [if_neg (fun q => by have := i32_lt.mp q; omega)] at hp
    obtain ⟨a1, a2, a3, ga⟩ := zRn_a r1 ha ht
    refine r7_floor k1 r1 ha ht (fun M2 ρ2 k2 e10 e11 e12 f2 x6 e6 => ⟨i.toInt.toNat + 1, ?_⟩)
    have h12 : ρ2 12 < 4294967296 ^ 16 := by
      rw [e12]
      exact Nat.lt_trans (zrs_lt ga.1) ga.2.2.2.2
    have hi31 : i.toInt.toNat < 2 ^ 31 := by
      have := Int32.toInt_lt i
      omega
    have hin := i32_n z'
    have hi0 : i = 0 ↔ i.toInt.toNat = 0 := ⟨fun q => by rw [q]; rfl, fun q => by rw [hin, q]; rfl⟩
    -- the end
    have fin : ∀ (M' : zm_M) (ρ' : Nat → Nat) (s : Int32), zP G Bm M0 M' (upd ι 0 0) α K ρ' → zgo i.toInt.toNat (sD S a) (zrs (sS S a) (sN S a) (sD S a)) (zhd (sS S a) (sN S a) (sD S a)) = some (ρ' 10) → (s = 1 ∨ s = -1) → (ρ' 10 ≠ 0 → s = if i = 0 then sS S a else 1) → zw_ob M' Bm 10 ∧ pX7_free G Bm (fun r16 M15 => (¬ r16 = (-3 : Int32) → zw_ob M15 Bm 10 ∧ pX7_keepWhole G Bm (10 : Int32) s (fun r18 M17 => post r18 M17) M15) ∧ (r16 = (-3 : Int32) → post (-3 : Int32) M15)) M' := by
      intro M' ρ' s k' ho hs hs2
      rw [ho] at hp
      simp only at hp
      refine ⟨zP_o k', r7_isFull k' r1 (fun c => ⟨zP_o k', r7_keepWhole k' r1 c 10 (fun _ => hs) pk_us (fun M5 => ?_)⟩) (fun c => ?_)⟩
      · rw [if_pos c] at hp
        exact zkp_12 (zkp_s (fun hT => (hs2 hT).symm)) hp M5
      · rw [if_neg c] at hp
        exact hp M' ⟨_, _, _, _, k', r1, pk_us⟩
    rw [e6]
    have hgo := r7_termL (G := G) (Bm := Bm) (M0 := M0) (ι := upd ι 0 0) (α := α) (K := K) (post := post) (i := i.toInt.toNat) (o := zgo i.toInt.toNat (sD S a) (zrs (sS S a) (sN S a) (sD S a)) (zhd (sS S a) (sN S a) (sD S a))) (k58 := fun w12 w13 M14 => zw_ob M14 w12 10 ∧ pX7_free G w12 (fun r16 M15 => (¬ r16 = (-3 : Int32) → zw_ob M15 w12 10 ∧ pX7_keepWhole G w12 (10 : Int32) w13 (fun r18 M17 => post r18 M17) M15) ∧ (r16 = (-3 : Int32) → post (-3 : Int32) M15)) M14) hi31 (fun M3 ρ3 q0 k3 ho => fin M3 ρ3 1 k3 ho (Or.inl rfl) (fun _ => ?_)) (fun M3 ρ3 k3 ho => ?_) i.toInt.toNat 0 M2 ρ2 (zsr (sS S a)) (by omega) k2 (fun q => absurd q (by decide)) (by rw [e10, e11, e12]) h12 (fun _ M3 q k3 ho => fin M3 ρ2 _ k3 ho (zsr_s _) (fun hT => ?_))
    · rw [← hin] at hgo
      exact hgo
    · rw [if_neg (fun q => by have := hi0.mp q; omega)]
    · rw [ho] at hp
      exact hp M3 ⟨_, _, _, _, k3, r1, pk_us⟩
    · rw [if_pos (hi0.mpr q)]
      rw [e10] at hT
      exact zsr_g ga (fun h0 => hT (by rw [h0]; exact zhd_0))
  · rw [e] at hp
    simp only at hp
    rw [if_pos (i32_lt.mpr (by
      rcases Int.lt_or_le i.toInt 0 with c | c
      · exact c
      · exact absurd (i32_0.mpr c) z))] at hp
    exact hp M1 ⟨_, _, _, _, k1, r1, pk_us⟩
end R78
