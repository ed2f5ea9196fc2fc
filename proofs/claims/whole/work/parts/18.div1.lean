/-! ===== WIDE: the guess of a quotient's limb ===== -/
theorem uN_add63 (x : Int64) : uN (x + (-9223372036854775808 : Int64)) = (uN x + 9223372036854775808) % 18446744073709551616 := by
  rw [uN_add]
  rfl
theorem uN_leA (x y : Int64) : (x + (-9223372036854775808 : Int64)) ≤ (y + (-9223372036854775808 : Int64)) ↔ uN x ≤ uN y := by
  have hx := uN_lt x
  have hy := uN_lt y
  rw [Int64.le_iff_toInt_le, uN_int, uN_int, uN_add63, uN_add63]
  by_cases h1 : uN x < 9223372036854775808 <;> by_cases h2 : uN y < 9223372036854775808
  · rw [if_neg (by omega), if_neg (by omega)]; omega
  · rw [if_neg (by omega), if_pos (by omega)]; omega
  · rw [if_pos (by omega), if_neg (by omega)]; omega
  · rw [if_pos (by omega), if_pos (by omega)]; omega
theorem lN_sh1 {n : Nat} (h : n < 18446744073709551616) : ((lN n).toUInt64 >>> ((1 : Int32).toInt64.toUInt64 &&& Int64.toUInt64 63)).toInt64 = lN (n / 2) := lN_of (by
  have h1 : ((1 : Int32).toInt64.toUInt64 &&& Int64.toUInt64 63).toNat % 64 = 1 := by decide
  rw [uN_shr, h1, uN_lN h])
theorem lN_dbl {n : Nat} (h : 2 * n < 18446744073709551616) : lN n <<< ((1 : Int32).toInt64 &&& 63) = lN (2 * n) := lN_of (by
  rw [uN_shl, uN_lN (by omega)]
  exact Nat.mod_eq_of_lt h)
theorem q5_qou {G : Nat → ClassId} {M : zm_M} {X d : Nat} (hX : X < 18446744073709551616) (hd0 : 0 < d) (hd : d < 4294967296) {post : Int64 → zm_M → Prop} (hp : post (lN (X / d)) M) : pX5_quotientOfUnsigned G (lN X) (lN d) post M := by
  unfold pX5_quotientOfUnsigned
  have h0 : (0 : Int64) < lN d := (pk_lLT (a := 0) (by decide) (by omega)).mpr hd0
  refine ⟨fun _ => ⟨fun e => ?_, fun x1 e1 => ?_⟩, fun h => absurd h0 h⟩
  · have := uN_eq.mp e
    rw [uN_lNs hd] at this
    exact absurd this (by show ¬ d = 0; omega)
  · have hA : X / 2 / d ≤ X / 2 := Nat.div_le_self _ _
    have e1' : x1 = lN (2 * (X / 2 / d)) := by
      rw [e1, lN_sh1 hX, pk_lDiv (by omega) hd0 (by omega), lN_dbl (by omega)]
    have hm := Nat.div_add_mod (X / 2) d
    have hl := Nat.mod_lt (X / 2) hd0
    generalize X / 2 / d = a at *
    generalize X / 2 % d = b at *
    have hmul : 2 * a * d = 2 * (d * a) := by rw [Nat.mul_assoc, Nat.mul_comm a d]
    have es : lN X - x1 * lN d = lN (X - 2 * a * d) := by
      rw [e1', lN_mul, lN_sub (by omega)]
    have hr : X - 2 * a * d < 2 * d := by omega
    have hq : X / d = if X - 2 * a * d < d then 2 * a else 2 * a + 1 := by
      by_cases hc : X - 2 * a * d < d
      · rw [if_pos hc]
        refine Nat.div_eq_of_lt_le ?_ ?_
        · omega
        · rw [Nat.add_mul]; omega
      · rw [if_neg hc]
        refine Nat.div_eq_of_lt_le ?_ ?_
        · rw [Nat.add_mul]; omega
        · rw [Nat.add_mul, Nat.add_mul]; omega
    have hlt : lN (X - 2 * a * d) < lN d ↔ X - 2 * a * d < d := pk_lLT (by omega) (by omega)
    rw [es]
    refine ⟨fun h => ?_, fun h => ?_⟩
    · rw [if_pos (hlt.mp h)] at hq
      rw [hq] at hp
      rw [e1']
      exact hp
    · rw [if_neg (fun z => h (hlt.mpr z))] at hq
      rw [hq] at hp
      rw [e1', lN_1]
      exact hp
/-- what a guess must be -/
def zgs (Q q : Nat) : Prop := Q ≤ q ∧ q ≤ Q + 1 ∧ q < 4294967296
section ZGS
variable {G : Nat → ClassId} {post : Int64 → zm_M → Prop} {M : zm_M} {pair third l1 l2 Q : Nat}
theorem q5_gs2 (q r n : Nat) (hp : ∀ q, zgs Q q → post (lN q) M) (h : zgs Q q) {a b c d : Int64} : pX5_guess_20 G post (n + 1) a b c (lN q) d 2 M := by
  rw [pX5_guess_20]
  exact ⟨fun _ => hp q h, fun z => absurd (show (2 : Int32) ≤ 2 by decide) z⟩
theorem q5_gs1 (hthird : third < 4294967296) (hl2 : l2 < 4294967296) (hl1 : l1 < 4294967296) (hQ : Q < 4294967296) (hk1 : ∀ q r, q * l1 + r = pair → r * 4294967296 + third < q * l2 → Q < q) (hp : ∀ q, zgs Q q → post (lN q) M) (q r n : Nat) (he : q * l1 + r = pair) (h1 : Q ≤ q) (h2 : q ≤ Q + 1) (hr : r < 2 * 4294967296) (hb : q < 4294967296 ∨ r < 4294967296) : pX5_guess_20 G post (n + 2) (lN third) (lN l1) (lN l2) (lN q) (lN r) 1 M := by
  have hqs : q ≤ 4294967296 := by omega
  have c1 : (4294967295 : Int64) < lN r ↔ 4294967295 < r := pk_lLT (a := 4294967295) (by decide) (by omega)
  have c2 : (4294967295 : Int64) < lN q ↔ 4294967295 < q := pk_lLT (a := 4294967295) (by decide) (by omega)
  have h68 : ∀ q', q = q' + 1 → Q ≤ q' → pX5_guess_68 G post (pX5_guess_20 G post (n + 1)) (lN third) (lN l1) (lN l2) (lN q) (lN r) 1 M := by
    intro q' hq' hQ'
    unfold pX5_guess_68
    intro x5 e5 x6 e6 x7 e7
    have e5' : x5 = lN q' := by
      rw [e5, hq']
      exact (lN_sub (a := q' + 1) (b := 1) (by omega)).trans (by rw [show q' + 1 - 1 = q' by omega])
    rw [e5', e7]
    exact q5_gs2 q' r n hp ⟨hQ', by omega, by omega⟩
  rw [pX5_guess_20]
  refine ⟨fun z => absurd z (by decide), fun _ => ⟨fun z => hp q ⟨h1, h2, ?_⟩, fun z => ⟨fun z2 => ?_, fun z2 => ⟨fun z3 x8 e8 => ?_, fun z3 => ?_⟩⟩⟩⟩
  · have := c1.mp z
    omega
  · have := c2.mp z2
    exact h68 (q - 1) (by omega) (by omega)
  · rw [e8]
    exact q5_gs2 q r n hp ⟨h1, h2, by
      rcases Nat.lt_or_ge q 4294967296 with y | y
      · exact y
      · exact absurd (c2.mpr (by omega)) z2⟩
  · have hr2 : r < 4294967296 := by
      rcases Nat.lt_or_ge r 4294967296 with y | y
      · exact y
      · exact absurd (c1.mpr (by omega)) z
    have hq2 : q < 4294967296 := by
      rcases Nat.lt_or_ge q 4294967296 with y | y
      · exact y
      · exact absurd (c2.mpr (by omega)) z2
    have hm : q * l2 ≤ 4294967295 * 4294967295 := Nat.mul_le_mul (by omega) (by omega)
    have hlt : Q < q := by
      refine hk1 q r he ?_
      rcases Nat.lt_or_ge (r * 4294967296 + third) (q * l2) with y | y
      · exact y
      · refine absurd ((uN_leA _ _).mpr ?_) z3
        rw [lN_mul, lN_pair hr2 hthird, uN_lN (by omega), uN_lN (by omega)]
        exact y
    exact h68 (q - 1) (by omega) (by omega)
theorem q5_guess (hpair : pair ≤ l1 * 4294967296 + 4294967295) (hthird : third < 4294967296) (hl2 : l2 < 4294967296) (hl0 : 2147483648 ≤ l1) (hl1 : l1 < 4294967296) (hQ : Q < 4294967296) (hQ0 : Q ≤ pair / l1) (hQ2 : pair / l1 ≤ Q + 2) (hk1 : ∀ q r, q * l1 + r = pair → r * 4294967296 + third < q * l2 → Q < q) (hk2 : ∀ q r, q * l1 + r = pair → q * l2 ≤ r * 4294967296 + third → q ≤ Q + 1) (hp : ∀ q, zgs Q q → post (lN q) M) : pX5_guess G (lN pair) (lN third) (lN l1) (lN l2) post M := by
  unfold pX5_guess
  have hpl : l1 * 4294967296 ≤ 4294967295 * 4294967296 := Nat.mul_le_mul_right _ (by omega)
  refine q5_qou (by omega) (by omega) hl1 (fun x3 e3 x4 e4 => ⟨3, ?_⟩)
  have hdm := Nat.div_add_mod pair l1
  have hml := Nat.mod_lt pair (show 0 < l1 by omega)
  rw [Nat.mul_comm] at hdm
  have e3' : x3 = lN (pair % l1) := by
    rw [e3, lN_mul, lN_sub (by omega)]
    congr 1
    omega
  rw [e3', e4]
  generalize hq0 : pair / l1 = q at *
  generalize pair % l1 = r at *
  have hqb : q ≤ 4294967297 := by
    rcases Nat.lt_or_ge 4294967297 q with y | y
    · have : 4294967298 * l1 ≤ q * l1 := Nat.mul_le_mul_right _ y
      omega
    · exact y
  have c1 : ¬ (4294967295 : Int64) < lN r := fun z => by
    have := (pk_lLT (a := 4294967295) (b := r) (by decide) (by omega)).mp z
    omega
  have c2 : (4294967295 : Int64) < lN q ↔ 4294967295 < q := pk_lLT (a := 4294967295) (by decide) (by omega)
  have h68 : ∀ q', q = q' + 1 → Q ≤ q' → (q' < 4294967296 ∨ r + l1 < 4294967296) → pX5_guess_68 G post (pX5_guess_20 G post 2) (lN third) (lN l1) (lN l2) (lN q) (lN r) 0 M := by
    intro q' hq' hQ' hb
    unfold pX5_guess_68
    intro x5 e5 x6 e6 x7 e7
    have e5' : x5 = lN q' := by
      rw [e5, hq']
      exact (lN_sub (a := q' + 1) (b := 1) (by omega)).trans (by rw [show q' + 1 - 1 = q' by omega])
    have e6' : x6 = lN (r + l1) := by rw [e6, lN_add]
    rw [e5', e6', e7]
    refine q5_gs1 hthird hl2 hl1 hQ hk1 hp q' (r + l1) 0 ?_ hQ' (by omega) (by omega) hb
    rw [hq', Nat.add_mul] at hdm
    omega
  rw [pX5_guess_20]
  refine ⟨fun z => absurd z (by decide), fun _ => ⟨fun z => absurd z c1, fun _ => ⟨fun z2 => ?_, fun z2 => ?_⟩⟩⟩
  · have h4 := c2.mp z2
    refine h68 (q - 1) (by omega) (by omega) ?_
    by_cases hq : q = 4294967296
    · exact Or.inl (by omega)
    · have hq : q = 4294967297 := by omega
      rw [hq] at hdm
      exact Or.inr (by omega)
  · have hq2 : q < 4294967296 := by
      rcases Nat.lt_or_ge q 4294967296 with y | y
      · exact y
      · exact absurd (c2.mpr (by omega)) z2
    have hm : q * l2 ≤ 4294967295 * 4294967295 := Nat.mul_le_mul (by omega) (by omega)
    have hcmp : ((lN q * lN l2) + (-9223372036854775808 : Int64)) ≤ (((lN r <<< ((32 : Int32).toInt64 &&& 63)) ||| lN third) + (-9223372036854775808 : Int64)) ↔ q * l2 ≤ r * 4294967296 + third := by
      rw [uN_leA, lN_mul, lN_pair (by omega) hthird, uN_lN (by omega), uN_lN (by omega)]
    refine ⟨fun z3 x8 e8 => ?_, fun z3 => ?_⟩
    · rw [e8]
      exact q5_gs1 hthird hl2 hl1 hQ hk1 hp q r 0 hdm hQ0 (hk2 q r hdm (hcmp.mp z3)) (by omega) (Or.inl hq2)
    · have hlt : Q < q := hk1 q r hdm (by
        rcases Nat.lt_or_ge (r * 4294967296 + third) (q * l2) with y | y
        · exact y
        · exact absurd (hcmp.mpr y) z3)
      exact h68 (q - 1) (by omega) (by omega) (Or.inl (by omega))
end ZGS
theorem zdl {m n : Nat} (hn : 0 < n) : m < (m / n + 1) * n := by
  have h1 := Nat.div_add_mod m n
  have h2 := Nat.mod_lt m hn
  rw [Nat.add_mul, Nat.one_mul, Nat.mul_comm (m / n) n]
  omega
/-- Knuth: D / K is the divisor's two highest limbs, A / (K J) the three of the number -/
theorem zkn {A D K J lead top3 Q : Nat} (hK : 0 < K) (hJ : 0 < J) (hlead : lead = D / K) (htop : top3 = A / (K * J)) (hQ1 : Q * (D * J) ≤ A) (hQ2 : A < (Q + 1) * (D * J)) : (∀ q, top3 < q * lead → Q < q) ∧ (Q + 1 ≤ lead → ∀ q, q * lead ≤ top3 → q ≤ Q + 1) ∧ Q * (lead / 4294967296) ≤ top3 / 4294967296 ∧ (∀ q, q * (lead / 4294967296) ≤ top3 / 4294967296 → Q + 1 < 2 * (lead / 4294967296) + 1 → q ≤ Q + 2) := by
  have hKJ : 0 < K * J := Nat.mul_pos hK hJ
  have hl1 : lead * K ≤ D := by rw [hlead]; exact Nat.div_mul_le_self D K
  have hl2 : D < (lead + 1) * K := by rw [hlead]; exact zdl hK
  have ht1 : top3 * (K * J) ≤ A := by rw [htop]; exact Nat.div_mul_le_self A _
  have ht2 : A < (top3 + 1) * (K * J) := by rw [htop]; exact zdl hKJ
  refine ⟨fun q hq => ?_, fun hQl q hq => ?_, ?_, fun q hq hQl => ?_⟩
  · rcases Nat.lt_or_ge Q q with y | y
    · exact y
    · have h1 : (top3 + 1) * (K * J) ≤ q * lead * (K * J) := Nat.mul_le_mul_right _ hq
      have h2 : q * lead * (K * J) = q * (lead * K * J) := by rw [Nat.mul_assoc, Nat.mul_assoc lead]
      have h3 : q * (lead * K * J) ≤ Q * (D * J) := Nat.mul_le_mul y (Nat.mul_le_mul_right _ hl1)
      omega
  · rcases Nat.lt_or_ge (Q + 1) q with y | y
    · exfalso
      have h1 : q * lead * (K * J) ≤ top3 * (K * J) := Nat.mul_le_mul_right _ hq
      have h2 : (Q + 1) * (D * J) ≤ (Q + 1) * ((lead + 1) * K * J) := Nat.mul_le_mul_left _ (Nat.mul_le_mul_right _ (Nat.le_of_lt hl2))
      have h3 : (Q + 1) * ((lead + 1) * K * J) = (Q + 1) * (lead + 1) * (K * J) := by rw [Nat.mul_assoc (lead + 1), ← Nat.mul_assoc (Q + 1)]
      have h4 : q * lead * (K * J) < (Q + 1) * (lead + 1) * (K * J) := by omega
      have h5 : q * lead < (Q + 1) * (lead + 1) := Nat.lt_of_mul_lt_mul_right h4
      have h6 : (Q + 2) * lead ≤ q * lead := Nat.mul_le_mul_right _ y
      rw [Nat.add_mul] at h6
      rw [Nat.mul_add, Nat.add_mul] at h5
      omega
    · exact y
  · refine (Nat.le_div_iff_mul_le (by decide)).mpr ?_
    rw [htop]
    refine (Nat.le_div_iff_mul_le hKJ).mpr ?_
    have h1 : lead / 4294967296 * 4294967296 ≤ lead := Nat.div_mul_le_self _ _
    have h2 : Q * (lead / 4294967296) * 4294967296 ≤ Q * lead := by rw [Nat.mul_assoc]; exact Nat.mul_le_mul_left _ h1
    have h3 : Q * (lead / 4294967296) * 4294967296 * (K * J) ≤ Q * lead * (K * J) := Nat.mul_le_mul_right _ h2
    have h4 : Q * lead * (K * J) = Q * (lead * K * J) := by rw [Nat.mul_assoc, Nat.mul_assoc lead]
    have h5 : Q * (lead * K * J) ≤ Q * (D * J) := Nat.mul_le_mul_left _ (Nat.mul_le_mul_right _ hl1)
    omega
  · rcases Nat.lt_or_ge (Q + 2) q with y | y
    · exfalso
      generalize hm : lead / 4294967296 = m at *
      have hm2 : lead + 1 ≤ (m + 1) * 4294967296 := by
        have := zdl (m := lead) (n := 4294967296) (by decide)
        rw [hm] at this
        exact this
      have h1 : q * m * 4294967296 ≤ top3 := (Nat.le_div_iff_mul_le (by decide)).mp hq
      have h2 : q * m * 4294967296 * (K * J) ≤ top3 * (K * J) := Nat.mul_le_mul_right _ h1
      have h3 : (Q + 1) * (D * J) ≤ (Q + 1) * ((m + 1) * 4294967296 * K * J) := Nat.mul_le_mul_left _ (Nat.mul_le_mul_right _ (Nat.le_trans (Nat.le_of_lt hl2) (Nat.mul_le_mul_right _ hm2)))
      have h4 : (Q + 1) * ((m + 1) * 4294967296 * K * J) = (Q + 1) * (m + 1) * 4294967296 * (K * J) := by
        rw [Nat.mul_assoc ((m + 1) * 4294967296), ← Nat.mul_assoc (Q + 1), ← Nat.mul_assoc (Q + 1)]
      have h5 : q * m * 4294967296 * (K * J) < (Q + 1) * (m + 1) * 4294967296 * (K * J) := by omega
      have h6 : q * m * 4294967296 < (Q + 1) * (m + 1) * 4294967296 := Nat.lt_of_mul_lt_mul_right h5
      have h7 : q * m < (Q + 1) * (m + 1) := Nat.lt_of_mul_lt_mul_right h6
      have h8 : (Q + 3) * m ≤ q * m := Nat.mul_le_mul_right _ y
      rw [Nat.add_mul] at h8
      rw [Nat.mul_add, Nat.add_mul] at h7
      omega
    · exact y
