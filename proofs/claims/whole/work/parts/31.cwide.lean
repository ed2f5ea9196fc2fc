/-! ===== the Wides' methods, by their numbers ===== -/
section C5
variable {G : Nat → ClassId} {B : Nat} {M0 M : zm_M} {σ : Nat → Nat} {τ : Nat → Int32} {π : Nat → Nat} {β : Nat → Nat → Int32} {post : zm_M → Prop}
theorem zC_lt (h : zC G B M0 M σ τ π β) (i : Nat) (hi : i < 67) : σ i < 4294967296 ^ zo_c i := zwv_lt (h.2.1 i hi)
theorem zo_ne {i j : Nat} (hi : i < 67) (hj : j < 67) (h : i ≠ j) : B + zo_w i ≠ B + zo_w j ∧ B + zo_w i + 1 ≠ B + zo_w j + 1 := by
  have := zo_wi hi hj h
  omega
theorem c5_clear (h : zC G B M0 M σ τ π β) (i : Nat) (hi : i < 67) (hp : ∀ M', zC G B M0 M' (ux σ i 0) τ π β → post M') : pX5_clear G (B + zo_w i) post M := by
  obtain ⟨u, f, hd, -⟩ := zC_w h i hi
  exact q5_clear hd (fun M' ho hd' => hp M' (zC_set h hi ho ⟨0, f, hd', rfl, fun z => absurd z (by decide)⟩))
theorem c5_become (h : zC G B M0 M σ τ π β) (i : Nat) (hi : i < 67) {x : Int64} {v : Nat} (hv : uN x = v) (hp : ∀ M', zC G B M0 M' (ux σ i v) τ π β → post M') : pX5_become G (B + zo_w i) x post M := by
  obtain ⟨u, f, hd, -⟩ := zC_w h i hi
  subst hv
  refine q5_become hd ?_ (fun M' ho hv => hp M' (zC_set h hi ho hv))
  unfold zo_c
  split <;> decide
theorem c5_copy (h : zC G B M0 M σ τ π β) (i j : Nat) (hi : i < 67) (hj : j < 67) (hv : σ j < 4294967296 ^ zo_c i) (hp : ∀ M', zC G B M0 M' (ux σ i (σ j)) τ π β → post M') : pX5_copy G (B + zo_w i) (B + zo_w j) post M := by
  obtain ⟨u, f, hd, -⟩ := zC_w h i hi
  exact q5_copy hd (zC_w h j hj) hv (fun M' ho hv => hp M' (zC_set h hi ho hv))
theorem c5_add (h : zC G B M0 M σ τ π β) (i j : Nat) (hi : i < 67) (hj : j < 67) (hv : σ i + σ j < 4294967296 ^ zo_c i) (hp : ∀ M', zC G B M0 M' (ux σ i (σ i + σ j)) τ π β → post M') : pX5_add G (B + zo_w i) (B + zo_w j) post M :=
  q5_add (zC_w h i hi) (zC_w h j hj) hv (fun M' ho hv => hp M' (zC_set h hi ho hv))
theorem c5_subtract (h : zC G B M0 M σ τ π β) (i j k : Nat) (hi : i < 67) (hj : j < 67) (hk : k < 67) (hle : σ k ≤ σ j) (hv : σ j < 4294967296 ^ zo_c i) (hp : ∀ M', zC G B M0 M' (ux σ i (σ j - σ k)) τ π β → post M') : pX5_subtract G (B + zo_w i) (B + zo_w j) (B + zo_w k) post M := by
  obtain ⟨u, f, hd, -⟩ := zC_w h i hi
  exact q5_subtract hd (zC_w h j hj) (zC_w h k hk) hle hv (fun M' ho hv => hp M' (zC_set h hi ho hv))
theorem c5_multiply (h : zC G B M0 M σ τ π β) (i j k : Nat) (hi : i < 67) (hj : j < 67) (hk : k < 67) (hij : j ≠ i) (hik : k ≠ i) (hi48 : 48 ≤ i) (hv : σ j * σ k < 4294967296 ^ 36) (hp : ∀ M', zC G B M0 M' (ux σ i (σ j * σ k)) τ π β → post M') : pX5_multiply G (B + zo_w i) (B + zo_w j) (B + zo_w k) post M := by
  obtain ⟨u, f, hd, -⟩ := zC_w h i hi
  have h1 := zo_ne (B := B) hj hi hij
  have h2 := zo_ne (B := B) hk hi hik
  have hc : zo_c i = 36 := by unfold zo_c; rw [if_neg (by omega)]
  have hc2 : zo_c j ≤ zo_c i := by rw [hc]; unfold zo_c; split <;> decide
  exact q5_multiply hd (zC_w h j hj) (zC_w h k hk) h1.1 h2.1 h1.2 h2.2 hc2 (by rw [hc]; exact hv) (fun M' ho hv => hp M' (zC_set h hi ho hv))
theorem c5_addProduct (h : zC G B M0 M σ τ π β) (i j k : Nat) (hi : i < 67) (hj : j < 67) (hk : k < 67) (hij : j ≠ i) (hik : k ≠ i) (hi48 : 48 ≤ i) (hv : σ i + σ j * σ k < 4294967296 ^ 36) (hp : ∀ M', zC G B M0 M' (ux σ i (σ i + σ j * σ k)) τ π β → post M') : pX5_addProduct G (B + zo_w i) (B + zo_w j) (B + zo_w k) post M := by
  obtain ⟨u, f, hd, hvv, -⟩ := zC_w h i hi
  have h1 := zo_ne (B := B) hj hi hij
  have h2 := zo_ne (B := B) hk hi hik
  have hc : zo_c i = 36 := by unfold zo_c; rw [if_neg (by omega)]
  have hc2 : zo_c j ≤ zo_c i := by rw [hc]; unfold zo_c; split <;> decide
  exact q5_addProduct hd hvv (zC_w h j hj) (zC_w h k hk) h1.1 h2.1 h1.2 h2.2 hc2 (by rw [hc]; exact hv) (fun M' ho hv => hp M' (zC_set h hi ho hv))
theorem c5_timesPlus (h : zC G B M0 M σ τ π β) (i : Nat) (hi : i < 67) {q m0 : Nat} (hq : q < 2 ^ 31) (hm : m0 < 2 ^ 31) (hs : σ i * q + m0 < 4294967296 ^ zo_c i) (hp : ∀ M', zC G B M0 M' (ux σ i (σ i * q + m0)) τ π β → post M') : pX5_timesPlus G (B + zo_w i) (nI q) (nI m0) post M :=
  q5_timesPlus (zC_w h i hi) hq hm hs (fun M' ho hv => hp M' (zC_set h hi ho hv))
theorem c5_divideBy (h : zC G B M0 M σ τ π β) (i : Nat) (hi : i < 67) {q : Nat} (hq0 : 0 < q) (hq : q < 2 ^ 31) {post : Int32 → zm_M → Prop} (hp : ∀ M', zC G B M0 M' (ux σ i (σ i / q)) τ π β → post (nI (σ i % q)) M') : pX5_divideBy G (B + zo_w i) (nI q) post M :=
  q5_divideBy (zC_w h i hi) hq0 hq (fun M' ho hv => hp M' (zC_set h hi ho hv))
theorem c5_shiftLeft (h : zC G B M0 M σ τ π β) (i : Nat) (hi : i < 67) {s : Nat} (hs31 : s < 2 ^ 31) (hs : σ i * 2 ^ s < 4294967296 ^ zo_c i) (hp : ∀ M', zC G B M0 M' (ux σ i (σ i * 2 ^ s)) τ π β → post M') : pX5_shiftLeft G (B + zo_w i) (nI s) post M := by
  rcases Nat.eq_zero_or_pos s with z | z
  · subst z
    have hx : zC G B M0 M (ux σ i (σ i * 2 ^ 0)) τ π β := by
      refine ⟨h.1, fun j hj => ?_, h.2.2⟩
      by_cases e : j = i
      · subst e
        rw [ux_s, Nat.pow_zero, Nat.mul_one]
        exact h.2.1 j hj
      · rw [ux_n e]
        exact h.2.1 j hj
    unfold pX5_shiftLeft
    exact ⟨fun y => absurd y (by decide), fun _ => hp M hx⟩
  · exact q5_shiftLeft (zC_w h i hi) z hs31 hs (fun M' ho hv => hp M' (zC_set h hi ho hv))
/-- by a number that is not above 0: nothing -/
theorem c5_shiftN {x : Int32} {w : Nat} (hx : x.toInt ≤ 0) (hp : post M) : pX5_shiftLeft G w x post M := by
  unfold pX5_shiftLeft
  refine ⟨fun y => absurd (Int32.lt_iff_toInt_lt.mp y) ?_, fun _ => hp⟩
  show ¬ (0 : Int) < x.toInt
  omega
theorem c5_divide (h : zC G B M0 M σ τ π β) (i j k : Nat) (hi : i < 67) (hj : j < 67) (hk : k < 67) (hij : i ≠ j) (hik : i ≠ k) (hjk : j ≠ k) (hk48 : 48 ≤ k) (hp : ∀ M', zC G B M0 M' (ux (ux σ i (σ i % σ j)) k (σ i / σ j)) τ π β → post M') : pX5_divide G (B + zo_w i) (B + zo_w j) (B + zo_w k) post M := by
  obtain ⟨u, f, hd, -⟩ := zC_w h k hk
  have h1 := zo_ne (B := B) hi hj hij
  have h2 := zo_ne (B := B) hi hk hik
  have h3 := zo_ne (B := B) hj hk hjk
  have hc : zo_c i ≤ zo_c k := by unfold zo_c; rw [if_neg (by omega : ¬ k < 48)]; split <;> decide
  refine q5_divide (zC_w h i hi) (zC_w h j hj) hd hc (Ne.symm h1.2) h3.2 h2.2 h2.1 h3.1 h1.1 (fun M' e0 e1 hw hz => hp M' ?_)
  have hli := zo_wl hi
  have hlk := zo_wl hk
  refine ⟨⟨e0.trans h.1.1, fun q hq => (e1 q (by omega) (by omega) (by omega) (by omega)).trans (h.1.2 q hq)⟩, fun l hl => ?_, ?_⟩
  · by_cases e : l = k
    · subst e
      rw [ux_s]
      exact hz
    · rw [ux_n e]
      by_cases e' : l = i
      · subst e'
        rw [ux_s]
        exact hw
      · rw [ux_n e']
        have n1 := zo_wi hl hk e
        have n2 := zo_wi hl hi e'
        exact zwv_kept (h.2.1 l hl) (e1 _ (by omega) (by omega) (by omega) (by omega)) (e1 _ (by omega) (by omega) (by omega) (by omega))
  · refine zCo_kept h.2.2 (fun a ha => ?_) (fun q hq => ?_)
    · have n1 := zo_rw ha hi
      have n2 := zo_rw ha hk
      exact e1 _ (by omega) (by omega) (by omega) (by omega)
    · have n1 := zo_wo hi q hq
      have n2 := zo_wo hk q hq
      exact e1 _ (by omega) (by omega) (by omega) (by omega)
theorem c5_isZero (h : zC G B M0 M σ τ π β) (i : Nat) (hi : i < 67) {post : Int32 → zm_M → Prop} (hp : post (if σ i = 0 then 1 else 0) M) : pX5_isZero G (B + zo_w i) post M := q5_isZero (zC_w h i hi) hp
theorem c5_isOne (h : zC G B M0 M σ τ π β) (i : Nat) (hi : i < 67) {post : Int32 → zm_M → Prop} (hp : post (if σ i = 1 then 1 else 0) M) : pX5_isOne G (B + zo_w i) post M := q5_isOne (zC_w h i hi) hp
theorem c5_isOdd (h : zC G B M0 M σ τ π β) (i : Nat) (hi : i < 67) {post : Int32 → zm_M → Prop} (hp : post (if σ i % 2 = 1 then 1 else 0) M) : pX5_isOdd G (B + zo_w i) post M := q5_isOdd (zC_w h i hi) hp
theorem c5_bits (h : zC G B M0 M σ τ π β) (i : Nat) (hi : i < 67) {post : Int32 → zm_M → Prop} (hp : post (nI (zbl (σ i))) M) : pX5_bits G (B + zo_w i) post M := q5_bits (zC_w h i hi) hp
theorem c5_low (h : zC G B M0 M σ τ π β) (i : Nat) (hi : i < 67) {post : Int64 → zm_M → Prop} (hp : post (lN (σ i % 18446744073709551616)) M) : pX5_low G (B + zo_w i) post M := q5_low (zC_w h i hi) hp
theorem c5_order (h : zC G B M0 M σ τ π β) (i j : Nat) (hi : i < 67) (hj : j < 67) {post : Int32 → zm_M → Prop} (hp : post (if σ i < σ j then -1 else if σ i = σ j then 0 else 1) M) : pX5_order G (B + zo_w i) (B + zo_w j) post M := q5_order (zC_w h i hi) (zC_w h j hj) hp
theorem zC_bl (h : zC G B M0 M σ τ π β) (i : Nat) (hi : i < 67) : zbl (σ i) ≤ 1152 := by
  have h1 := zC_lt h i hi
  have h2 : zo_c i ≤ 36 := by unfold zo_c; split <;> decide
  refine zbl_le.mpr (Nat.lt_of_lt_of_le h1 ?_)
  rw [show (4294967296 : Nat) = 2 ^ 32 by decide, ← Nat.pow_mul]
  exact Nat.pow_le_pow_right (by decide) (by omega)
theorem c5_isAbove (h : zC G B M0 M σ τ π β) (i : Nat) (hi : i < 67) {x : Int64} (hx : uN x < 9223372036854775808) {post : Int32 → zm_M → Prop} (hp : post (if uN x < σ i then 1 else 0) M) : pX5_isAbove G (B + zo_w i) x post M := by
  have := zC_bl h i hi
  exact q5_isAbove (zC_w h i hi) hx (by omega) hp
end C5
