/-! ===== THE REFERENCE: all registers at once; divisor ===== -/
def rgu (ρ : Nat → Nat) (r v : Nat) : Nat → Nat := fun q => if q = r then v else ρ q
theorem rgu_s {ρ : Nat → Nat} {r v : Nat} : rgu ρ r v r = v := if_pos rfl
theorem rgu_n {ρ : Nat → Nat} {r v q : Nat} (h : q ≠ r) : rgu ρ r v q = ρ q := if_neg h
def zP (G : Nat → ClassId) (Bm : Nat) (M0 M : zm_M) (ι : Nat → Int32) (α : Nat → Nat → Int32) (K : Nat → Int64) (ρ : Nat → Nat) : Prop := ∃ g n, zN G Bm M0 M ι α K g n ∧ ∀ r, r < 24 → zrg g n r (ρ r)
theorem zrg_lt {g : Nat → Int64} {n : Nat → Int32} {r v : Nat} (h : zrg g n r v) : v < 4294967296 ^ 72 := by
  obtain ⟨u, h1, h2, h3, h4, h5⟩ := h
  rw [h4]
  exact Nat.lt_of_lt_of_le (zs_lt h3) (Nat.pow_le_pow_right (by decide) h2)
theorem zgh {x y γ : Nat} (h : Nat.gcd x y = γ) (hx : x % 2 = 0) (ho : γ % 2 = 1) : Nat.gcd (x / 2) y = γ := by
  have hx2 : x = 2 * (x / 2) := by omega
  apply Nat.dvd_antisymm
  · rw [← h]
    apply Nat.dvd_gcd
    · exact Nat.dvd_trans (Nat.gcd_dvd_left _ _) ⟨2, by omega⟩
    · exact Nat.gcd_dvd_right _ _
  · apply Nat.dvd_gcd
    · have h1 : γ ∣ 2 * (x / 2) := by rw [← hx2, ← h]; exact Nat.gcd_dvd_left _ _
      have hc : Nat.gcd γ 2 = 1 := by
        rw [Nat.gcd_comm, Nat.gcd_rec, ho]
        exact Nat.gcd_one_left _
      exact Nat.Coprime.dvd_of_dvd_mul_left hc h1
    · rw [← h]; exact Nat.gcd_dvd_right _ _
theorem zgh2 {x y : Nat} (hx : x % 2 = 0) (hy : y % 2 = 0) : Nat.gcd x y = 2 * Nat.gcd (x / 2) (y / 2) := by
  have hx2 : x = 2 * (x / 2) := by omega
  have hy2 : y = 2 * (y / 2) := by omega
  have h : Nat.gcd (2 * (x / 2)) (2 * (y / 2)) = 2 * Nat.gcd (x / 2) (y / 2) := Nat.gcd_mul_left _ _ _
  rw [← hx2, ← hy2] at h
  exact h
theorem zgodd {x y : Nat} (h : x % 2 = 1 ∨ y % 2 = 1) : Nat.gcd x y % 2 = 1 := by
  rcases Nat.mod_two_eq_zero_or_one (Nat.gcd x y) with c | c
  · exfalso
    have h2 : 2 ∣ Nat.gcd x y := Nat.dvd_of_mod_eq_zero c
    have h3 := Nat.mod_eq_zero_of_dvd (Nat.dvd_trans h2 (Nat.gcd_dvd_left x y))
    have h4 := Nat.mod_eq_zero_of_dvd (Nat.dvd_trans h2 (Nat.gcd_dvd_right x y))
    omega
  · exact c
theorem zgsub {x y : Nat} (h : x ≤ y) : Nat.gcd x (y - x) = Nat.gcd x y := by
  apply Nat.dvd_antisymm
  · apply Nat.dvd_gcd (Nat.gcd_dvd_left _ _)
    have h1 := Nat.dvd_add (Nat.gcd_dvd_right x (y - x)) (Nat.gcd_dvd_left x (y - x))
    rw [show y - x + x = y by omega] at h1
    exact h1
  · exact Nat.dvd_gcd (Nat.gcd_dvd_left _ _) (Nat.dvd_sub (Nat.gcd_dvd_right x y) (Nat.gcd_dvd_left x y))
section R76
variable {G : Nat → ClassId} {Bm : Nat} {M0 M : zm_M} {ι : Nat → Int32} {α : Nat → Nat → Int32} {K : Nat → Int64} {ρ : Nat → Nat}
theorem zP_o (h : zP G Bm M0 M ι α K ρ) : zw_ob M Bm 10 := by
  obtain ⟨g, n, h, _⟩ := h
  exact zN_o h
theorem zP_lt (h : zP G Bm M0 M ι α K ρ) {r : Nat} (hr : r < 24) : ρ r < 4294967296 ^ 72 := by
  obtain ⟨g, n, _, h⟩ := h
  exact zrg_lt (h r hr)
theorem zP_c (h : zP G Bm M0 M ι α K ρ) {ρ' : Nat → Nat} (e : ∀ r, r < 24 → ρ' r = ρ r) : zP G Bm M0 M ι α K ρ' := by
  obtain ⟨g, n, h, hr⟩ := h
  exact ⟨g, n, h, fun r h1 => by rw [e r h1]; exact hr r h1⟩
theorem zP_m {M' : zm_M} {g g' : Nat → Int64} {n n' : Nat → Int32} {r v : Nat} (hr : ∀ r, r < 24 → zrg g n r (ρ r)) (k : zN G Bm M0 M' ι α K g' n') (f : zfm r g g' n n') (hv : zrg g' n' r v) : zP G Bm M0 M' ι α K (rgu ρ r v) := by
  refine ⟨g', n', k, fun q hq => ?_⟩
  by_cases c : q = r
  · rw [c, rgu_s]; exact hv
  · rw [rgu_n c]; exact zrg_k f c (hr q hq)
theorem r7_n (h : zP G Bm M0 M ι α K ρ) (r : Nat) {P : Int32 → Prop} (hp : ∀ u, u ≤ 72 → (u = 0 ↔ ρ r = 0) → P (nI u)) (hr : r < 24 := by decide) : zw_ga M Bm 10 10 (fun a => zw_li (G 0) M a (nI r) P) := by
  obtain ⟨g, n, k, hv⟩ := h
  obtain ⟨u, h1, h2, h3, h4, h5⟩ := hv r hr
  refine nA k (nR k hr ?_)
  rw [h1]
  refine hp u h2 ⟨fun e => ?_, fun e => ?_⟩
  · rw [h4, e]; rfl
  · rcases Nat.eq_zero_or_pos u with c | c
    · exact c
    · have := zs_top c (h5 c)
      rw [← h4, e] at this
      have h9 : 0 < 4294967296 ^ (u - 1) := Nat.pow_pos (by decide)
      omega
theorem r7_np (h : zP G Bm M0 M ι α K ρ) (r : Nat) {A B : Prop} (h0 : ρ r = 0 → A) (h1 : ρ r ≠ 0 → B) (hr : r < 24 := by decide) : zw_ga M Bm 10 10 (fun a => zw_li (G 0) M a (nI r) (fun e => (e ≤ 0 → A) ∧ (¬ e ≤ 0 → B))) := by
  refine r7_n h r (fun u hu e => ⟨fun y => h0 (e.mp ?_), fun y => h1 (fun c => y ?_)⟩) hr
  · have := (nI_leI (b := 0) (by omega) (by decide)).mp y
    omega
  · exact (nI_leI (b := 0) (by omega) (by decide)).mpr (by have := e.mpr c; omega)
theorem r7_nz (h : zP G Bm M0 M ι α K ρ) (r : Nat) {A B : Prop} (h0 : ρ r = 0 → A) (h1 : ρ r ≠ 0 → B) (hr : r < 24 := by decide) : zw_ga M Bm 10 10 (fun a => zw_li (G 0) M a (nI r) (fun e => (e = 0 → A) ∧ (¬ e = 0 → B))) := by
  refine r7_n h r (fun u hu e => ⟨fun y => h0 (e.mp ?_), fun y => h1 (fun c => y ?_)⟩) hr
  · exact (nI_eq (b := 0) (by omega) (by decide)).mp y
  · exact (nI_eq (b := 0) (by omega) (by decide)).mpr (e.mpr c)
theorem r7_nz' (h : zP G Bm M0 M ι α K ρ) (r : Nat) {A B : Prop} (h0 : ρ r = 0 → A) (h1 : ρ r ≠ 0 → B) (hr : r < 24 := by decide) : zw_ga M Bm 10 10 (fun a => zw_li (G 0) M a (nI r) (fun e => (¬ e = 0 → B) ∧ (e = 0 → A))) := by
  refine r7_n h r (fun u hu e => ⟨fun y => h1 (fun c => y ?_), fun y => h0 (e.mp ?_)⟩) hr
  · exact (nI_eq (b := 0) (by omega) (by decide)).mpr (e.mpr c)
  · exact (nI_eq (b := 0) (by omega) (by decide)).mp y
theorem r7_small {post : zm_M → Prop} (h : zP G Bm M0 M ι α K ρ) (r : Nat) {x : Int64} (hp : ∀ M', zP G Bm M0 M' ι α K (rgu ρ r (uN x)) → post M') (hr : r < 24 := by decide) : pX7_small G Bm (nI r) x post M := by
  obtain ⟨g, n, k, hv⟩ := h
  exact q7_small k hr (fun M1 g1 n1 k1 f1 v1 => hp M1 (zP_m hv k1 f1 v1))
theorem r7_copy {post : zm_M → Prop} (h : zP G Bm M0 M ι α K ρ) (to fr : Nat) (hp : ∀ M', zP G Bm M0 M' ι α K (rgu ρ to (ρ fr)) → post M') (hto : to < 24 := by decide) (hfr : fr < 24 := by decide) : pX7_copy G Bm (nI to) (nI fr) post M := by
  obtain ⟨g, n, k, hv⟩ := h
  exact q7_copy k hto hfr (hv fr hfr) (fun M1 g1 n1 k1 f1 v1 => hp M1 (zP_m hv k1 f1 v1))
theorem r7_compared {post : Int32 → zm_M → Prop} (h : zP G Bm M0 M ι α K ρ) (a b : Nat) (hp : post (if ρ a < ρ b then -1 else if ρ a = ρ b then 0 else 1) M) (ha : a < 24 := by decide) (hb : b < 24 := by decide) : pX7_compared G Bm (nI a) (nI b) post M := by
  obtain ⟨g, n, k, hv⟩ := h
  exact q7_compared k ha hb (hv a ha) (hv b hb) hp
theorem r7_isOdd {post : Int32 → zm_M → Prop} (h : zP G Bm M0 M ι α K ρ) (r : Nat) (hp : post (if ρ r % 2 = 1 then 1 else 0) M) (hr : r < 24 := by decide) : pX7_isOdd G Bm (nI r) post M := by
  obtain ⟨g, n, k, hv⟩ := h
  exact q7_isOdd k hr (hv r hr) hp
theorem r7_bits {post : Int32 → zm_M → Prop} (h : zP G Bm M0 M ι α K ρ) (r : Nat) (hp : post (nI (zbl (ρ r))) M) (hr : r < 24 := by decide) : pX7_bits G Bm (nI r) post M := by
  obtain ⟨g, n, k, hv⟩ := h
  exact q7_bits k hr (hv r hr) hp
theorem r7_add {post : zm_M → Prop} (h : zP G Bm M0 M ι α K ρ) (to a : Nat) (h1 : ρ to < 4294967296 ^ 71) (h2 : ρ a < 4294967296 ^ 71) (hp : ∀ M', zP G Bm M0 M' ι α K (rgu ρ to (ρ to + ρ a)) → post M') (hto : to < 24 := by decide) (ha : a < 24 := by decide) (hta : to ≠ a := by decide) : pX7_add G Bm (nI to) (nI a) post M := by
  obtain ⟨g, n, k, hv⟩ := h
  exact q7_add k hto ha hta (hv to hto) (hv a ha) h1 h2 (fun M1 g1 n1 k1 f1 v1 => hp M1 (zP_m hv k1 f1 v1))
theorem r7_less {post : zm_M → Prop} (h : zP G Bm M0 M ι α K ρ) (fr a : Nat) (hle : ρ a ≤ ρ fr) (hp : ∀ M', zP G Bm M0 M' ι α K (rgu ρ fr (ρ fr - ρ a)) → post M') (hfr : fr < 24 := by decide) (ha : a < 24 := by decide) (hta : fr ≠ a := by decide) : pX7_less G Bm (nI fr) (nI a) post M := by
  obtain ⟨g, n, k, hv⟩ := h
  exact q7_less k hfr ha hta (hv fr hfr) (hv a ha) hle (fun M1 g1 n1 k1 f1 v1 => hp M1 (zP_m hv k1 f1 v1))
theorem r7_times {post : zm_M → Prop} (h : zP G Bm M0 M ι α K ρ) (to a b : Nat) (h1 : ρ a < 4294967296 ^ 36) (h2 : ρ b < 4294967296 ^ 36) (hp : ∀ M', zP G Bm M0 M' ι α K (rgu ρ to (ρ a * ρ b)) → post M') (hto : to < 24 := by decide) (ha : a < 24 := by decide) (hb : b < 24 := by decide) (hta : to ≠ a := by decide) (htb : to ≠ b := by decide) : pX7_times G Bm (nI to) (nI a) (nI b) post M := by
  obtain ⟨g, n, k, hv⟩ := h
  exact q7_times k hto ha hb hta htb (hv a ha) (hv b hb) h1 h2 (fun M1 g1 n1 k1 f1 v1 => hp M1 (zP_m hv k1 f1 v1))
theorem r7_twice {post : zm_M → Prop} (h : zP G Bm M0 M ι α K ρ) (r m : Nat) (hm : m < 2) (h1 : ρ r < 4294967296 ^ 71) (hp : ∀ M', zP G Bm M0 M' ι α K (rgu ρ r (ρ r * 2 + m)) → post M') (hr : r < 24 := by decide) : pX7_twice G Bm (nI r) (lN m) post M := by
  obtain ⟨g, n, k, hv⟩ := h
  exact q7_twice k hr (hv r hr) hm h1 (fun M1 g1 n1 k1 f1 v1 => hp M1 (zP_m hv k1 f1 v1))
theorem r7_timesSmall {post : zm_M → Prop} (h : zP G Bm M0 M ι α K ρ) (r q m : Nat) (hq : q < 2 ^ 31) (hm : m < 2 ^ 31) (h1 : ρ r < 4294967296 ^ 71) (hp : ∀ M', zP G Bm M0 M' ι α K (rgu ρ r (ρ r * q + m)) → post M') (hr : r < 24 := by decide) : pX7_timesSmall G Bm (nI r) (lN q) (lN m) post M := by
  obtain ⟨g, n, k, hv⟩ := h
  exact q7_timesSmall k hr (hv r hr) hq hm h1 (fun M1 g1 n1 k1 f1 v1 => hp M1 (zP_m hv k1 f1 v1))
theorem r7_bySmall {post : Int64 → zm_M → Prop} (h : zP G Bm M0 M ι α K ρ) (r q : Nat) (hq0 : 0 < q) (hq : q < 2 ^ 31) (hp : ∀ M', zP G Bm M0 M' ι α K (rgu ρ r (ρ r / q)) → post (lN (ρ r % q)) M') (hr : r < 24 := by decide) : pX7_bySmall G Bm (nI r) (lN q) post M := by
  obtain ⟨g, n, k, hv⟩ := h
  exact q7_bySmall k hr (hv r hr) hq0 hq (fun M1 g1 n1 k1 f1 v1 => hp M1 (zP_m hv k1 f1 v1))
theorem r7_half {post : zm_M → Prop} (h : zP G Bm M0 M ι α K ρ) (r : Nat) (hp : ∀ M', zP G Bm M0 M' ι α K (rgu ρ r (ρ r / 2)) → post M') (hr : r < 24 := by decide) : pX7_half G Bm (nI r) post M := by
  obtain ⟨g, n, k, hv⟩ := h
  exact q7_half k hr (hv r hr) (fun M1 g1 n1 k1 f1 v1 => hp M1 (zP_m hv k1 f1 v1))
theorem r7_up {post : zm_M → Prop} (h : zP G Bm M0 M ι α K ρ) (r b : Nat) (h0 : 0 < ρ r) (hb : b < 2 ^ 31) (h1 : ρ r * 2 ^ b < 4294967296 ^ 71) (hp : ∀ M', zP G Bm M0 M' ι α K (rgu ρ r (ρ r * 2 ^ b)) → post M') (hr : r < 24 := by decide) : pX7_up G Bm (nI r) (nI b) post M := by
  obtain ⟨g, n, k, hv⟩ := h
  exact q7_up k hr (hv r hr) h0 hb h1 (fun M1 g1 n1 k1 f1 v1 => hp M1 (zP_m hv k1 f1 v1))
theorem r7_divide {post : zm_M → Prop} (h : zP G Bm M0 M ι α K ρ) (q rs a b : Nat) (h0 : 0 < ρ b) (hb71 : ρ b < 4294967296 ^ 71) (hp : ∀ M', zP G Bm M0 M' ι α K (rgu (rgu ρ q (ρ a / ρ b)) rs (ρ a % ρ b)) → post M') (hq : q < 24 := by decide) (hrs : rs < 24 := by decide) (ha : a < 24 := by decide) (hb : b < 24 := by decide) (h1 : q ≠ rs := by decide) (h2 : q ≠ a := by decide) (h3 : q ≠ b := by decide) (h4 : rs ≠ a := by decide) (h5 : rs ≠ b := by decide) : pX7_divide G Bm (nI q) (nI rs) (nI a) (nI b) post M := by
  obtain ⟨g, n, k, hv⟩ := h
  refine q7_divide k hq hrs ha hb h1 h2 h3 h4 h5 (hv a ha) (hv b hb) h0 hb71 (fun M1 g1 n1 k1 f1 v1 v2 => hp M1 ⟨g1, n1, k1, fun p hp2 => ?_⟩)
  by_cases c : p = rs
  · rw [c, rgu_s]; exact v2
  · rw [rgu_n c]
    by_cases c2 : p = q
    · rw [c2, rgu_s]; exact v1
    · rw [rgu_n c2]; exact zrg_k2 f1 c2 c (hv p hp2)
/-! divisor: the smaller odd one taken away, time and again -/
theorem rgu_self {ρ : Nat → Nat} {r v q : Nat} (h : ρ r = v) : rgu ρ r v q = ρ q := by
  by_cases c : q = r
  · rw [c, rgu_s, h]
  · rw [rgu_n c]
theorem r7_gdA {post : zm_M → Prop} {k97 : Nat → Int32 → Int32 → Int32 → zm_M → Prop} {a b γ : Nat} {t : Int32} (ha : a < 24) (hab : a ≠ b) (hγ : γ % 2 = 1) (hk : ∀ (M' : zm_M) (ρ' : Nat → Nat), zP G Bm M0 M' ι α K ρ' → (∀ q, q ≠ a → ρ' q = ρ q) → ρ' a % 2 = 1 → ρ' a ≤ ρ a → Nat.gcd (ρ' a) (ρ b) = γ → k97 Bm (nI a) (nI b) t M') : ∀ (N : Nat) (M : zm_M) (ρ1 : Nat → Nat), ρ1 a ≤ N → 0 < ρ1 a → zP G Bm M0 M ι α K ρ1 → (∀ q, q ≠ a → ρ1 q = ρ q) → ρ1 a ≤ ρ a → Nat.gcd (ρ1 a) (ρ b) = γ → pX7_divisor_81 G post k97 (N + 1) Bm (nI a) (nI b) t M
  | 0, M, ρ1, h1, h2, _, _, _, _ => by omega
  | N + 1, M, ρ1, h1, h2, h, hf, hl, hg => by
    rw [pX7_divisor_81]
    refine ⟨zP_o h, r7_isOdd h a ?_ ha⟩
    by_cases c : ρ1 a % 2 = 1
    · rw [if_pos c]
      exact ⟨fun _ => hk M ρ1 h hf c hl hg, fun y => absurd y (by decide)⟩
    · rw [if_neg c]
      refine ⟨fun y => absurd rfl y, fun _ => ⟨zP_o h, r7_half h a (fun M2 k2 => ?_) ha⟩⟩
      refine r7_gdA ha hab hγ hk N M2 _ (by rw [rgu_s]; omega) (by rw [rgu_s]; omega) k2 (fun q hq => by rw [rgu_n hq]; exact hf q hq) (by rw [rgu_s]; omega) (by rw [rgu_s]; exact zgh hg (by omega) hγ)
theorem r7_gdB {post : zm_M → Prop} {k113 : Nat → Int32 → Int32 → Int32 → zm_M → Prop} {a b γ : Nat} {t : Int32} (hb : b < 24) (hab : a ≠ b) (hγ : γ % 2 = 1) (hk : ∀ (M' : zm_M) (ρ' : Nat → Nat), zP G Bm M0 M' ι α K ρ' → (∀ q, q ≠ b → ρ' q = ρ q) → ρ' b % 2 = 1 → ρ' b ≤ ρ b → Nat.gcd (ρ' b) (ρ a) = γ → k113 Bm (nI a) (nI b) t M') : ∀ (N : Nat) (M : zm_M) (ρ1 : Nat → Nat), ρ1 b ≤ N → 0 < ρ1 b → zP G Bm M0 M ι α K ρ1 → (∀ q, q ≠ b → ρ1 q = ρ q) → ρ1 b ≤ ρ b → Nat.gcd (ρ1 b) (ρ a) = γ → pX7_divisor_97 G post k113 (N + 1) Bm (nI a) (nI b) t M
  | 0, M, ρ1, h1, h2, _, _, _, _ => by omega
  | N + 1, M, ρ1, h1, h2, h, hf, hl, hg => by
    rw [pX7_divisor_97]
    refine ⟨zP_o h, r7_isOdd h b ?_ hb⟩
    by_cases c : ρ1 b % 2 = 1
    · rw [if_pos c]
      exact ⟨fun _ => hk M ρ1 h hf c hl hg, fun y => absurd y (by decide)⟩
    · rw [if_neg c]
      refine ⟨fun y => absurd rfl y, fun _ => ⟨zP_o h, r7_half h b (fun M2 k2 => ?_) hb⟩⟩
      refine r7_gdB hb hab hγ hk N M2 _ (by rw [rgu_s]; omega) (by rw [rgu_s]; omega) k2 (fun q hq => by rw [rgu_n hq]; exact hf q hq) (by rw [rgu_s]; omega) (by rw [rgu_s]; exact zgh hg (by omega) hγ)
theorem r7_gdC {post : zm_M → Prop} {k151 : Nat → Int32 → Int32 → zm_M → Prop} {a b γ : Nat} {t : Int32} (ha : a < 24) (hb : b < 24) (hab : a ≠ b) (ha20 : a ≠ 20) (hb20 : b ≠ 20) (hγ : γ % 2 = 1) (hk : ∀ (M' : zm_M) (ρ' : Nat → Nat), zP G Bm M0 M' ι α K ρ' → (∀ q, q ≠ a → q ≠ b → q ≠ 20 → ρ' q = ρ q) → ρ' a = γ → k151 Bm (nI a) t M') : ∀ (N : Nat) (M : zm_M) (ρ1 : Nat → Nat), ρ1 a + ρ1 b ≤ N → 0 < ρ1 a → zP G Bm M0 M ι α K ρ1 → (∀ q, q ≠ a → q ≠ b → q ≠ 20 → ρ1 q = ρ q) → Nat.gcd (ρ1 a) (ρ1 b) = γ → pX7_divisor_72 G post k151 (N + 1) Bm (nI a) (nI b) t M
  | 0, M, ρ1, h1, h2, _, _, _ => by omega
  | N + 1, M, ρ1, h1, h2, h, hf, hg => by
    rw [pX7_divisor_72]
    refine r7_np h b (fun e => ?_) (fun e => ?_) hb
    · refine hk M ρ1 h hf ?_
      rw [e, Nat.gcd_zero_right] at hg
      exact hg
    · refine ⟨ρ1 a + 1, r7_gdA (ρ := ρ1) ha hab hγ (fun M2 ρ2 k2 f2 o2 l2 g2 => ⟨ρ2 b + 1, ?_⟩) (ρ1 a) M ρ1 (Nat.le_refl _) h2 h (fun _ _ => rfl) (Nat.le_refl _) hg⟩
      have e2 := f2 b (Ne.symm hab)
      refine r7_gdB (ρ := ρ2) (a := a) hb hab hγ (fun M3 ρ3 k3 f3 o3 l3 g3 => ⟨zP_o k3, r7_compared k3 a b ?_ ha hb⟩) (ρ2 b) M2 ρ2 (Nat.le_refl _) (by omega) k2 (fun _ _ => rfl) (Nat.le_refl _) (by rw [Nat.gcd_comm, e2]; exact g2)
      have e3 := f3 a hab
      have fr3 : ∀ q, q ≠ a → q ≠ b → q ≠ 20 → ρ3 q = ρ q := fun q h1 h2 h3 => (f3 q h2).trans ((f2 q h1).trans (hf q h1 h2 h3))
      by_cases c : ρ3 a ≤ ρ3 b
      · have e : (if ρ3 a < ρ3 b then (-1 : Int32) else if ρ3 a = ρ3 b then 0 else 1) ≤ 0 := by
          by_cases c1 : ρ3 a < ρ3 b
          · rw [if_pos c1]; decide
          · rw [if_neg c1, if_pos (by omega)]; decide
        refine ⟨fun _ => ?_, fun y => absurd e y⟩
        unfold pX7_divisor_142
        refine ⟨zP_o k3, r7_less k3 b a c (fun M4 k4 => ?_) hb ha (Ne.symm hab)⟩
        refine r7_gdC ha hb hab ha20 hb20 hγ hk N M4 _ ?_ ?_ k4 (fun q h1 h2 h3 => by rw [rgu_n h2]; exact fr3 q h1 h2 h3) ?_
        · rw [rgu_s, rgu_n hab]; omega
        · rw [rgu_n hab]; omega
        · rw [rgu_s, rgu_n hab, zgsub c, Nat.gcd_comm, e3]
          exact g3
      · have e : ¬ (if ρ3 a < ρ3 b then (-1 : Int32) else if ρ3 a = ρ3 b then 0 else 1) ≤ 0 := by
          rw [if_neg (by omega), if_neg (by omega)]; decide
        refine ⟨fun y => absurd y e, fun _ => ⟨zP_o k3, r7_copy k3 20 a (fun M4 k4 => ⟨zP_o k4, r7_copy k4 a b (fun M5 k5 => ⟨zP_o k5, r7_copy k5 b 20 (fun M6 k6 => ?_) hb (by decide)⟩) ha hb⟩) (by decide) ha⟩⟩
        unfold pX7_divisor_142
        have va : rgu (rgu (rgu ρ3 20 (ρ3 a)) a (rgu ρ3 20 (ρ3 a) b)) b (rgu (rgu ρ3 20 (ρ3 a)) a (rgu ρ3 20 (ρ3 a) b) 20) a = ρ3 b := by
          rw [rgu_n hab, rgu_s, rgu_n hb20]
        have vb : rgu (rgu (rgu ρ3 20 (ρ3 a)) a (rgu ρ3 20 (ρ3 a) b)) b (rgu (rgu ρ3 20 (ρ3 a)) a (rgu ρ3 20 (ρ3 a) b) 20) b = ρ3 a := by
          rw [rgu_s, rgu_n (Ne.symm ha20), rgu_s]
        have vo : ∀ q, q ≠ a → q ≠ b → q ≠ 20 → rgu (rgu (rgu ρ3 20 (ρ3 a)) a (rgu ρ3 20 (ρ3 a) b)) b (rgu (rgu ρ3 20 (ρ3 a)) a (rgu ρ3 20 (ρ3 a) b) 20) q = ρ3 q := fun q h1 h2 h3 => by
          rw [rgu_n h2, rgu_n h1, rgu_n h3]
        generalize rgu (rgu (rgu ρ3 20 (ρ3 a)) a (rgu ρ3 20 (ρ3 a) b)) b (rgu (rgu ρ3 20 (ρ3 a)) a (rgu ρ3 20 (ρ3 a) b) 20) = ρ6 at *
        refine ⟨zP_o k6, r7_less k6 b a (by omega) (fun M7 k7 => ?_) hb ha (Ne.symm hab)⟩
        refine r7_gdC ha hb hab ha20 hb20 hγ hk N M7 _ ?_ ?_ k7 (fun q h1 h2 h3 => by rw [rgu_n h2, vo q h1 h2 h3]; exact fr3 q h1 h2 h3) ?_
        · rw [rgu_s, rgu_n hab]; omega
        · rw [rgu_n hab]; omega
        · rw [rgu_s, rgu_n hab, zgsub (by omega), va, vb, e3]
          exact g3
theorem r7_gdD {post : zm_M → Prop} {k72 : Nat → Int32 → Int32 → Int32 → zm_M → Prop} {a b γ : Nat} (ha : a < 24) (hb : b < 24) (hab : a ≠ b) (hk : ∀ (M' : zm_M) (ρ' : Nat → Nat) (t : Nat), zP G Bm M0 M' ι α K ρ' → (∀ q, q ≠ a → q ≠ b → ρ' q = ρ q) → 0 < ρ' a → t < 2304 → γ = Nat.gcd (ρ' a) (ρ' b) * 2 ^ t → (ρ' a % 2 = 1 ∨ ρ' b % 2 = 1) → k72 Bm (nI a) (nI b) (nI t) M') : ∀ (N : Nat) (M : zm_M) (ρ1 : Nat → Nat) (t : Nat), ρ1 a ≤ N → 0 < ρ1 a → ρ1 a * 2 ^ t < 4294967296 ^ 72 → zP G Bm M0 M ι α K ρ1 → (∀ q, q ≠ a → q ≠ b → ρ1 q = ρ q) → γ = Nat.gcd (ρ1 a) (ρ1 b) * 2 ^ t → pX7_divisor_40 G post k72 (N + 1) Bm (nI a) (nI b) (nI t) M
  | 0, M, ρ1, t, h1, h2, _, _, _, _ => by omega
  | N + 1, M, ρ1, t, h1, h2, hl, h, hf, hg => by
    have ht : t < 2304 := by
      rcases Nat.lt_or_ge t 2304 with c | c
      · exact c
      · exfalso
        have h3 : 2 ^ 2304 ≤ 2 ^ t := Nat.pow_le_pow_right (by decide) c
        have h4 := Nat.le_mul_of_pos_left (2 ^ t) h2
        rw [zB2] at hl
        have h5 : (32 * 72 : Nat) = 2304 := rfl
        rw [h5] at hl
        generalize (2 : Nat) ^ 2304 = Z at *
        omega
    rw [pX7_divisor_40]
    refine ⟨zP_o h, r7_isOdd h a ?_ ha⟩
    by_cases c : ρ1 a % 2 = 1
    · rw [if_pos c]
      exact ⟨fun _ => hk M ρ1 t h hf h2 ht hg (Or.inl c), fun y => absurd y (by decide)⟩
    · rw [if_neg c]
      refine ⟨fun y => absurd rfl y, fun _ => ⟨zP_o h, r7_isOdd h b ?_ hb⟩⟩
      by_cases c2 : ρ1 b % 2 = 1
      · rw [if_pos c2]
        exact ⟨fun _ => hk M ρ1 t h hf h2 ht hg (Or.inr c2), fun y => absurd y (by decide)⟩
      · rw [if_neg c2]
        refine ⟨fun y => absurd rfl y, fun _ => ⟨zP_o h, r7_half h a (fun M2 k2 => ⟨zP_o k2, r7_half k2 b (fun M3 k3 x e => ?_) hb⟩) ha⟩⟩
        rw [e, nI_1]
        have e1 : rgu (rgu ρ1 a (ρ1 a / 2)) b (rgu ρ1 a (ρ1 a / 2) b / 2) a = ρ1 a / 2 := by rw [rgu_n hab, rgu_s]
        have e2 : rgu (rgu ρ1 a (ρ1 a / 2)) b (rgu ρ1 a (ρ1 a / 2) b / 2) b = ρ1 b / 2 := by rw [rgu_s, rgu_n (Ne.symm hab)]
        refine r7_gdD ha hb hab hk N M3 _ (t + 1) (by rw [e1]; omega) (by rw [e1]; omega) ?_ k3 (fun q h1 h2 => by rw [rgu_n h2, rgu_n h1]; exact hf q h1 h2) ?_
        · rw [e1, Nat.pow_succ, Nat.mul_comm (2 ^ t) 2, ← Nat.mul_assoc, show ρ1 a / 2 * 2 = ρ1 a by omega]
          exact hl
        · rw [e1, e2, hg, zgh2 (by omega) (by omega), Nat.pow_succ, Nat.mul_comm (2 ^ t) 2, ← Nat.mul_assoc, Nat.mul_comm 2 (Nat.gcd _ _)]
theorem r7_divisor {post : zm_M → Prop} (h : zP G Bm M0 M ι α K ρ) (a b : Nat) (h0 : 0 < ρ a ∨ 0 < ρ b) (h1 : ρ a < 4294967296 ^ 71) (h2 : ρ b < 4294967296 ^ 71) (hp : ∀ (M' : zm_M) (w w' : Nat), zP G Bm M0 M' ι α K (rgu (rgu (rgu ρ 20 w') b w) a (Nat.gcd (ρ a) (ρ b))) → post M') (ha : a < 24 := by decide) (hb : b < 24 := by decide) (hab : a ≠ b := by decide) (ha20 : a ≠ 20 := by decide) (hb20 : b ≠ 20 := by decide) : pX7_divisor G Bm (nI a) (nI b) post M := by
  have done : ∀ (M' : zm_M) (ρ' : Nat → Nat), zP G Bm M0 M' ι α K ρ' → (∀ q, q ≠ a → q ≠ b → q ≠ 20 → ρ' q = ρ q) → ρ' a = Nat.gcd (ρ a) (ρ b) → post M' := fun M' ρ' k f e => by
    refine hp M' (ρ' b) (ρ' 20) (zP_c k (fun r hr => ?_))
    by_cases c : r = a
    · rw [c, rgu_s, e]
    · rw [rgu_n c]
      by_cases c2 : r = b
      · rw [c2, rgu_s]
      · rw [rgu_n c2]
        by_cases c3 : r = 20
        · rw [c3, rgu_s]
        · rw [rgu_n c3, f r c c2 c3]
  have zero : (ρ a = 0 ∨ ρ b = 0) → pX7_divisor_18 G post Bm (nI a) (nI b) M := fun hz => by
    unfold pX7_divisor_18
    refine r7_nz' h a (fun e => ?_) (fun e => ?_) ha
    · unfold pX7_divisor_34
      refine ⟨zP_o h, r7_copy h a b (fun M1 k1 => done M1 _ k1 (fun q h1 _ _ => rgu_n h1) ?_) ha hb⟩
      rw [rgu_s, e, Nat.gcd_zero_left]
    · unfold pX7_divisor_34
      refine ⟨zP_o h, r7_copy h a a (fun M1 k1 => done M1 _ k1 (fun q h1 _ _ => rgu_n h1) ?_) ha ha⟩
      rw [rgu_s, show ρ b = 0 by omega, Nat.gcd_zero_right]
  unfold pX7_divisor
  refine r7_nz h a (fun e => zero (Or.inl e)) (fun e => r7_nz' h b (fun e2 => zero (Or.inr e2)) (fun e2 x8 e8 => ⟨ρ a + 1, ?_⟩) hb) ha
  rw [e8]
  have hγl : Nat.gcd (ρ a) (ρ b) < 4294967296 ^ 71 := Nat.lt_of_le_of_lt (Nat.le_of_dvd (by omega) (Nat.gcd_dvd_left _ _)) h1
  refine r7_gdD (ρ := ρ) (γ := Nat.gcd (ρ a) (ρ b)) ha hb hab (fun M2 ρ2 t k2 f2 p2 ht g2 o2 => ⟨ρ2 a + ρ2 b + 1, ?_⟩) (ρ a) M ρ 0 (Nat.le_refl _) (by omega) (by rw [Nat.pow_zero, Nat.mul_one]; exact zP_lt h ha) h (fun _ _ _ => rfl) (by rw [Nat.pow_zero, Nat.mul_one])
  refine r7_gdC (ρ := ρ2) ha hb hab ha20 hb20 (zgodd o2) (fun M3 ρ3 k3 f3 e3 => ⟨zP_o k3, r7_up k3 a t (by rw [e3]; exact Nat.gcd_pos_of_pos_left _ p2) (by omega) (by rw [e3, ← g2]; exact hγl) (fun M4 k4 => done M4 _ k4 (fun q h1 h2 h3 => by rw [rgu_n h1, f3 q h1 h2 h3, f2 q h1 h2]) ?_) ha⟩) (ρ2 a + ρ2 b) M2 ρ2 (Nat.le_refl _) p2 k2 (fun _ _ _ _ => rfl) rfl
  rw [rgu_s, e3, g2]
end R76
