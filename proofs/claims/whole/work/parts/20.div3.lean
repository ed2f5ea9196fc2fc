/-! ===== WIDE: putBack, divide ===== -/
theorem q5_pbL {G : Nat → ClassId} {post : zm_M → Prop} {M0 : zm_M} {w r cap u b rb capb n j V : Nat} {f0 fb : Nat → Int32} (hjn : j + n ≤ u) (hb0 : zwd G M0 b rb capb n fb) (hV : V = zs (fun i => uI (fb i)) n) (hr : rb ≠ r) (hbr : b ≠ r)
    (hk : ∀ (M' : zm_M) (f' : Nat → Int32) (c : Nat), zof M0 M' r r → zwd G M' w r cap u f' → c ≤ 1 → (∀ i, i < j → f' i = f0 i) → (∀ i, j + n ≤ i → f' i = f0 i) → zs (fun i => uI (f' (j + i))) n + c * 4294967296 ^ n = zs (fun i => uI (f0 (j + i))) n + V → post M') : ∀ (d i : Nat) (M : zm_M) (f : Nat → Int32) (c : Nat), i + d = n → zof M0 M r r → zwd G M w r cap u f → c ≤ 1 → (∀ k, k < j → f k = f0 k) → (∀ k, j + i ≤ k → f k = f0 k) → zs (fun k => uI (f (j + k))) i + c * 4294967296 ^ i = zs (fun k => uI (f0 (j + k))) i + zs (fun k => uI (fb k)) i → pX5_putBack_5 G post (d + 1) w b (nI j) (lN c) (nI i) M
  | 0, i, M, f, c, hi, ho, h, hc, h0, h1, he => by
    have hb : zwd G M b rb capb n fb := zwd_kept hb0 (ho.2 _ hbr hbr) (ho.2 _ hr hr)
    have hcap := h.2.2.2
    have hu := h.2.2.1
    rw [pX5_putBack_5]
    have e : i = n := by omega
    subst e
    refine ⟨_, _, hb.1, rfl, fun _ => hk M f c ho h hc h0 h1 ?_, fun z => absurd ((nI_leI (by omega) (by omega)).mpr (Nat.le_refl _)) z⟩
    rw [hV]
    exact he
  | d + 1, i, M, f, c, hi, ho, h, hc, h0, h1, he => by
    have hcap := h.2.2.2
    have hu := h.2.2.1
    have hb : zwd G M b rb capb n fb := zwd_kept hb0 (ho.2 _ hbr hbr) (ho.2 _ hr hr)
    have hcb := hb.2.2.2
    have hub := hb.2.2.1
    have hz1 := uI_lt (fb i)
    have hz2 := uI_lt (f (j + i))
    rw [pX5_putBack_5]
    refine ⟨_, _, hb.1, rfl, fun z => absurd ((nI_leI (by omega) (by omega)).mp z) (by omega), fun _ => ⟨zwd_ob h, ?_⟩⟩
    rw [nI_add]
    refine q5_limb0 h ⟨zwd_ob hb, q5_limb0 hb (fun x8 e8 => ⟨zwd_ob h, q5_put h (by omega) (fun x10 e10 x11 e11 => ?_)⟩)⟩
    rw [nI_toInt (by omega), nI_toInt (by omega), zld_n (by omega), zld_n (by omega), lN_add, lN_add] at e8
    have e10' : x10 = lN ((uI (f (j + i)) + uI (fb i) + c) / 4294967296) := by rw [e10, e8, lN_sh32 (by omega)]
    rw [e10', e11, nI_1]
    have hf0 : f (j + i) = f0 (j + i) := h1 _ (Nat.le_refl _)
    have ho' : zof M (zm_set M r (.inl (G 0, (cap, .inl (upd f (j + i) x8.toInt32))))) r r := zof_r
    have hseg : ∀ x : Int32, zs (fun k => uI (upd f (j + i) x (j + k))) (i + 1) = zs (fun k => uI (f (j + k))) i + uI x * 4294967296 ^ i := fun x => by
      rw [zs_step, zs_congr (d' := fun k => uI (f (j + k))) (fun k hk => by rw [pk_un (by omega)]), pk_us]
    refine q5_pbL hjn hb0 hV hr hbr hk d (i + 1) _ _ _ (by omega) (zof_t ho ho') (zwd_setR h) (by omega) (fun k hk => ?_) (fun k hk => ?_) ?_
    · rw [pk_un (by omega)]
      exact h0 k hk
    · rw [pk_un (by omega)]
      exact h1 k (by omega)
    · rw [hseg, e8, uI_lN (by omega), zs_step, zs_step, Nat.pow_succ, ← hf0]
      have h5 : (uI (f (j + i)) + uI (fb i) + c) / 4294967296 * (4294967296 ^ i * 4294967296) + (uI (f (j + i)) + uI (fb i) + c) % 4294967296 * 4294967296 ^ i = (uI (f (j + i)) + uI (fb i) + c) * 4294967296 ^ i := by
        rw [Nat.mul_comm (4294967296 ^ i) 4294967296, ← Nat.mul_assoc, ← Nat.add_mul]
        congr 1
        omega
      have h6 : (uI (f (j + i)) + uI (fb i) + c) * 4294967296 ^ i = uI (f (j + i)) * 4294967296 ^ i + uI (fb i) * 4294967296 ^ i + c * 4294967296 ^ i := by rw [Nat.add_mul, Nat.add_mul]
      omega
theorem q5_putBack {G : Nat → ClassId} {M : zm_M} {w r cap u b rb capb n j V : Nat} {f fb : Nat → Int32} (h : zwd G M w r cap u f) (hb : zwd G M b rb capb n fb) (hV : V = zs (fun i => uI (fb i)) n) (hr : rb ≠ r) (hjn : j + n ≤ u) {post : zm_M → Prop} (hp : ∀ (M' : zm_M) (f' : Nat → Int32) (c : Nat), zof M M' r r → zwd G M' w r cap u f' → c ≤ 1 → (∀ i, i < j → f' i = f i) → (∀ i, j + n ≤ i → f' i = f i) → zs (fun i => uI (f' (j + i))) n + c * 4294967296 ^ n = zs (fun i => uI (f (j + i))) n + V → post M') : pX5_putBack G w b (nI j) post M := by
  have hbr : b ≠ r := fun e => by
    have h1 := hb.1
    rw [e, h.2.1] at h1
    cases h1
  unfold pX5_putBack
  refine fun x1 e1 x2 e2 => ⟨n + 1, ?_⟩
  have e1' : x1 = lN 0 := e1
  rw [e1', e2]
  exact q5_pbL (M0 := M) (f0 := f) (fb := fb) (rb := rb) (capb := capb) (V := V) hjn hb hV hr hbr hp n 0 M f 0 (by omega) zof_rf h (by decide) (fun _ _ => rfl) (fun _ _ => rfl) rfl
/-- what the guess needs, of numbers alone -/
theorem zdv_g {X V n k s pair third lead Q : Nat} (hn : 0 < n) (hV1 : 4294967296 ^ n ≤ 2 * (V * 2 ^ s)) (hV2 : V * 2 ^ s < 4294967296 ^ n) (hX : X < V * 4294967296 ^ (k + 1)) (hp : pair = X * (4294967296 * 4294967296) * 2 ^ s / 4294967296 ^ (k + n + 1) % (4294967296 * 4294967296)) (ht : third = X * (4294967296 * 4294967296) * 2 ^ s / 4294967296 ^ (k + n - 1) % (4294967296 * 4294967296) / 4294967296) (hl : lead = V * (4294967296 * 4294967296) * 2 ^ s / 4294967296 ^ n % (4294967296 * 4294967296)) (hQ : Q = X / 4294967296 ^ k / V) : pair ≤ lead / 4294967296 * 4294967296 + 4294967295 ∧ third < 4294967296 ∧ 2147483648 ≤ lead / 4294967296 ∧ lead / 4294967296 < 4294967296 ∧ Q < 4294967296 ∧ Q ≤ pair / (lead / 4294967296) ∧ pair / (lead / 4294967296) ≤ Q + 2 ∧ (∀ q r, q * (lead / 4294967296) + r = pair → r * 4294967296 + third < q * (lead % 4294967296) → Q < q) ∧ (∀ q r, q * (lead / 4294967296) + r = pair → q * (lead % 4294967296) ≤ r * 4294967296 + third → q ≤ Q + 1) := by
  have hK : 0 < 4294967296 ^ n := Nat.pow_pos (by decide)
  have hJ : 0 < 4294967296 ^ k := Nat.pow_pos (by decide)
  have hs : 0 < 2 ^ s := Nat.pow_pos (by decide)
  have hV0 : 0 < V := by
    rcases Nat.eq_zero_or_pos V with z | z
    · rw [z] at hX; simp at hX
    · exact z
  have hVJ : 0 < 4294967296 ^ k * V := Nat.mul_pos hJ hV0
  -- Q
  have hQ' : Q = X / (4294967296 ^ k * V) := by rw [hQ, Nat.div_div_eq_div_mul]
  have q1 : Q * (4294967296 ^ k * V) ≤ X := by rw [hQ']; exact Nat.div_mul_le_self _ _
  have q2 : X < (Q + 1) * (4294967296 ^ k * V) := by rw [hQ']; exact zdl hVJ
  have hQB : Q < 4294967296 := by
    rw [hQ']
    refine (Nat.div_lt_iff_lt_mul hVJ).mpr ?_
    rw [Nat.pow_succ] at hX
    rw [show 4294967296 * (4294967296 ^ k * V) = V * (4294967296 ^ k * 4294967296) by rw [Nat.mul_comm 4294967296, Nat.mul_comm _ V, Nat.mul_assoc]]
    exact hX
  have hD : V * (4294967296 * 4294967296) * 2 ^ s = V * 2 ^ s * (4294967296 * 4294967296) := by rw [Nat.mul_right_comm]
  have hlead : lead = V * (4294967296 * 4294967296) * 2 ^ s / 4294967296 ^ n := by
    rw [hl]
    refine Nat.mod_eq_of_lt ((Nat.div_lt_iff_lt_mul hK).mpr ?_)
    rw [hD, Nat.mul_comm (4294967296 * 4294967296)]
    exact Nat.mul_lt_mul_of_pos_right hV2 (by decide)
  have hleadB : lead < 4294967296 * 4294967296 := by rw [hl]; exact Nat.mod_lt _ (by decide)
  have hleadG : 2147483648 * 4294967296 ≤ lead := by
    rw [hlead]
    refine (Nat.le_div_iff_mul_le hK).mpr ?_
    rw [hD]
    omega
  have a1 : Q * (V * (4294967296 * 4294967296) * 2 ^ s * 4294967296 ^ k) ≤ X * (4294967296 * 4294967296) * 2 ^ s := by
    have h1 : Q * (V * (4294967296 * 4294967296) * 2 ^ s * 4294967296 ^ k) = Q * (4294967296 ^ k * V) * (4294967296 * 4294967296) * 2 ^ s := by
      rw [Nat.mul_comm _ (4294967296 ^ k), ← Nat.mul_assoc, ← Nat.mul_assoc, ← Nat.mul_assoc, ← Nat.mul_assoc Q]
    rw [h1]
    exact Nat.mul_le_mul_right _ (Nat.mul_le_mul_right _ q1)
  have a2 : X * (4294967296 * 4294967296) * 2 ^ s < (Q + 1) * (V * (4294967296 * 4294967296) * 2 ^ s * 4294967296 ^ k) := by
    have h1 : (Q + 1) * (V * (4294967296 * 4294967296) * 2 ^ s * 4294967296 ^ k) = (Q + 1) * (4294967296 ^ k * V) * (4294967296 * 4294967296) * 2 ^ s := by
      rw [Nat.mul_comm _ (4294967296 ^ k), ← Nat.mul_assoc, ← Nat.mul_assoc, ← Nat.mul_assoc, ← Nat.mul_assoc (Q + 1)]
    rw [h1]
    exact Nat.mul_lt_mul_of_pos_right (Nat.mul_lt_mul_of_pos_right q2 (by decide)) hs
  obtain ⟨top3, htop⟩ : ∃ t, t = X * (4294967296 * 4294967296) * 2 ^ s / (4294967296 ^ n * 4294967296 ^ k) := ⟨_, rfl⟩
  obtain ⟨k1, k2, k3, k4⟩ := zkn hK hJ hlead htop a1 a2
  have hexp : 4294967296 ^ (k + n) = 4294967296 ^ n * 4294967296 ^ k := by rw [Nat.pow_add, Nat.mul_comm]
  have hpl : pair = top3 / 4294967296 % (4294967296 * 4294967296) := by
    rw [hp, htop, Nat.div_div_eq_div_mul, ← hexp, ← Nat.pow_succ]
  have htl : third = top3 % 4294967296 := by
    rw [ht, htop, Nat.mod_mul_right_div_self, Nat.div_div_eq_div_mul, ← hexp, ← Nat.pow_succ, show (k + n - 1).succ = k + n by omega]
  have htt : top3 < 4294967296 * (lead + 1) := by
    refine Nat.lt_of_mul_lt_mul_right (a := 4294967296 ^ n * 4294967296 ^ k) ?_
    have h1 : top3 * (4294967296 ^ n * 4294967296 ^ k) ≤ X * (4294967296 * 4294967296) * 2 ^ s := by rw [htop]; exact Nat.div_mul_le_self _ _
    have h2 : V * (4294967296 * 4294967296) * 2 ^ s < (lead + 1) * 4294967296 ^ n := by rw [hlead]; exact zdl hK
    have h3 : (Q + 1) * (V * (4294967296 * 4294967296) * 2 ^ s * 4294967296 ^ k) ≤ 4294967296 * ((lead + 1) * 4294967296 ^ n * 4294967296 ^ k) := Nat.mul_le_mul (by omega) (Nat.mul_le_mul_right _ (Nat.le_of_lt h2))
    have h4 : 4294967296 * ((lead + 1) * 4294967296 ^ n * 4294967296 ^ k) = 4294967296 * (lead + 1) * (4294967296 ^ n * 4294967296 ^ k) := by rw [Nat.mul_assoc (lead + 1), ← Nat.mul_assoc 4294967296]
    omega
  have hpe : pair = top3 / 4294967296 := by
    rw [hpl]
    exact Nat.mod_eq_of_lt (by omega)
  have hdm := Nat.div_add_mod top3 4294967296
  have hdl := Nat.div_add_mod lead 4294967296
  have hl1 : 2147483648 ≤ lead / 4294967296 := by omega
  refine ⟨by omega, by omega, hl1, by omega, hQB, ?_, ?_, fun q r e1 e2 => k1 q ?_, fun q r e1 e2 => k2 (by omega) q ?_⟩
  · rw [hpe]
    exact (Nat.le_div_iff_mul_le (by omega)).mpr k3
  · rw [hpe]
    exact k4 _ (Nat.div_mul_le_self _ _) (by omega)
  · have h1 : q * lead = q * (lead / 4294967296) * 4294967296 + q * (lead % 4294967296) := by
      rw [Nat.mul_assoc, ← Nat.mul_add, Nat.mul_comm (lead / 4294967296), hdl]
    omega
  · have h1 : q * lead = q * (lead / 4294967296) * 4294967296 + q * (lead % 4294967296) := by
      rw [Nat.mul_assoc, ← Nat.mul_add, Nat.mul_comm (lead / 4294967296), hdl]
    omega
theorem zs_sft {d : Nat → Nat} (t : Nat) : zs d (t + 1) = d 0 + 4294967296 * zs (fun j => d (1 + j)) t := by
  have := zs_add (d := d) 1 t
  rw [Nat.add_comm 1 t] at this
  rw [this]
  simp [zs]
