/-! ===== CHAIN: gather, tell ===== -/
section CH3
variable {G : Nat → ClassId} {B : Nat} {M0 M : zm_M} {σ : Nat → Nat} {τ : Nat → Int32} {π : Nat → Nat} {β : Nat → Nat → Int32} {post : zm_M → Prop}
/-- one step of what the terms make, and how wide it grows -/
theorem zga_b {X Y p p0 A : Nat} (hY : Y ≠ 0) (h : p * X + p0 * Y = A) : (p0 + X / Y * p) * Y + p * (X % Y) = A ∧ p0 + X / Y * p ≤ A := by
  have hdm := Nat.div_add_mod X Y
  have h1 : (p0 + X / Y * p) * Y + p * (X % Y) = A := by
    rw [Nat.add_mul, ← h]
    have h2 : p * X = p * (Y * (X / Y)) + p * (X % Y) := by rw [← Nat.mul_add, hdm]
    have h3 : X / Y * p * Y = p * (Y * (X / Y)) := by rw [Nat.mul_comm (X / Y) p, Nat.mul_assoc, Nat.mul_comm (X / Y) Y]
    omega
  refine ⟨h1, ?_⟩
  have h2 : (p0 + X / Y * p) * 1 ≤ (p0 + X / Y * p) * Y := Nat.mul_le_mul_left _ (by omega)
  omega
theorem c1_gatherL {post : Int32 → zm_M → Prop} {k72 : Int32 → Int32 → zm_M → Prop} {σ0 : Nat → Nat} {n P Q : Nat} {o : Option (Nat × Nat)} (hn4 : n ≤ 4000) (hP : P < 4294967296 ^ 16) (hQ : Q < 4294967296 ^ 16) (hy : ∀ (M' : zm_M) (σ' π' : Nat → Nat), zH G B M0 M' σ' τ π' β → o = some (σ' 59, σ' 60) → (∀ l, l < 56 → σ' l = σ0 l) → k72 (nI n) (nI n) M') (hn : ∀ (M' : zm_M) (σ' π' : Nat → Nat) (k : Nat), zH G B M0 M' σ' τ π' β → o = none → k < n → (∀ l, l < 56 → σ' l = σ0 l) → k72 (nI n) (nI k) M') : ∀ (d k : Nat) (M : zm_M) (σ π : Nat → Nat), k + d = n → zH G B M0 M σ τ π β → zga d (σ 57) (σ 58) (σ 59) (σ 60) (σ 61) (σ 62) = o → σ 59 * σ 57 + σ 61 * σ 58 = P → σ 60 * σ 57 + σ 62 * σ 58 = Q → (∀ l, l < 56 → σ l = σ0 l) → pX1_gather_46 G post k72 (d + 1) (B + 137) (nI n) (nI k) M
  | 0, k, M, σ, π, hk0, h, ho, h1, h2, hs => by
    rw [pX1_gather_46]
    have e : k = n := by omega
    subst e
    exact ⟨fun _ => hy M σ π h ho.symm hs, fun y => absurd ((nI_leI (by omega) (by omega)).mpr (Nat.le_refl _)) y⟩
  | d + 1, k, M, σ, π, hk0, h, ho, h1, h2, hs => by
    have hpow : 4294967296 ^ 16 < 4294967296 ^ 36 := by decide
    rw [pX1_gather_46]
    unfold zga at ho
    refine ⟨fun y => absurd ((nI_leI (by omega) (by omega)).mp y) (by omega), fun _ => ⟨zH_co h, c1_hasMore h (fun z => ⟨fun _ => ?_, fun y => absurd rfl y⟩) (fun z => ⟨fun y => absurd y (by decide), fun _ => ⟨zH_co h, c1_cut h (fun M1 σ1 π1 k1 e1 e2 e3 hs1 => ⟨zH_co k1, ?_⟩)⟩⟩)⟩⟩
    · rw [if_pos z] at ho
      exact hn M σ π k h ho.symm (by omega) hs
    · rw [if_neg z] at ho
      obtain ⟨a1, a2⟩ := zga_b z h1
      obtain ⟨b1, b2⟩ := zga_b z h2
      have f59 := hs1 59 (by decide) (by decide) (by decide)
      have f60 := hs1 60 (by decide) (by decide) (by decide)
      have f61 := hs1 61 (by decide) (by decide) (by decide)
      have f62 := hs1 62 (by decide) (by decide) (by decide)
      refine c1_join k1 (by rw [e1, f59, f61]; omega) (by rw [e1, f60, f62]; omega) (fun M2 σ2 π2 k2 g1 g2 g3 g4 hs2 x14 e14 => ?_)
      rw [e14, nI_1]
      rw [e1, f59, f61] at g1
      rw [f59] at g2
      rw [e1, f60, f62] at g3
      rw [f60] at g4
      have e57 : σ2 57 = σ 58 := (hs2 57 (by decide)).trans e2
      have e58 : σ2 58 = σ 57 % σ 58 := (hs2 58 (by decide)).trans e3
      refine c1_gatherL hn4 hP hQ hy hn d (k + 1) M2 σ2 π2 (by omega) k2 ?_ ?_ ?_ (fun l hl => (hs2 l (by omega)).trans ((hs1 l (by omega) (by omega) (by omega)).trans (hs l hl)))
      · rw [e57, e58, g1, g2, g3, g4]
        exact ho
      · rw [e57, e58, g1, g2]
        exact a1
      · rw [e57, e58, g3, g4]
        exact b1
theorem zga_none {m : Nat} : ∀ {d X Y p q p0 q0 : Nat}, zE m X Y → m < d → zga d X Y p q p0 q0 = none := by
  induction m with
  | zero =>
    intro d X Y p q p0 q0 he hd
    obtain ⟨d', rfl⟩ : ∃ d', d = d' + 1 := ⟨d - 1, by omega⟩
    unfold zga
    rw [if_pos (show Y = 0 from he)]
  | succ m ih =>
    intro d X Y p q p0 q0 he hd
    obtain ⟨d', rfl⟩ : ∃ d', d = d' + 1 := ⟨d - 1, by omega⟩
    unfold zga
    by_cases c : Y = 0
    · rw [if_pos c]
    · rw [if_neg c]
      exact ih (he.resolve_left c) (by omega)
theorem c1_gather {post : Int32 → zm_M → Prop} (h : zH G B M0 M σ τ π β) {x : Int32} (hX : σ 57 < 4294967296 ^ 16) (hD : σ 58 < 4294967296 ^ 16) (hx0 : x.toInt < 1 → post 0 M) (hy : 1 ≤ x.toInt → ∀ (M' : zm_M) (σ' π' : Nat → Nat), zH G B M0 M' σ' τ π' β → zga (x.toInt.toNat - 1) (σ 57) (σ 58) 0 1 1 0 = some (σ' 59, σ' 60) → (∀ l, l < 56 → σ' l = σ l) → post 1 M') (hn : 1 ≤ x.toInt → ∀ (M' : zm_M) (σ' π' : Nat → Nat), zH G B M0 M' σ' τ π' β → zga (x.toInt.toNat - 1) (σ 57) (σ 58) 0 1 1 0 = none → (∀ l, l < 56 → σ' l = σ l) → post 0 M') : pX1_gather G (B + 137) x post M := by
  unfold pX1_gather
  have h0 : x < 1 ↔ x.toInt < 1 := Int32.lt_iff_toInt_lt
  refine ⟨fun y => ⟨zb_0, hx0 (h0.mp y)⟩, fun y => ?_⟩
  have hx : 1 ≤ x.toInt := by
    rcases Int.lt_or_le x.toInt 1 with c | c
    · exact absurd (h0.mpr c) y
    · exact c
  have hy := hy hx
  have hn := hn hx
  obtain ⟨i, hi⟩ : ∃ i : Nat, x.toInt.toNat = i := ⟨_, rfl⟩
  have hlt := Int32.toInt_lt x
  have hxi : x = nI i := by
    apply Int32.toInt_inj.mp
    rw [nI_toInt (by omega)]
    omega
  rw [hi] at hy hn
  rw [hxi]
  have h4 : nI i ≤ (4000 : Int32) ↔ i ≤ 4000 := nI_leI (b := 4000) (by omega) (by decide)
  refine ⟨fun z => hk h rfl ⟨zH_o h 59 (by decide) rfl, h5_clear h 59 (by decide) rfl (fun M1 k1 => hk k1 rfl ⟨zH_o k1 60 (by decide) rfl, h5_become k1 60 (by decide) rfl uN_1 (fun M2 k2 => hk k2 rfl ⟨zH_o k2 61 (by decide) rfl, h5_become k2 61 (by decide) rfl uN_1 (fun M3 k3 => hk k3 rfl ⟨zH_o k3 62 (by decide) rfl, h5_clear k3 62 (by decide) rfl (fun M4 k4 x9 e9 => ⟨i - 1 + 1, ?_⟩)⟩)⟩)⟩)⟩, fun z => ⟨zb_0, hn M σ π h (zga_none (m := 1024) (zE_of 512 _ _ (by rw [p512]; exact hD)) ?_) (fun _ _ => rfl)⟩⟩
  · have hi4 := h4.mp z
    rw [e9]
    obtain ⟨σ4, hσ4⟩ : ∃ σ4, σ4 = ux (ux (ux (ux σ 59 0) 60 1) 61 1) 62 0 := ⟨_, rfl⟩
    have f57 : σ4 57 = σ 57 := by rw [hσ4]; rfl
    have f58 : σ4 58 = σ 58 := by rw [hσ4]; rfl
    have f59 : σ4 59 = 0 := by rw [hσ4]; rfl
    have f60 : σ4 60 = 1 := by rw [hσ4]; rfl
    have f61 : σ4 61 = 1 := by rw [hσ4]; rfl
    have f62 : σ4 62 = 0 := by rw [hσ4]; rfl
    have fo : ∀ l, l < 56 → σ4 l = σ l := fun l hl => by rw [hσ4, ux_n (by omega), ux_n (by omega), ux_n (by omega), ux_n (by omega)]
    rw [← hσ4] at k4
    refine c1_gatherL (σ0 := σ) (n := i) (P := σ 58) (Q := σ 57) hi4 hD hX (fun M' σ' π' k1 e s => ?_) (fun M' σ' π' k k1 e hki s => ?_) (i - 1) 1 M4 σ4 π (by omega) k4 (by rw [f57, f58, f59, f60, f61, f62]) (by rw [f57, f58, f59, f61]; omega) (by rw [f57, f58, f60, f62]; omega) fo
    · exact ⟨fun q => absurd rfl q, fun _ => ⟨zb_1, hy M' σ' π' k1 e s⟩⟩
    · exact ⟨fun _ => ⟨zb_0, hn M' σ' π' k1 e s⟩, fun q => absurd ((nI_eq (by omega) (by omega)).mp q) (by omega)⟩
  · have : ¬ i ≤ 4000 := fun c => z (h4.mpr c)
    omega
theorem zH_p (h : zH G B M0 M σ τ π β) : ∃ σp, zC G B M0 M σp τ π β ∧ (∀ l, l < 57 ∨ 63 ≤ l → l < 67 → σp l = σ l) ∧ (∀ k, k < 6 → σp (57 + π k) = σ (57 + k)) := by
  obtain ⟨σp, h, hs⟩ := h
  refine ⟨σp, h, fun l hl hl2 => ?_, fun k hk => ?_⟩
  · rw [← hs l hl2, zφ_n hl]
  · rw [← hs (57 + k) (by omega), zφ_h hk]
theorem c1_tell (h : zH G B M0 M σ τ π β) (h1 : σ 54 * σ 60 + σ 59 < 4294967296 ^ 36) (hp : ∀ (M' : zm_M) (σ' : Nat → Nat), zC G B M0 M' σ' (upd τ 24 (zsum (τ 25) (σ 54 * σ 60) 1 (σ 59)).1) π β → σ' 48 = (zsum (τ 25) (σ 54 * σ 60) 1 (σ 59)).2 → σ' 49 = σ 60 → (∀ l, l < 48 → σ' l = σ l) → post M') : pX1_tell G (B + 137) (B + zo_r 24) post M := by
  obtain ⟨σp, h, hs, hc⟩ := zH_p h
  have hpi := zC_pi h
  have p2 := hpi.1 2 (by decide)
  have p3 := hpi.1 3 (by decide)
  have c59 : σp (57 + π 2) = σ 59 := hc 2 (by decide)
  have c60 : σp (57 + π 3) = σ 60 := hc 3 (by decide)
  have c54 : σp 54 = σ 54 := hs 54 (by decide) (by decide)
  unfold pX1_tell
  refine ⟨_, _, zC_c h, rfl, pS h 24 (by decide) (fun M1 k1 => gT k1 24 (by decide) ⟨_, _, zC_c k1, rfl, _, _, zC_c k1, rfl, zC_o k1 48 (by decide), c5_multiply k1 48 54 (57 + π 3) (by decide) (by decide) (by omega) (by decide) (by omega) (by decide) (by rw [c54, c60]; omega) (fun M2 k2 => ⟨_, _, zC_c k2, rfl, zC_ro k2 24 (by decide), c2_addToTop k2 24 (57 + π 2) (by decide) (by omega) (by omega) ?_ (fun M3 k3 => gB k3 24 (by decide) ⟨_, _, zC_c k3, rfl, zC_o k3 49 (by decide), c5_copy k3 49 (57 + π 3) (by decide) (by omega) ?_ (fun M4 k4 => ?_)⟩)⟩)⟩)⟩
  · show ux σp 48 (σp 54 * σp (57 + π 3)) 48 + ux σp 48 (σp 54 * σp (57 + π 3)) (57 + π 2) < 4294967296 ^ 36
    rw [ux_s, ux_n (by omega), c54, c59, c60]
    exact h1
  · rw [ux_n (by omega), ux_n (by omega)]
    have := zC_lt h (57 + π 3) (by omega)
    rw [zo_c36 (by omega)] at this
    exact this
  · have e1 : ux σp 48 (σp 54 * σp (57 + π 3)) (2 * 24) = σ 54 * σ 60 := by
      show ux σp 48 (σp 54 * σp (57 + π 3)) 48 = _
      rw [ux_s, c54, c60]
    have e2 : ux σp 48 (σp 54 * σp (57 + π 3)) (57 + π 2) = σ 59 := by rw [ux_n (by omega), c59]
    have e3 : upd (upd τ 24 (τ 25)) 24 = upd τ 24 := by
      funext x q
      by_cases e : q = 24
      · rw [e, pk_us, pk_us]
      · rw [pk_un e, pk_un e, pk_un e]
    rw [e1, e2, pk_us, e3] at k4
    refine hp M4 _ k4 ?_ ?_ (fun l hl => ?_)
    · rw [ux_n (by decide)]
      rfl
    · rw [ux_s, ux_n (by omega), ux_n (by omega)]
      exact c60
    · rw [ux_n (by omega), ux_n (by omega), ux_n (by omega)]
      exact hs l (by omega) (by omega)
end CH3
