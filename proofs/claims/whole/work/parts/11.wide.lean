/-! ===== THE CLASS'S WIDE: what each of its methods does, in numbers ===== -/
/-- the Wide w: its row r of cap limbs, u of them in use, f in the row -/
def zwd (G : Nat → ClassId) (M : zm_M) (w r cap u : Nat) (f : Nat → Int32) : Prop := M.2 w = some (.inr (8, [.ref r, .int (nI u)])) ∧ M.2 r = some (.inl (G 0, (cap, .inl f))) ∧ u ≤ cap ∧ cap ≤ 1000
/-- it holds the number v -/
def zwv (G : Nat → ClassId) (M : zm_M) (w r cap v : Nat) : Prop := ∃ (u : Nat) (f : Nat → Int32), zwd G M w r cap u f ∧ v = zs (fun i => uI (f i)) u ∧ (0 < u → f (u - 1) ≠ 0)
/-- all but the cells w and r is as it was -/
def zof (M M' : zm_M) (w r : Nat) : Prop := M'.1 = M.1 ∧ ∀ q : Nat, q ≠ w → q ≠ r → M'.2 q = M.2 q
theorem zof_rf {M : zm_M} {w r : Nat} : zof M M w r := ⟨rfl, fun _ _ _ => rfl⟩
theorem zof_w {M : zm_M} {w r : Nat} {e : va_E} : zof M (zm_set M w e) w r := ⟨rfl, fun _ h _ => zm_set_n _ _ h⟩
theorem zof_r {M : zm_M} {w r : Nat} {e : va_E} : zof M (zm_set M r e) w r := ⟨rfl, fun _ _ h => zm_set_n _ _ h⟩
theorem zof_t {M M' M'' : zm_M} {w r : Nat} (h : zof M M' w r) (h' : zof M' M'' w r) : zof M M'' w r := ⟨h'.1.trans h.1, fun q h1 h2 => (h'.2 q h1 h2).trans (h.2 q h1 h2)⟩
theorem zwd_ne {G : Nat → ClassId} {M : zm_M} {w r cap u : Nat} {f : Nat → Int32} (h : zwd G M w r cap u f) : w ≠ r := by
  intro e
  have h1 := h.1
  rw [e, h.2.1] at h1
  cases h1
theorem zwd_ob {G : Nat → ClassId} {M : zm_M} {w r cap u : Nat} {f : Nat → Int32} (h : zwd G M w r cap u f) : zw_ob M w 8 := ⟨_, h.1⟩
theorem zwv_ob {G : Nat → ClassId} {M : zm_M} {w r cap v : Nat} (h : zwv G M w r cap v) : zw_ob M w 8 := by
  obtain ⟨u, f, h, -⟩ := h
  exact zwd_ob h
theorem zwd_kept {G : Nat → ClassId} {M M' : zm_M} {w r cap u : Nat} {f : Nat → Int32} (h : zwd G M w r cap u f) (h1 : M'.2 w = M.2 w) (h2 : M'.2 r = M.2 r) : zwd G M' w r cap u f := ⟨h1.trans h.1, h2.trans h.2.1, h.2.2⟩
theorem zwv_kept {G : Nat → ClassId} {M M' : zm_M} {w r cap v : Nat} (h : zwv G M w r cap v) (h1 : M'.2 w = M.2 w) (h2 : M'.2 r = M.2 r) : zwv G M' w r cap v := by
  obtain ⟨u, f, h, hv⟩ := h
  exact ⟨u, f, zwd_kept h h1 h2, hv⟩
theorem zwd_setR {G : Nat → ClassId} {M : zm_M} {w r cap u : Nat} {f f' : Nat → Int32} (h : zwd G M w r cap u f) : zwd G (zm_set M r (.inl (G 0, (cap, .inl f')))) w r cap u f' := ⟨by rw [zm_set_n _ _ (zwd_ne h)]; exact h.1, zm_set_s _ _ _, h.2.2⟩
theorem zwd_setU {G : Nat → ClassId} {M : zm_M} {w r cap u u' : Nat} {f : Nat → Int32} (h : zwd G M w r cap u f) (hu : u' ≤ cap) : zwd G (zm_set M w (.inr (8, [.ref r, .int (nI u')]))) w r cap u' f := ⟨zm_set_s _ _ _, by rw [zm_set_n _ _ (Ne.symm (zwd_ne h))]; exact h.2.1, hu, h.2.2.2⟩
/-- what limbAt answers at any index -/
def zld (u : Nat) (f : Nat → Int32) (i : Int) : Nat := if i < 0 ∨ (u : Int) ≤ i then 0 else uI (f i.toNat)
theorem zld_n {u : Nat} {f : Nat → Int32} {j : Nat} (h : j < u) : zld u f (j : Int) = uI (f j) := by
  unfold zld
  rw [if_neg (by omega)]
  rfl
theorem zld_lt (u : Nat) (f : Nat → Int32) (i : Int) : zld u f i < 4294967296 := by
  unfold zld
  by_cases h : i < 0 ∨ (u : Int) ≤ i
  · rw [if_pos h]; decide
  · rw [if_neg h]; exact uI_lt _
theorem zld_v {u : Nat} {f : Nat → Int32} (j : Nat) : zld u f (j : Int) = zdg (zs (fun i => uI (f i)) u) j := by
  unfold zld zdg
  by_cases h : (j : Int) < 0 ∨ (u : Int) ≤ j
  · rw [if_pos h, zs_big (fun i _ => uI_lt _) (by omega)]
  · rw [if_neg h, zs_dig (fun i _ => uI_lt _) (by omega)]
    rfl
theorem lN_of {x : Int64} {n : Nat} (h : uN x = n) : x = lN n := by
  have h1 := uN_lt x
  exact uN_inj (by rw [uN_lN (by omega)]; exact h)
theorem i32_lt {x : Int32} : x < 0 ↔ x.toInt < 0 := Int32.lt_iff_toInt_lt
theorem i32_le {x y : Int32} : x ≤ y ↔ x.toInt ≤ y.toInt := Int32.le_iff_toInt_le
theorem i32_cl {x : Int32} (h : 0 ≤ x.toInt) : x.toNatClampNeg = x.toInt.toNat := rfl
theorem q5_limb0 {G : Nat → ClassId} {M : zm_M} {w r cap u : Nat} {f : Nat → Int32} (h : zwd G M w r cap u f) {i : Int32} {post : Int64 → zm_M → Prop} (hp : post (lN (zld u f i.toInt)) M) : pX5_limbAt G w i post M := by
  have hc := h.2.2.2
  have hu := h.2.2.1
  have hun : (nI u).toInt = (u : Int) := nI_toInt (by omega)
  have hcn : (nI cap).toInt = (cap : Int) := nI_toInt (by omega)
  have h0 : (i.toInt < 0 ∨ (u : Int) ≤ i.toInt) → post 0 M := fun hh => by
    unfold zld at hp
    rw [if_pos hh] at hp
    exact hp
  unfold pX5_limbAt
  refine ⟨fun h1 => h0 (Or.inl (i32_lt.mp h1)), fun h1 => ⟨_, _, h.1, rfl, fun h2 => h0 (Or.inr (by rw [i32_le, hun] at h2; exact h2)), fun h2 => ⟨_, _, h.1, rfl, _, h.2.1, fun h3 => h0 (Or.inr ?_), fun h3 => ⟨_, _, h.1, rfl, _, _, h.2.1, ?_, ?_⟩⟩⟩⟩
  · rw [i32_le] at h3
    have h3 : (nI cap).toInt ≤ i.toInt := h3
    rw [hcn] at h3
    omega
  · rw [i32_le, hun] at h2
    rw [i32_lt] at h1
    exact vp_in_iff.mpr ⟨by omega, by omega⟩
  · rw [i32_le, hun] at h2
    rw [i32_lt] at h1
    unfold zld at hp
    rw [if_neg (by omega)] at hp
    rw [i32_cl (by omega), lN_of (uN_of32 _)]
    exact hp
theorem q5_limb {G : Nat → ClassId} {M : zm_M} {w r cap v : Nat} (h : zwv G M w r cap v) {j : Nat} (hj : j < 2 ^ 31) {post : Int64 → zm_M → Prop} (hp : post (lN (zdg v j)) M) : pX5_limbAt G w (nI j) post M := by
  obtain ⟨u, f, h, hv, -⟩ := h
  refine q5_limb0 h ?_
  rw [nI_toInt hj, zld_v, ← hv]
  exact hp
theorem q5_limbN {G : Nat → ClassId} {M : zm_M} {w r cap v : Nat} (h : zwv G M w r cap v) {i : Int32} (hi : i.toInt < 0) {post : Int64 → zm_M → Prop} (hp : post 0 M) : pX5_limbAt G w i post M := by
  obtain ⟨u, f, h, hv, -⟩ := h
  refine q5_limb0 h ?_
  unfold zld
  rw [if_pos (Or.inl hi)]
  exact hp
theorem q5_put {G : Nat → ClassId} {M : zm_M} {w r cap u : Nat} {f : Nat → Int32} (h : zwd G M w r cap u f) {j : Nat} (hj : j < cap) {x : Int64} {post : zm_M → Prop} (hp : post (zm_set M r (.inl (G 0, (cap, .inl (upd f j x.toInt32)))))) : pX5_put G w (nI j) x post M := by
  have hc := h.2.2.2
  have hjn : (nI j).toInt = (j : Int) := nI_toInt (by omega)
  have hcn : (nI cap).toInt = (cap : Int) := nI_toInt (by omega)
  unfold pX5_put
  refine ⟨fun h1 => absurd (i32_lt.mp h1) (by omega), fun h1 => ⟨_, _, h.1, rfl, _, h.2.1, fun h2 => absurd (i32_le.mp h2) ?_, fun h2 => ⟨_, _, h.1, rfl, _, _, h.2.1, vp_in_nI hj (by omega), ?_⟩⟩⟩
  · show ¬ (nI cap).toInt ≤ _
    rw [hcn, hjn]
    omega
  · rw [nI_clamp (by omega)]
    exact hp
theorem q5_putO {G : Nat → ClassId} {M : zm_M} {w r cap u : Nat} {f : Nat → Int32} (h : zwd G M w r cap u f) {j : Nat} (hj : cap ≤ j) (hj2 : j < 2 ^ 31) {x : Int64} {post : zm_M → Prop} (hp : post M) : pX5_put G w (nI j) x post M := by
  have hc := h.2.2.2
  have hjn : (nI j).toInt = (j : Int) := nI_toInt hj2
  have hcn : (nI cap).toInt = (cap : Int) := nI_toInt (by omega)
  unfold pX5_put
  refine ⟨fun h1 => absurd (i32_lt.mp h1) (by omega), fun h1 => ⟨_, _, h.1, rfl, _, h.2.1, fun h2 => hp, fun h2 => absurd (i32_le.mpr ?_) h2⟩⟩
  show (nI cap).toInt ≤ _
  rw [hcn, hjn]
  omega
theorem q5_trimL {G : Nat → ClassId} {M : zm_M} {w r cap u : Nat} {f : Nat → Int32} (h : zwd G M w r cap u f) {post : zm_M → Prop} : ∀ n : Nat, n ≤ cap → (∀ k, k ≤ n → (∀ j, k ≤ j → j < n → f j = 0) → (0 < k → f (k - 1) ≠ 0) → post (zm_set M w (.inr (8, [.ref r, .int (nI k)])))) → pX5_trim_14 G post (n + 1) w (nI n) M
  | 0, _, hp => by
    rw [pX5_trim_14]
    exact ⟨fun _ => ⟨_, h.1, Nat.lt_succ_self 1, hp 0 (Nat.le_refl _) (fun j h1 h2 => absurd h2 (by omega)) (fun h0 => absurd h0 (by decide))⟩, fun hc => absurd (i32_le.mpr (by decide)) hc⟩
  | n + 1, hn, hp => by
    have hc := h.2.2.2
    rw [pX5_trim_14]
    refine ⟨fun hc => absurd (i32_le.mp hc) (by rw [nI_toInt (by omega)]; show ¬ ((n + 1 : Nat) : Int) ≤ 0; omega), fun _ => ⟨_, _, h.1, rfl, _, _, h.2.1, ?_, ?_⟩⟩
    · rw [nI_pred]
      exact vp_in_nI (by omega) (by omega)
    · rw [nI_pred, nI_clamp (by omega)]
      refine ⟨fun h1 => ⟨_, h.1, Nat.lt_succ_self 1, hp (n + 1) (Nat.le_refl _) (fun j h2 h3 => absurd h3 (by omega)) (fun _ => h1)⟩, fun h1 x hx => ?_⟩
      rw [hx, pk_m1]
      refine q5_trimL h n (by omega) (fun k hk h2 h3 => hp k (by omega) (fun j h4 h5 => ?_) h3)
      by_cases hj : j = n
      · rw [hj]; exact h1
      · exact h2 j h4 (by omega)
theorem q5_trim {G : Nat → ClassId} {M : zm_M} {w r cap u : Nat} {f : Nat → Int32} (h : zwd G M w r cap u f) {n : Nat} (hn : n ≤ cap) {post : zm_M → Prop} (hp : ∀ M', zof M M' w r → zwv G M' w r cap (zs (fun i => uI (f i)) n) → post M') : pX5_trim G w (nI n) post M := by
  have hc := h.2.2.2
  unfold pX5_trim
  refine ⟨_, _, h.1, rfl, _, h.2.1, fun x hx => ⟨n + 1, ?_⟩⟩
  have hx : x = nI n := by
    rw [hx]
    have h1 : ¬ nI cap < nI n := nI_nlt hn (by omega)
    rw [if_neg h1]
    by_cases h0 : n = 0
    · rw [h0]; rfl
    · rw [if_pos (by have := nI_lt (a := 0) (b := n) (by omega) (by omega); exact this)]
  rw [hx]
  refine q5_trimL h n hn (fun k hk h1 h2 => hp _ zof_w ⟨k, f, zwd_setU h (by omega), ?_, h2⟩)
  obtain ⟨d, rfl⟩ : ∃ d, n = k + d := ⟨n - k, by omega⟩
  exact zs_up d (fun j h3 h4 => by rw [h1 j h3 h4]; rfl)
