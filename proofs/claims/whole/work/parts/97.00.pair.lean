/-! ===== BOTH SIDES IN ONE MEMORY: the class at B, the reference at B + 168, the row of one long at B + 178 ===== -/
section PR
variable {G : Nat → ClassId} {B Bm : Nat} {M0 M M1 M2 : zm_M} {S S' : zS} {t : Int32}
theorem zRC_mv {M' : zm_M} (h : zRC G B M0 M S) (hq : ∀ q, B ≤ q → q < B + 168 → M'.2 q = M.2 q) : zRC G B M' M' S := by
  obtain ⟨σ, τ, π, β, ⟨hf, hw, ho⟩, r⟩ := h
  refine ⟨σ, τ, π, β, ⟨⟨rfl, fun _ _ => rfl⟩, zCw_kept hw (fun i hi => ?_), zCo_kept ho (fun a ha => ?_) (fun q h => ?_)⟩, r⟩
  · have := zo_wl hi
    exact ⟨hq _ (by omega) (by omega), hq _ (by omega) (by omega)⟩
  · have := zo_rl ha
    exact hq _ (by omega) (by omega)
  · exact hq _ (by omega) (by omega)
theorem zRM_mv {M' : zm_M} (h : zRM G Bm M0 M S t) (hq : ∀ q, Bm ≤ q → q < Bm + 10 → M'.2 q = M.2 q) : zRM G Bm M' M' S t := by
  obtain ⟨ι, α, K, ρ, ⟨g, n, ⟨h0, h1, h2, h3, h4, h5, h6, h7, h8, h9, h10⟩, hz⟩, r, ht⟩ := h
  have e : ∀ k, k < 10 → M'.2 (Bm + k) = M.2 (Bm + k) := fun k hk => hq _ (by omega) (by omega)
  exact ⟨ι, α, K, ρ, ⟨g, n, ⟨⟨rfl, fun _ _ => rfl⟩, (hq _ (by omega) (by omega)).trans h1, (e 1 (by decide)).trans h2, (e 2 (by decide)).trans h3, (e 3 (by decide)).trans h4, (e 4 (by decide)).trans h5, (e 5 (by decide)).trans h6, (e 6 (by decide)).trans h7, (e 7 (by decide)).trans h8, (e 8 (by decide)).trans h9, (e 9 (by decide)).trans h10⟩, hz⟩, r, ht⟩
theorem zRC_fr (h : zRC G B M0 M S) : M.1 = M0.1 ∧ ∀ q, (q < B ∨ B + 168 ≤ q) → M.2 q = M0.2 q := by
  obtain ⟨σ, τ, π, β, ⟨hf, -, -⟩, -⟩ := h
  exact hf
theorem zRM_fr (h : zRM G Bm M0 M S t) : M.1 = M0.1 ∧ ∀ q, (q < Bm ∨ Bm + 10 ≤ q) → M.2 q = M0.2 q := by
  obtain ⟨ι, α, K, ρ, ⟨g, n, ⟨h0, -⟩, -⟩, -, -⟩ := h
  exact h0
theorem zRC_ob (h : zRC G B M0 M S) : zw_ob M B 9 := by
  obtain ⟨σ, τ, π, β, h, -⟩ := h
  exact zC_xo h
theorem zRM_ob (h : zRM G Bm M0 M S t) : zw_ob M Bm 10 := by
  obtain ⟨ι, α, K, ρ, h, -, -⟩ := h
  exact zP_o h
theorem m7_thrown {post : Int32 → zm_M → Prop} (h : zRM G Bm M0 M S t) (hp : post t M) : pX7_thrown G Bm post M := by
  obtain ⟨ι, α, K, ρ, h, -, ht⟩ := h
  unfold pX7_thrown
  exact r7_g0 h (by rw [ht]; exact hp)
def zLw (G : Nat → ClassId) (B : Nat) (M : zm_M) (S : zS) : Prop := zRC G B M M S ∧ (∃ t, zRM G (B + 168) M M S t) ∧ ∃ f : Nat → Int64, M.2 (B + 178) = some (.inl (G 3, (1, .inr (.inl f))))
theorem zLw_1 (h : zLw G B M S) (h1 : zRC G B M M1 S') : ∃ t, zRM G (B + 168) M1 M1 S t := by
  obtain ⟨-, ⟨t, h2⟩, -⟩ := h
  exact ⟨t, zRM_mv h2 (fun q q1 q2 => (zRC_fr h1).2 q (by omega))⟩
theorem zLw_2 (h : zLw G B M S) (h1 : zRC G B M M1 S') (h2 : zRM G (B + 168) M1 M2 S' t) : zLw G B M2 S' := by
  obtain ⟨-, -, f, h3⟩ := h
  exact ⟨zRC_mv h1 (fun q q1 q2 => (zRM_fr h2).2 q (by omega)), ⟨t, zRM_mv h2 (fun _ _ _ => rfl)⟩, f, ((zRM_fr h2).2 _ (by omega)).trans (((zRC_fr h1).2 _ (by omega)).trans h3)⟩
/-- behind a helper of the law: what the class has done, told or thrown -/
def zLh (G : Nat → ClassId) (B : Nat) (M : zm_M) (S S' : zS) (o : Option Int64) (r : Int32) : Prop := r = zth o ∧ zRC G B M M S' ∧ (∃ t, zRM G (B + 168) M M S t) ∧ ∃ f : Nat → Int64, M.2 (B + 178) = some (.inl (G 3, (1, .inr (.inl f)))) ∧ ∀ v, o = some v → f 0 = v
theorem zLh_o (h : zLw G B M S) {v : Int64} (h1 : zRC G B M M1 S') : zw_sl (G 3) M1 (B + 178) (0 : Int32) v (fun M2 => zLh G B M2 S S' (some v) (0 : Int32)) := by
  obtain ⟨t, h2⟩ := zLw_1 h h1
  obtain ⟨-, -, f, h3⟩ := h
  refine ⟨1, f, ((zRC_fr h1).2 _ (by omega)).trans h3, vp_in_nI (n := 0) (N := 1) (by decide) (by decide), rfl, zRC_mv h1 (fun q q1 q2 => zm_set_n _ _ (by omega)), ⟨t, zRM_mv h2 (fun q q1 q2 => zm_set_n _ _ (by omega))⟩, _, zm_set_s _ _ _, fun v' e => ?_⟩
  rw [← Option.some.inj e]
  exact pk_uLs
theorem zLh_x (h : zLw G B M S) (h1 : zRC G B M M1 S') : ∀ k : Nat, M1.1 ≤ k → zLh G B (k, M1.2) S S' none (1 : Int32) := by
  intro k _
  obtain ⟨t, h2⟩ := zLw_1 h h1
  obtain ⟨-, -, f, h3⟩ := h
  exact ⟨rfl, zRC_mv h1 (fun _ _ _ => rfl), ⟨t, zRM_mv h2 (fun _ _ _ => rfl)⟩, f, ((zRC_fr h1).2 _ (by omega)).trans h3, fun v e => nomatch e⟩
theorem zLh_2 {o : Option Int64} {r : Int32} (h : zLh G B M1 S S' o r) (h2 : zRM G (B + 168) M1 M2 S' t) : zLw G B M2 S' ∧ ∃ f : Nat → Int64, M2.2 (B + 178) = some (.inl (G 3, (1, .inr (.inl f)))) ∧ ∀ v, o = some v → f 0 = v := by
  obtain ⟨-, h1, -, f, h3, h4⟩ := h
  have e : M2.2 (B + 178) = some (.inl (G 3, (1, .inr (.inl f)))) := ((zRM_fr h2).2 _ (by omega)).trans h3
  exact ⟨⟨zRC_mv h1 (fun q q1 q2 => (zRM_fr h2).2 q (by omega)), ⟨t, zRM_mv h2 (fun _ _ _ => rfl)⟩, f, e⟩, f, e, h4⟩
/-- the class's call with its two ends, in a form that the helpers take -/
theorem zLh_i (h : zLw G B M S) {o : Option Int32} : (∀ v, o = some v → ∀ M', zRC G B M M' S' → zw_sl (G 3) M' (B + 178) (0 : Int32) v.toInt64 (fun M2 => zLh G B M2 S S' (o.map Int32.toInt64) (0 : Int32))) ∧ (o = none → ∀ M', zRC G B M M' S' → ∀ k : Nat, M'.1 ≤ k → zLh G B (k, M'.2) S S' (o.map Int32.toInt64) (1 : Int32)) := by
  refine ⟨fun v e M' h1 => ?_, fun e M' h1 => ?_⟩
  · rw [e]; exact zLh_o h h1
  · rw [e]; exact zLh_x h h1
theorem zLh_l (h : zLw G B M S) {o : Option Int64} : (∀ v, o = some v → ∀ M', zRC G B M M' S' → zw_sl (G 3) M' (B + 178) (0 : Int32) v (fun M2 => zLh G B M2 S S' o (0 : Int32))) ∧ (o = none → ∀ M', zRC G B M M' S' → ∀ k : Nat, M'.1 ≤ k → zLh G B (k, M'.2) S S' o (1 : Int32)) := by
  refine ⟨fun v e M' h1 => ?_, fun e M' h1 => ?_⟩
  · rw [e]; exact zLh_o h h1
  · rw [e]; exact zLh_x h h1
theorem zth_m {o : Option Int32} : zth (o.map Int32.toInt64) = zth o := by cases o <;> rfl
theorem zth_0 {A : Type} {o : Option A} (h : zth o = 0) : ∃ v, o = some v := by
  cases o with
  | none => exact absurd (show (1 : Int32) = 0 from h) (by decide)
  | some v => exact ⟨v, rfl⟩
end PR
