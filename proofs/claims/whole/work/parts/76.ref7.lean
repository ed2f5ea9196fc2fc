/-! ===== THE REFERENCE: what it keeps ===== -/
def zkN (K : Nat → Int64) (z : Nat → Int32) (p v : Nat) : Prop := ∃ u, z p = nI u ∧ u ≤ 16 ∧ (∀ i, i < u → uN (K (16 * p + i)) < 4294967296) ∧ v = zs (fun i => uN (K (16 * p + i))) u ∧ (0 < u → uN (K (16 * p + (u - 1))) ≠ 0)
def zRn (ι : Nat → Int32) (α : Nat → Nat → Int32) (K : Nat → Int64) (S : zS) : Prop := (∀ a, a < 24 → α 1 a = if sT S a = true then 1 else 0) ∧ (∀ a, a < 24 → sT S a = true → α 2 a = sS S a ∧ zkN K (α 4) (2 * a) (sN S a) ∧ zkN K (α 4) (2 * a + 1) (sD S a)) ∧ (ι 6 = nI (sL S) ∧ sL S ≤ 400 ∧ ∀ j, j < sL S → α 5 j = nI (st S j) ∧ st S j < 256) ∧ (ι 8 = nI (sO S).length ∧ (sO S).length ≤ 800 ∧ ∀ j b, (sO S)[j]? = some b → α 6 j = nI b) ∧ zI S
def zRM (G : Nat → ClassId) (Bm : Nat) (M0 M : zm_M) (S : zS) (t : Int32) : Prop := ∃ ι α K ρ, zP G Bm M0 M ι α K ρ ∧ zRn ι α K S ∧ ι 0 = t
theorem zRn_ι {ι ι' : Nat → Int32} {α : Nat → Nat → Int32} {K : Nat → Int64} {S : zS} (h : zRn ι α K S) (e6 : ι' 6 = ι 6) (e8 : ι' 8 = ι 8) : zRn ι' α K S := ⟨h.1, h.2.1, ⟨e6.trans h.2.2.1.1, h.2.2.1.2⟩, ⟨e8.trans h.2.2.2.1.1, h.2.2.2.1.2⟩, h.2.2.2.2⟩
theorem zkN_k {K K' : Nat → Int64} {z z' : Nat → Int32} {p v : Nat} (h : zkN K z p v) (hz : z' p = z p) (hK : ∀ i, i < 16 → K' (16 * p + i) = K (16 * p + i)) : zkN K' z' p v := by
  obtain ⟨u, h1, h2, h3, h4, h5⟩ := h
  refine ⟨u, hz.trans h1, h2, fun i hi => ?_, ?_, fun hu => ?_⟩
  · rw [hK i (by omega)]; exact h3 i hi
  · rw [h4]; exact zs_congr (fun i hi => by rw [hK i (by omega)])
  · rw [hK _ (by omega)]; exact h5 hu
theorem zix2 (a p : Nat) : (2 : Int32) * nI a + nI p = nI (2 * a + p) := by
  show Int32.ofNat 2 * Int32.ofNat a + Int32.ofNat p = Int32.ofNat (2 * a + p)
  rw [← Int32.ofNat_mul, ← Int32.ofNat_add]
theorem z16 (p k : Nat) : (16 : Int32) * nI p + nI k = nI (16 * p + k) := by
  show Int32.ofNat 16 * Int32.ofNat p + Int32.ofNat k = Int32.ofNat (16 * p + k)
  rw [← Int32.ofNat_mul, ← Int32.ofNat_add]
theorem z160 (p : Nat) : (16 : Int32) * nI p = nI (16 * p) := by
  show Int32.ofNat 16 * Int32.ofNat p = Int32.ofNat (16 * p)
  rw [← Int32.ofNat_mul]
section R77
variable {G : Nat → ClassId} {Bm : Nat} {M0 M : zm_M} {ι : Nat → Int32} {α : Nat → Nat → Int32} {K g : Nat → Int64} {n : Nat → Int32} {ρ : Nat → Nat} {S : zS}
/-! cells of the object -/
theorem zN_p0 (h : zN G Bm M0 M ι α K g n) (x : Int32) {P : zm_M → Prop} (hp : ∀ M', zN G Bm M0 M' (upd ι 0 x) α K g n → P M') : zw_p M Bm 10 0 (.int x) P := by
  obtain ⟨⟨h0, h0'⟩, h1, h2, h3, h4, h5, h6, h7, h8, h9, h10⟩ := h
  refine ⟨_, h1, (show 0 < 14 by decide), hp _ ⟨⟨h0, fun q hq => ?_⟩, zm_set_s _ _ _, ?_, ?_, ?_, ?_, ?_, ?_, ?_, ?_, ?_⟩⟩
  · rw [zm_set_n _ _ (by omega)]; exact h0' q hq
  all_goals (rw [zm_set_n _ _ (by omega)]; assumption)
theorem zN_p6 (h : zN G Bm M0 M ι α K g n) (x : Int32) {P : zm_M → Prop} (hp : ∀ M', zN G Bm M0 M' (upd ι 6 x) α K g n → P M') : zw_p M Bm 10 6 (.int x) P := by
  obtain ⟨⟨h0, h0'⟩, h1, h2, h3, h4, h5, h6, h7, h8, h9, h10⟩ := h
  refine ⟨_, h1, (show 6 < 14 by decide), hp _ ⟨⟨h0, fun q hq => ?_⟩, zm_set_s _ _ _, ?_, ?_, ?_, ?_, ?_, ?_, ?_, ?_, ?_⟩⟩
  · rw [zm_set_n _ _ (by omega)]; exact h0' q hq
  all_goals (rw [zm_set_n _ _ (by omega)]; assumption)
theorem zN_p8 (h : zN G Bm M0 M ι α K g n) (x : Int32) {P : zm_M → Prop} (hp : ∀ M', zN G Bm M0 M' (upd ι 8 x) α K g n → P M') : zw_p M Bm 10 8 (.int x) P := by
  obtain ⟨⟨h0, h0'⟩, h1, h2, h3, h4, h5, h6, h7, h8, h9, h10⟩ := h
  refine ⟨_, h1, (show 8 < 14 by decide), hp _ ⟨⟨h0, fun q hq => ?_⟩, zm_set_s _ _ _, ?_, ?_, ?_, ?_, ?_, ?_, ?_, ?_, ?_⟩⟩
  · rw [zm_set_n _ _ (by omega)]; exact h0' q hq
  all_goals (rw [zm_set_n _ _ (by omega)]; assumption)
theorem zN_p11 (h : zN G Bm M0 M ι α K g n) (x : Int32) {P : zm_M → Prop} (hp : ∀ M', zN G Bm M0 M' (upd ι 11 x) α K g n → P M') : zw_p M Bm 10 11 (.int x) P := by
  obtain ⟨⟨h0, h0'⟩, h1, h2, h3, h4, h5, h6, h7, h8, h9, h10⟩ := h
  refine ⟨_, h1, (show 11 < 14 by decide), hp _ ⟨⟨h0, fun q hq => ?_⟩, zm_set_s _ _ _, ?_, ?_, ?_, ?_, ?_, ?_, ?_, ?_, ?_⟩⟩
  · rw [zm_set_n _ _ (by omega)]; exact h0' q hq
  all_goals (rw [zm_set_n _ _ (by omega)]; assumption)
theorem zN_p12 (h : zN G Bm M0 M ι α K g n) (x : Int32) {P : zm_M → Prop} (hp : ∀ M', zN G Bm M0 M' (upd ι 12 x) α K g n → P M') : zw_p M Bm 10 12 (.int x) P := by
  obtain ⟨⟨h0, h0'⟩, h1, h2, h3, h4, h5, h6, h7, h8, h9, h10⟩ := h
  refine ⟨_, h1, (show 12 < 14 by decide), hp _ ⟨⟨h0, fun q hq => ?_⟩, zm_set_s _ _ _, ?_, ?_, ?_, ?_, ?_, ?_, ?_, ?_, ?_⟩⟩
  · rw [zm_set_n _ _ (by omega)]; exact h0' q hq
  all_goals (rw [zm_set_n _ _ (by omega)]; assumption)
theorem zN_a1 (h : zN G Bm M0 M ι α K g n) (f : Nat → Int32) : zN G Bm M0 (zm_set M (Bm + 1) (.inl (G 1, (24, .inl f)))) ι (ub α 1 f) K g n := by
  obtain ⟨⟨h0, h0'⟩, h1, h2, h3, h4, h5, h6, h7, h8, h9, h10⟩ := h
  refine ⟨⟨h0, fun q hq => ?_⟩, ?_, zm_set_s _ _ _, ?_, ?_, ?_, ?_, ?_, ?_, ?_, ?_⟩
  · rw [zm_set_n _ _ (by omega)]; exact h0' q hq
  all_goals (rw [zm_set_n _ _ (by omega)]; assumption)
theorem zN_a2 (h : zN G Bm M0 M ι α K g n) (f : Nat → Int32) : zN G Bm M0 (zm_set M (Bm + 2) (.inl (G 0, (24, .inl f)))) ι (ub α 2 f) K g n := by
  obtain ⟨⟨h0, h0'⟩, h1, h2, h3, h4, h5, h6, h7, h8, h9, h10⟩ := h
  refine ⟨⟨h0, fun q hq => ?_⟩, ?_, ?_, zm_set_s _ _ _, ?_, ?_, ?_, ?_, ?_, ?_, ?_⟩
  · rw [zm_set_n _ _ (by omega)]; exact h0' q hq
  all_goals (rw [zm_set_n _ _ (by omega)]; assumption)
theorem zN_K (h : zN G Bm M0 M ι α K g n) (f : Nat → Int64) : zN G Bm M0 (zm_set M (Bm + 3) (.inl (G 3, (768, .inr (.inl f))))) ι α f g n := by
  obtain ⟨⟨h0, h0'⟩, h1, h2, h3, h4, h5, h6, h7, h8, h9, h10⟩ := h
  refine ⟨⟨h0, fun q hq => ?_⟩, ?_, ?_, ?_, zm_set_s _ _ _, ?_, ?_, ?_, ?_, ?_, ?_⟩
  · rw [zm_set_n _ _ (by omega)]; exact h0' q hq
  all_goals (rw [zm_set_n _ _ (by omega)]; assumption)
theorem zN_a4 (h : zN G Bm M0 M ι α K g n) (f : Nat → Int32) : zN G Bm M0 (zm_set M (Bm + 4) (.inl (G 0, (48, .inl f)))) ι (ub α 4 f) K g n := by
  obtain ⟨⟨h0, h0'⟩, h1, h2, h3, h4, h5, h6, h7, h8, h9, h10⟩ := h
  refine ⟨⟨h0, fun q hq => ?_⟩, ?_, ?_, ?_, ?_, zm_set_s _ _ _, ?_, ?_, ?_, ?_, ?_⟩
  · rw [zm_set_n _ _ (by omega)]; exact h0' q hq
  all_goals (rw [zm_set_n _ _ (by omega)]; assumption)
theorem zN_a5 (h : zN G Bm M0 M ι α K g n) (f : Nat → Int32) : zN G Bm M0 (zm_set M (Bm + 5) (.inl (G 0, (400, .inl f)))) ι (ub α 5 f) K g n := by
  obtain ⟨⟨h0, h0'⟩, h1, h2, h3, h4, h5, h6, h7, h8, h9, h10⟩ := h
  refine ⟨⟨h0, fun q hq => ?_⟩, ?_, ?_, ?_, ?_, ?_, zm_set_s _ _ _, ?_, ?_, ?_, ?_⟩
  · rw [zm_set_n _ _ (by omega)]; exact h0' q hq
  all_goals (rw [zm_set_n _ _ (by omega)]; assumption)
theorem zN_a6 (h : zN G Bm M0 M ι α K g n) (f : Nat → Int32) : zN G Bm M0 (zm_set M (Bm + 6) (.inl (G 0, (800, .inl f)))) ι (ub α 6 f) K g n := by
  obtain ⟨⟨h0, h0'⟩, h1, h2, h3, h4, h5, h6, h7, h8, h9, h10⟩ := h
  refine ⟨⟨h0, fun q hq => ?_⟩, ?_, ?_, ?_, ?_, ?_, ?_, zm_set_s _ _ _, ?_, ?_, ?_⟩
  · rw [zm_set_n _ _ (by omega)]; exact h0' q hq
  all_goals (rw [zm_set_n _ _ (by omega)]; assumption)
theorem zN_a9 (h : zN G Bm M0 M ι α K g n) (f : Nat → Int32) : zN G Bm M0 (zm_set M (Bm + 9) (.inl (G 0, (400, .inl f)))) ι (ub α 9 f) K g n := by
  obtain ⟨⟨h0, h0'⟩, h1, h2, h3, h4, h5, h6, h7, h8, h9, h10⟩ := h
  refine ⟨⟨h0, fun q hq => ?_⟩, ?_, ?_, ?_, ?_, ?_, ?_, ?_, ?_, ?_, zm_set_s _ _ _⟩
  · rw [zm_set_n _ _ (by omega)]; exact h0' q hq
  all_goals (rw [zm_set_n _ _ (by omega)]; assumption)
theorem r7_thr (h : zP G Bm M0 M ι α K ρ) {x : Int32} {P : zm_M → Prop} (hp : ∀ M', zP G Bm M0 M' (upd ι 0 x) α K ρ → P M') : zw_p M Bm 10 0 (.int x) P := by
  obtain ⟨g, n, k, hv⟩ := h
  exact zN_p0 k x (fun M' k' => hp M' ⟨g, n, k', hv⟩)
theorem r7_p6 (h : zP G Bm M0 M ι α K ρ) {x : Int32} {P : zm_M → Prop} (hp : ∀ M', zP G Bm M0 M' (upd ι 6 x) α K ρ → P M') : zw_p M Bm 10 6 (.int x) P := by
  obtain ⟨g, n, k, hv⟩ := h
  exact zN_p6 k x (fun M' k' => hp M' ⟨g, n, k', hv⟩)
theorem r7_p8 (h : zP G Bm M0 M ι α K ρ) {x : Int32} {P : zm_M → Prop} (hp : ∀ M', zP G Bm M0 M' (upd ι 8 x) α K ρ → P M') : zw_p M Bm 10 8 (.int x) P := by
  obtain ⟨g, n, k, hv⟩ := h
  exact zN_p8 k x (fun M' k' => hp M' ⟨g, n, k', hv⟩)
theorem r7_p11 (h : zP G Bm M0 M ι α K ρ) {x : Int32} {P : zm_M → Prop} (hp : ∀ M', zP G Bm M0 M' (upd ι 11 x) α K ρ → P M') : zw_p M Bm 10 11 (.int x) P := by
  obtain ⟨g, n, k, hv⟩ := h
  exact zN_p11 k x (fun M' k' => hp M' ⟨g, n, k', hv⟩)
theorem r7_p12 (h : zP G Bm M0 M ι α K ρ) {x : Int32} {P : zm_M → Prop} (hp : ∀ M', zP G Bm M0 M' (upd ι 12 x) α K ρ → P M') : zw_p M Bm 10 12 (.int x) P := by
  obtain ⟨g, n, k, hv⟩ := h
  exact zN_p12 k x (fun M' k' => hp M' ⟨g, n, k', hv⟩)
theorem r7_g0 (h : zP G Bm M0 M ι α K ρ) {P : Int32 → Prop} (hp : P (ι 0)) : zw_gi M Bm 10 0 P := by
  obtain ⟨g, n, k, hv⟩ := h
  exact ⟨_, _, k.2.1, rfl, hp⟩
theorem r7_g6 (h : zP G Bm M0 M ι α K ρ) {P : Int32 → Prop} (hp : P (ι 6)) : zw_gi M Bm 10 6 P := by
  obtain ⟨g, n, k, hv⟩ := h
  exact ⟨_, _, k.2.1, rfl, hp⟩
theorem r7_g8 (h : zP G Bm M0 M ι α K ρ) {P : Int32 → Prop} (hp : P (ι 8)) : zw_gi M Bm 10 8 P := by
  obtain ⟨g, n, k, hv⟩ := h
  exact ⟨_, _, k.2.1, rfl, hp⟩
theorem r7_g11 (h : zP G Bm M0 M ι α K ρ) {P : Int32 → Prop} (hp : P (ι 11)) : zw_gi M Bm 10 11 P := by
  obtain ⟨g, n, k, hv⟩ := h
  exact ⟨_, _, k.2.1, rfl, hp⟩
theorem r7_g12 (h : zP G Bm M0 M ι α K ρ) {P : Int32 → Prop} (hp : P (ι 12)) : zw_gi M Bm 10 12 P := by
  obtain ⟨g, n, k, hv⟩ := h
  exact ⟨_, _, k.2.1, rfl, hp⟩
/-! reads -/
theorem r7_there (h : zP G Bm M0 M ι α K ρ) {i : Int32} {a : Nat} (e : i = nI a) (ha : a < 24) {P : Int32 → Prop} (hp : P (α 1 a)) : zw_ga M Bm 10 1 (fun b => zw_li (G 1) M b i P) := by
  obtain ⟨g, n, k, hv⟩ := h
  subst e
  exact ⟨_, _, k.2.1, rfl, _, _, k.2.2.1, vp_in_nI ha (by decide), by rw [nI_clamp (by omega)]; exact hp⟩
theorem r7_sign (h : zP G Bm M0 M ι α K ρ) {i : Int32} {a : Nat} (e : i = nI a) (ha : a < 24) {P : Int32 → Prop} (hp : P (α 2 a)) : zw_ga M Bm 10 2 (fun b => zw_li (G 0) M b i P) := by
  obtain ⟨g, n, k, hv⟩ := h
  subst e
  exact ⟨_, _, k.2.1, rfl, _, _, k.2.2.2.1, vp_in_nI ha (by decide), by rw [nI_clamp (by omega)]; exact hp⟩
theorem r7_kL (h : zP G Bm M0 M ι α K ρ) {i : Int32} {a : Nat} (e : i = nI a) (ha : a < 768) {P : Int64 → Prop} (hp : P (K a)) : zw_ga M Bm 10 3 (fun b => zw_ll (G 3) M b i P) := by
  obtain ⟨g, n, k, hv⟩ := h
  subst e
  exact ⟨_, _, k.2.1, rfl, _, _, k.2.2.2.2.1, vp_in_nI ha (by decide), by rw [nI_clamp (by omega)]; exact hp⟩
theorem r7_kS (h : zP G Bm M0 M ι α K ρ) {i : Int32} {a : Nat} (e : i = nI a) (ha : a < 48) {P : Int32 → Prop} (hp : P (α 4 a)) : zw_ga M Bm 10 4 (fun b => zw_li (G 0) M b i P) := by
  obtain ⟨g, n, k, hv⟩ := h
  subst e
  exact ⟨_, _, k.2.1, rfl, _, _, k.2.2.2.2.2.1, vp_in_nI ha (by decide), by rw [nI_clamp (by omega)]; exact hp⟩
theorem r7_tape (h : zP G Bm M0 M ι α K ρ) {i : Int32} {a : Nat} (e : i = nI a) (ha : a < 400) {P : Int32 → Prop} (hp : P (α 5 a)) : zw_ga M Bm 10 5 (fun b => zw_li (G 0) M b i P) := by
  obtain ⟨g, n, k, hv⟩ := h
  subst e
  exact ⟨_, _, k.2.1, rfl, _, _, k.2.2.2.2.2.2.1, vp_in_nI ha (by decide), by rw [nI_clamp (by omega)]; exact hp⟩
theorem r7_out' (h : zP G Bm M0 M ι α K ρ) {i : Int32} {a : Nat} (e : i = nI a) (ha : a < 800) {P : Int32 → Prop} (hp : P (α 6 a)) : zw_ga M Bm 10 7 (fun b => zw_li (G 0) M b i P) := by
  obtain ⟨g, n, k, hv⟩ := h
  subst e
  exact ⟨_, _, k.2.1, rfl, _, _, k.2.2.2.2.2.2.2.1, vp_in_nI ha (by decide), by rw [nI_clamp (by omega)]; exact hp⟩
theorem r7_fig (h : zP G Bm M0 M ι α K ρ) {i : Int32} {a : Nat} (e : i = nI a) (ha : a < 400) {P : Int32 → Prop} (hp : P (α 9 a)) : zw_ga M Bm 10 13 (fun b => zw_li (G 0) M b i P) := by
  obtain ⟨g, n, k, hv⟩ := h
  subst e
  exact ⟨_, _, k.2.1, rfl, _, _, k.2.2.2.2.2.2.2.2.2.2, vp_in_nI ha (by decide), by rw [nI_clamp (by omega)]; exact hp⟩
/-! writes -/
theorem r7_Wthere (h : zP G Bm M0 M ι α K ρ) {i : Int32} {a : Nat} (e : i = nI a) (ha : a < 24) {x : Int32} {P : zm_M → Prop} (hp : ∀ M', zP G Bm M0 M' ι (ub α 1 (upd (α 1) a x)) K ρ → P M') : zw_ga M Bm 10 1 (fun b => zw_si (G 1) M b i x P) := by
  obtain ⟨g, n, k, hv⟩ := h
  subst e
  exact ⟨_, _, k.2.1, rfl, _, _, k.2.2.1, vp_in_nI ha (by decide), by rw [nI_clamp (by omega)]; exact hp _ ⟨g, n, zN_a1 k _, hv⟩⟩
theorem r7_Wsign (h : zP G Bm M0 M ι α K ρ) {i : Int32} {a : Nat} (e : i = nI a) (ha : a < 24) {x : Int32} {P : zm_M → Prop} (hp : ∀ M', zP G Bm M0 M' ι (ub α 2 (upd (α 2) a x)) K ρ → P M') : zw_si (G 0) M (Bm + 2) i x P := by
  obtain ⟨g, n, k, hv⟩ := h
  subst e
  exact ⟨_, _, k.2.2.2.1, vp_in_nI ha (by decide), by rw [nI_clamp (by omega)]; exact hp _ ⟨g, n, zN_a2 k _, hv⟩⟩
theorem r7_Wtape (h : zP G Bm M0 M ι α K ρ) {i : Int32} {a : Nat} (e : i = nI a) (ha : a < 400) {x : Int32} {P : zm_M → Prop} (hp : ∀ M', zP G Bm M0 M' ι (ub α 5 (upd (α 5) a x)) K ρ → P M') : zw_si (G 0) M (Bm + 5) i x P := by
  obtain ⟨g, n, k, hv⟩ := h
  subst e
  exact ⟨_, _, k.2.2.2.2.2.2.1, vp_in_nI ha (by decide), by rw [nI_clamp (by omega)]; exact hp _ ⟨g, n, zN_a5 k _, hv⟩⟩
theorem r7_Wout (h : zP G Bm M0 M ι α K ρ) {i : Int32} {a : Nat} (e : i = nI a) (ha : a < 800) {x : Int32} {P : zm_M → Prop} (hp : ∀ M', zP G Bm M0 M' ι (ub α 6 (upd (α 6) a x)) K ρ → P M') : zw_si (G 0) M (Bm + 6) i x P := by
  obtain ⟨g, n, k, hv⟩ := h
  subst e
  exact ⟨_, _, k.2.2.2.2.2.2.2.1, vp_in_nI ha (by decide), by rw [nI_clamp (by omega)]; exact hp _ ⟨g, n, zN_a6 k _, hv⟩⟩
theorem r7_Wfig (h : zP G Bm M0 M ι α K ρ) {i : Int32} {a : Nat} (e : i = nI a) (ha : a < 400) {x : Int32} {P : zm_M → Prop} (hp : ∀ M', zP G Bm M0 M' ι (ub α 9 (upd (α 9) a x)) K ρ → P M') : zw_si (G 0) M (Bm + 9) i x P := by
  obtain ⟨g, n, k, hv⟩ := h
  subst e
  exact ⟨_, _, k.2.2.2.2.2.2.2.2.2.2, vp_in_nI ha (by decide), by rw [nI_clamp (by omega)]; exact hp _ ⟨g, n, zN_a9 k _, hv⟩⟩
theorem r7_ga (h : zP G Bm M0 M ι α K ρ) (k : Nat) {b : Nat} (e : (k, b) ∈ [(1, 1), (2, 2), (3, 3), (4, 4), (5, 5), (7, 6), (9, 7), (10, 8), (13, 9)]) {P : Nat → Prop} (hp : P (Bm + b)) : zw_ga M Bm 10 k P := by
  obtain ⟨g, n, h, hv⟩ := h
  refine ⟨_, Bm + b, h.2.1, ?_, hp⟩
  simp only [List.mem_cons, Prod.mk.injEq, List.mem_nil_iff, or_false] at e
  rcases e with e | e | e | e | e | e | e | e | e <;> (obtain ⟨rfl, rfl⟩ := e; rfl)
/-! take -/
theorem q7_takeL {post : zm_M → Prop} {r a p u : Nat} {g0 : Nat → Int64} (hr : r < 24) (ha : a < 24) (hpp : p < 2) (hn : n r = nI u) (hu : u ≤ 16) (hp : ∀ (M' : zm_M) (g' : Nat → Int64), zN G Bm M0 M' ι α K g' n → zfm r g0 g' n n → (∀ i, i < u → g' (72 * r + i) = K (16 * (2 * a + p) + i)) → post M') : ∀ (d k : Nat) (M : zm_M) (g : Nat → Int64), k + d = u → zN G Bm M0 M ι α K g n → zfm r g0 g n n → (∀ i, i < k → g (72 * r + i) = K (16 * (2 * a + p) + i)) → pX7_take_19 G post (d + 1) Bm (nI r) (nI a) (nI p) (nI k) M
  | 0, k, M, g, hk, h, hf, h1 => by
    rw [pX7_take_19]
    refine nA h (nR h hr ?_)
    rw [hn]
    exact ⟨fun _ => hp M g h hf (fun i hi => h1 i (by omega)), fun y => absurd ((nI_leI (by omega) (by omega)).mpr (by omega)) y⟩
  | d + 1, k, M, g, hk, h, hf, h1 => by
    rw [pX7_take_19]
    refine nA h (nR h hr ?_)
    rw [hn]
    refine ⟨fun y => absurd ((nI_leI (by omega) (by omega)).mp y) (by omega), fun _ => gA h ⟨_, _, h.2.1, rfl, ?_⟩⟩
    rw [zix2, z16]
    refine ⟨_, _, h.2.2.2.2.1, vp_in_nI (by omega) (by decide), ?_⟩
    rw [nI_clamp (by omega)]
    refine gW h (z72 r k) (by omega) (fun M2 k2 x e => ?_)
    rw [e, nI_1]
    refine q7_takeL hr ha hpp hn hu hp d (k + 1) M2 _ (by omega) k2 (zfm_t hf (zfm_g (by omega))) (fun i hi => ?_)
    by_cases c : i = k
    · rw [c, pk_uLs]
    · rw [pk_uLn (by omega)]; exact h1 i (by omega)
theorem r7_take {post : zm_M → Prop} (h : zP G Bm M0 M ι α K ρ) (r a p : Nat) {v : Nat} (hz : zkN K (α 4) (2 * a + p) v) (hp : ∀ M', zP G Bm M0 M' ι α K (rgu ρ r v) → post M') (ha : a < 24) (hpp : p < 2 := by decide) (hr : r < 24 := by decide) : pX7_take G Bm (nI r) (nI a) (nI p) post M := by
  obtain ⟨g, n, k, hv⟩ := h
  obtain ⟨u, z1, z2, z3, z4, z5⟩ := hz
  unfold pX7_take
  refine nA k ⟨_, _, k.2.1, rfl, ?_⟩
  rw [zix2]
  refine ⟨_, _, k.2.2.2.2.2.1, vp_in_nI (by omega) (by decide), ?_⟩
  rw [nI_clamp (by omega), z1]
  refine nW k hr (fun M1 k1 x5 e5 => ⟨u + 1, ?_⟩)
  rw [e5]
  refine q7_takeL (g0 := g) hr ha hpp pk_us z2 (fun M2 g2 k2 f2 d2 => hp M2 (zP_m hv k2 (zfm_t zfm_n f2) ⟨u, pk_us, by omega, fun i hi => ?_, ?_, fun hu => ?_⟩)) u 0 M1 g (by omega) k1 zfm_rf (fun i hi => absurd hi (by omega))
  · unfold dgt; rw [d2 i hi]; exact z3 i hi
  · rw [z4]; exact zs_congr (fun i hi => by unfold dgt; rw [d2 i hi])
  · unfold dgt; rw [d2 _ (by omega)]; exact z5 hu
theorem zRn_a (r : zRn ι α K S) {a : Nat} (ha : a < 24) (ht : sT S a = true) : α 2 a = sS S a ∧ zkN K (α 4) (2 * a + 0) (sN S a) ∧ zkN K (α 4) (2 * a + 1) (sD S a) ∧ zgd (sS S a) (sN S a) (sD S a) := ⟨(r.2.1 a ha ht).1, (r.2.1 a ha ht).2.1, (r.2.1 a ha ht).2.2, r.2.2.2.2 a ha ht⟩
theorem r7_takeN {post : zm_M → Prop} (h : zP G Bm M0 M ι α K ρ) (rr : zRn ι α K S) (r a : Nat) (ha : a < 24) (ht : sT S a = true) (hp : ∀ M', zP G Bm M0 M' ι α K (rgu ρ r (sN S a)) → post M') (hr : r < 24 := by decide) : pX7_take G Bm (nI r) (nI a) (nI 0) post M := r7_take h r a 0 (zRn_a rr ha ht).2.1 hp ha (by decide) hr
theorem r7_takeD {post : zm_M → Prop} (h : zP G Bm M0 M ι α K ρ) (rr : zRn ι α K S) (r a : Nat) (ha : a < 24) (ht : sT S a = true) (hp : ∀ M', zP G Bm M0 M' ι α K (rgu ρ r (sD S a)) → post M') (hr : r < 24 := by decide) : pX7_take G Bm (nI r) (nI a) (nI 1) post M := r7_take h r a 1 (zRn_a rr ha ht).2.2.1 hp ha (by decide) hr
/-! in, isNumber, free, many, isWhole -/
theorem i64_of32 (x : Int32) : x.toInt64.toInt = x.toInt := Int32.toInt_toInt64 x
theorem r7_in {post : Int32 → zm_M → Prop} {x : Int64} {lo hi : Int64} (hp : post (if lo.toInt ≤ x.toInt ∧ x.toInt ≤ hi.toInt then 1 else 0) M) : pX7_in G x lo hi post M := by
  unfold pX7_in
  refine ⟨fun y => ⟨zb_0, ?_⟩, fun y => ⟨fun z => ⟨zb_0, ?_⟩, fun z => ⟨zb_1, ?_⟩⟩⟩
  · rw [if_neg (fun c => by have := Int64.lt_iff_toInt_lt.mp y; omega)] at hp
    exact hp
  · rw [if_neg (fun c => by have := Int64.lt_iff_toInt_lt.mp z; omega)] at hp
    exact hp
  · rw [if_pos ⟨by
      rcases Int.lt_or_le x.toInt lo.toInt with c | c
      · exact absurd (Int64.lt_iff_toInt_lt.mpr c) y
      · exact c, by
      rcases Int.lt_or_le hi.toInt x.toInt with c | c
      · exact absurd (Int64.lt_iff_toInt_lt.mpr c) z
      · exact c⟩] at hp
    exact hp
theorem r7_isNumber {post : Int32 → zm_M → Prop} (h : zP G Bm M0 M ι α K ρ) (r : zRn ι α K S) {x : Int32} (h0 : zfd S x = none → post 0 M) (h1 : ∀ a, zfd S x = some a → a < 24 → sT S a = true → x = nI a → post 1 M) : pX7_isNumber G Bm x post M := by
  unfold pX7_isNumber
  refine r7_in ?_
  have e0 : (0 : Int64).toInt = 0 := rfl
  have e23 : (23 : Int64).toInt = 23 := rfl
  rw [i64_of32, e0, e23]
  by_cases c : 0 ≤ x.toInt ∧ x.toInt ≤ 23
  · rw [if_pos c]
    refine ⟨fun y => absurd y (by decide), fun _ => r7_there h (i32_n c.1) (by omega) ?_⟩
    rw [r.1 _ (by omega)]
    by_cases c2 : sT S x.toInt.toNat = true
    · rw [if_pos c2]
      have hz : zfd S x = some x.toInt.toNat := if_pos ⟨c.1, by omega, c2⟩
      exact ⟨fun y => absurd y (by decide), fun _ => ⟨zb_1, h1 _ hz (by omega) c2 (i32_n c.1)⟩⟩
    · rw [if_neg c2]
      have hz : zfd S x = none := if_neg (fun q => c2 q.2.2)
      exact ⟨fun _ => ⟨zb_0, h0 hz⟩, fun y => absurd rfl y⟩
  · rw [if_neg c]
    have hz : zfd S x = none := if_neg (fun q => c ⟨q.1, by omega⟩)
    exact ⟨fun _ => ⟨zb_0, h0 hz⟩, fun y => absurd rfl y⟩
theorem r7_freeL {post : Int32 → zm_M → Prop} (h : zP G Bm M0 M ι α K ρ) (r : zRn ι α K S) (h0 : zF S < 24 → post (nI (zF S)) M) (h1 : ¬ zF S < 24 → post (-3) M) : ∀ (d a : Nat), a + d = 24 → zfre (sT S) d a = zF S → pX7_free_2 G post (d + 1) Bm (nI a) M
  | 0, a, ha, he => by
    rw [pX7_free_2]
    have e : a = zF S := he
    have ha' : a = 24 := by omega
    exact ⟨fun _ => h1 (by omega), fun y => absurd ((nI_leI (a := 24) (by decide) (by omega)).mpr (by omega)) y⟩
  | d + 1, a, ha, he => by
    rw [pX7_free_2]
    unfold zfre at he
    refine ⟨fun y => absurd ((nI_leI (a := 24) (by decide) (by omega)).mp y) (by omega), fun _ => r7_there h rfl (by omega) ?_⟩
    rw [r.1 a (by omega)]
    by_cases c : sT S a = true
    · rw [if_pos c] at he ⊢
      refine ⟨fun _ x4 e4 => ?_, fun y => absurd y (by decide)⟩
      rw [e4, nI_1]
      exact r7_freeL h r h0 h1 d (a + 1) (by omega) he
    · rw [if_neg c] at he ⊢
      refine ⟨fun y => absurd rfl y, fun _ => ?_⟩
      have hz : a = zF S := he
      rw [hz]
      exact h0 (by omega)
theorem r7_free {post : Int32 → zm_M → Prop} (h : zP G Bm M0 M ι α K ρ) (r : zRn ι α K S) (h0 : zF S < 24 → post (nI (zF S)) M) (h1 : ¬ zF S < 24 → post (-3) M) : pX7_free G Bm post M := by
  unfold pX7_free
  refine fun x1 e1 => ⟨25, ?_⟩
  rw [e1]
  exact r7_freeL h r h0 h1 24 0 rfl rfl
theorem nI_n3 {a : Nat} (h : a < 24) : ¬ nI a = (-3 : Int32) := fun c => by
  have h1 : (nI a).toInt = (-3 : Int32).toInt := by rw [c]
  rw [nI_toInt (by omega), show (-3 : Int32).toInt = -3 from rfl] at h1
  omega
theorem r7_isFull {A B : zm_M → Prop} (h : zP G Bm M0 M ι α K ρ) (r : zRn ι α K S) (h0 : zF S < 24 → A M) (h1 : ¬ zF S < 24 → B M) : pX7_free G Bm (fun r3 M' => (¬ r3 = (-3 : Int32) → A M') ∧ (r3 = (-3 : Int32) → B M')) M := r7_free h r (fun c => ⟨fun _ => h0 c, fun y => absurd y (nI_n3 c)⟩) (fun c => ⟨fun y => absurd rfl y, fun _ => h1 c⟩)
theorem r7_manyL {post : Int32 → zm_M → Prop} (h : zP G Bm M0 M ι α K ρ) {f : Nat → Bool} (r : ∀ a, a < 24 → α 1 a = if f a = true then 1 else 0) (hp : post (nI (zcn f 24)) M) : ∀ (d a : Nat), a + d = 24 → pX7_many_4 G post (d + 1) Bm (nI (zcn f a)) (nI a) M
  | 0, a, ha => by
    rw [pX7_many_4]
    have e : a = 24 := by omega
    subst e
    exact ⟨fun _ => hp, fun y => absurd (by decide) y⟩
  | d + 1, a, ha => by
    rw [pX7_many_4]
    refine ⟨fun y => absurd ((nI_leI (a := 24) (by decide) (by omega)).mp y) (by omega), fun _ => r7_there h rfl (by omega) ?_⟩
    rw [r a (by omega)]
    by_cases c : f a = true
    · rw [if_pos c]
      refine ⟨fun y => absurd y (by decide), fun _ x7 e7 x8 e8 => ?_⟩
      have e : zcn f (a + 1) = zcn f a + 1 := by
        show zcn f a + (if f a = true then 1 else 0) = _
        rw [if_pos c]
      rw [e7, e8, nI_1, nI_1, ← e]
      exact r7_manyL h r hp d (a + 1) (by omega)
    · rw [if_neg c]
      refine ⟨fun _ x5 e5 x6 e6 => ?_, fun y => absurd rfl y⟩
      have e : zcn f (a + 1) = zcn f a := by
        show zcn f a + (if f a = true then 1 else 0) = _
        rw [if_neg c, Nat.add_zero]
      rw [e5, e6, nI_1, Int32.add_zero, ← e]
      exact r7_manyL h r hp d (a + 1) (by omega)
theorem r7_many {post : Int32 → zm_M → Prop} (h : zP G Bm M0 M ι α K ρ) {f : Nat → Bool} (r : ∀ a, a < 24 → α 1 a = if f a = true then 1 else 0) (hp : post (nI (zcn f 24)) M) : pX7_many G Bm post M := by
  unfold pX7_many
  refine fun x1 e1 x2 e2 => ⟨25, ?_⟩
  rw [e1, e2]
  exact r7_manyL h r hp 24 0 rfl
theorem zkN_1 {z : Nat → Int32} {p v : Nat} (h : zkN K z p v) : (z p = 1 ∧ K (16 * p) = 1) ↔ v = 1 := by
  obtain ⟨u, h1, h2, h3, h4, h5⟩ := h
  constructor
  · intro ⟨e1, e2⟩
    rw [h1] at e1
    have hu : u = 1 := (nI_eq (b := 1) (by omega) (by decide)).mp e1
    rw [h4, hu, zs_step]
    show 0 + uN (K (16 * p + 0)) * 4294967296 ^ 0 = 1
    rw [show 16 * p + 0 = 16 * p from rfl, e2]
    rfl
  · intro e
    have hu0 : 0 < u := by
      rcases Nat.eq_zero_or_pos u with c | c
      · rw [c] at h4
        have : v = 0 := h4
        omega
      · exact c
    have hu1 : u = 1 := by
      have := zs_top (d := fun i => uN (K (16 * p + i))) hu0 (h5 hu0)
      rw [← h4, e] at this
      rcases Nat.lt_or_ge 1 u with c | c
      · have h6 : 4294967296 ^ 1 ≤ 4294967296 ^ (u - 1) := Nat.pow_le_pow_right (by decide) (by omega)
        omega
      · omega
    subst hu1
    refine ⟨h1, ?_⟩
    rw [e, zs_step] at h4
    have h7 : 1 = 0 + uN (K (16 * p + 0)) * 4294967296 ^ 0 := h4
    have h8 : uN (K (16 * p)) = 1 := by
      rw [Nat.zero_add, Nat.pow_zero, Nat.mul_one] at h7
      exact h7.symm
    exact uN_inj (h8.trans uN_1.symm)
theorem r7_isWhole {post : Int32 → zm_M → Prop} (h : zP G Bm M0 M ι α K ρ) (r : zRn ι α K S) {a : Nat} (ha : a < 24) (ht : sT S a = true) (hp : post (if sD S a = 1 then 1 else 0) M) : pX7_isWhole G Bm (nI a) post M := by
  have hd := zkN_1 (zRn_a r ha ht).2.2.1
  unfold pX7_isWhole
  rw [show (2 : Int32) * nI a + (1 : Int32) = nI (2 * a + 1) from zix2 a 1, z160]
  refine r7_kS h rfl (by omega) ⟨fun y => ⟨zb_0, ?_⟩, fun y => r7_kL h rfl (by omega) ⟨fun z => ⟨zb_0, ?_⟩, fun z => ⟨zb_1, ?_⟩⟩⟩
  · rw [if_neg (fun c => y (hd.mpr c).1)] at hp
    exact hp
  · rw [if_neg (fun c => z (hd.mpr c).2)] at hp
    exact hp
  · rw [if_pos (hd.mp ⟨y, z⟩)] at hp
    exact hp
/-! keep -/
theorem q7_kpL {post : Int32 → zm_M → Prop} {k128 : Nat → Int32 → Int32 → zm_M → Prop} {F p u : Nat} {K0 : Nat → Int64} (hF : F < 24) (hpp : p < 2) (hn : n p = nI u) (hu : u ≤ 16) (hk : ∀ (M' : zm_M) (K' : Nat → Int64), zN G Bm M0 M' ι α K' g n → (∀ j, j < 16 * (2 * F + p) ∨ 16 * (2 * F + p) + 16 ≤ j → K' j = K0 j) → (∀ i, i < u → K' (16 * (2 * F + p) + i) = g (72 * p + i)) → k128 Bm (nI F) (nI p) M') : ∀ (d k : Nat) (M : zm_M) (K : Nat → Int64), k + d = u → zN G Bm M0 M ι α K g n → (∀ j, j < 16 * (2 * F + p) ∨ 16 * (2 * F + p) + 16 ≤ j → K j = K0 j) → (∀ i, i < k → K (16 * (2 * F + p) + i) = g (72 * p + i)) → pX7_keep_83 G post k128 (d + 1) Bm (nI F) (nI p) (nI k) M
  | 0, k, M, K, hkk, h, hf, h1 => by
    rw [pX7_keep_83]
    refine nA h (nR h (by omega) ?_)
    rw [hn]
    exact ⟨fun _ => hk M K h hf (fun i hi => h1 i (by omega)), fun y => absurd ((nI_leI (by omega) (by omega)).mpr (by omega)) y⟩
  | d + 1, k, M, K, hkk, h, hf, h1 => by
    rw [pX7_keep_83]
    refine nA h (nR h (by omega) ?_)
    rw [hn]
    refine ⟨fun y => absurd ((nI_leI (by omega) (by omega)).mp y) (by omega), fun _ => ⟨_, _, h.2.1, rfl, gA h (gR7 h (z72 p k) (by omega) ?_)⟩⟩
    rw [zix2, z16]
    refine ⟨_, _, h.2.2.2.2.1, vp_in_nI (by omega) (by decide), ?_⟩
    rw [nI_clamp (by omega)]
    intro x e
    rw [e, nI_1]
    refine q7_kpL hF hpp hn hu hk d (k + 1) _ _ (by omega) (zN_K h _) (fun j hj => ?_) (fun i hi => ?_)
    · rw [pk_uLn (by omega)]; exact hf j hj
    · by_cases c : i = k
      · rw [c, pk_uLs]
      · rw [pk_uLn (by omega)]; exact h1 i (by omega)
theorem q7_kpS {post : Int32 → zm_M → Prop} {F p v f : Nat} (h : zN G Bm M0 M ι α K g n) (hF : F < 24) (hpp : p < 2) (hv : zrg g n p v) (hl : v < 4294967296 ^ 16) (hk : ∀ (M' : zm_M) (z' : Nat → Int32) (K' : Nat → Int64), zN G Bm M0 M' ι (ub α 4 z') K' g n → (∀ j, j ≠ 2 * F + p → z' j = α 4 j) → (∀ j, j < 16 * (2 * F + p) ∨ 16 * (2 * F + p) + 16 ≤ j → K' j = K j) → zkN K' z' (2 * F + p) v → pX7_keep_59 G post f Bm (nI F) (nI (p + 1)) M') : pX7_keep_59 G post (f + 1) Bm (nI F) (nI p) M := by
  obtain ⟨u, hn, hu, hd, he, ht⟩ := hv
  have hu16 := zsmall36 he ht hl
  rw [pX7_keep_59]
  refine ⟨fun y => absurd ((nI_leI (a := 2) (by decide) (by omega)).mp y) (by omega), fun _ => ⟨_, _, h.2.1, rfl, nA h (nR h (by omega) ?_)⟩⟩
  rw [hn, zix2]
  refine ⟨_, _, h.2.2.2.2.2.1, vp_in_nI (by omega) (by decide), fun x18 e18 => ⟨u + 1, ?_⟩⟩
  rw [nI_clamp (by omega), e18]
  refine q7_kpL (K0 := K) hF hpp hn hu16 (fun M2 K2 k2 f2 d2 x30 e30 => ?_) u 0 _ K (by omega) (zN_a4 h _) (fun _ _ => rfl) (fun i hi => absurd hi (by omega))
  rw [e30, nI_1]
  refine hk M2 _ K2 k2 (fun j hj => pk_un hj) f2 ⟨u, pk_us, hu16, fun i hi => ?_, ?_, fun hu0 => ?_⟩
  · rw [d2 i hi]; exact hd i hi
  · rw [he]; exact zs_congr (fun i hi => by rw [d2 i hi]; rfl)
  · rw [d2 _ (by omega)]; exact ht hu0
theorem r7_keep {post : Int32 → zm_M → Prop} (h : zP G Bm M0 M ι α K ρ) (r : zRn ι α K S) (hf : zF S < 24) {s : Int32} (hg : Nat.gcd (ρ 0) (ρ 1) = 1) (hD : ρ 1 ≠ 0) (hs : ρ 0 ≠ 0 → s = 1 ∨ s = -1) {t : Int32} (ht : ι 0 = t) (hp : ∀ M', zRM G Bm M0 M' (zkp S s (ρ 0) (ρ 1)).2 t → post (zkp S s (ρ 0) (ρ 1)).1 M') : pX7_keep G Bm s post M := by
  have hI := zkp_I r.2.2.2.2 hD hs
  have l0 : zbl (ρ 0) ≤ 2304 := zbl_le.mpr (by have := zP_lt h (r := 0) (by decide); rw [zB2] at this; exact this)
  have l1 : zbl (ρ 1) ≤ 2304 := zbl_le.mpr (by have := zP_lt h (r := 1) (by decide); rw [zB2] at this; exact this)
  unfold zkp at hp hI
  rw [hg, Nat.div_one, Nat.div_one] at hp hI
  unfold pX7_keep
  refine ⟨zP_o h, r7_bits h 0 ⟨fun y => ?_, fun y => ⟨zP_o h, r7_bits h 1 ⟨fun z => ?_, fun z => ?_⟩⟩⟩⟩
  · have y' := (nI_ltI (a := 512) (by decide) (by omega)).mp y
    rw [if_pos (Or.inl y')] at hp
    exact hp M ⟨_, _, _, _, h, r, ht⟩
  · have y' : ¬ 512 < zbl (ρ 0) := fun c => y ((nI_ltI (a := 512) (by decide) (by omega)).mpr c)
    have z' := (nI_leI (b := 512) (by omega) (by decide)).mp z
    rw [if_neg (by omega), if_pos hf] at hp hI
    refine ⟨zP_o h, r7_free h r (fun _ => ?_) (fun c => absurd hf c)⟩
    obtain ⟨F, hF⟩ : ∃ F, F = zF S := ⟨_, rfl⟩
    rw [← hF] at hp hI hf ⊢
    refine r7_Wthere h rfl hf (fun M1 k1 => r7_ga k1 2 (b := 2) (by decide) ?_)
    have rest : ∀ (s' : Int32) (M2 : zm_M), s' = (if ρ 0 = 0 then 0 else s) → zP G Bm M0 M2 ι (ub (ub α 1 (upd (α 1) F (vp_nar .boolean (1 : Int32)))) 2 (upd (ub α 1 (upd (α 1) F (vp_nar .boolean (1 : Int32))) 2) F s')) K ρ → pX7_keep_59 G post 3 Bm (nI F) (nI 0) M2 := by
      intro s' M2 es k2
      obtain ⟨g, n, k2, hv⟩ := k2
      refine q7_kpS k2 hf (by decide) (hv 0 (by decide)) (zbl_n.mp (by omega)) (fun M3 z3 K3 k3 f3 d3 v3 => ?_)
      refine q7_kpS k3 hf (by decide) (hv 1 (by decide)) (zbl_n.mp (by omega)) (fun M4 z4 K4 k4 f4 d4 v4 => ?_)
      rw [pX7_keep_59]
      refine ⟨fun _ => hp M4 ⟨_, _, _, ρ, ⟨g, n, k4, hv⟩, ⟨fun a ha => ?_, fun a ha hx => ?_, r.2.2.1, r.2.2.2.1, hI⟩, ht⟩, fun q => absurd (by decide) q⟩
      · show upd (α 1) F (vp_nar .boolean (1 : Int32)) a = if (if a = F then true else sT S a) = true then 1 else 0
        by_cases e : a = F
        · rw [e, pk_us, if_pos rfl, if_pos rfl]
          rfl
        · rw [pk_un e, if_neg e]
          exact r.1 a ha
      · show upd (α 2) F s' a = upd (sS S) F _ a ∧ zkN K4 z4 (2 * a) (ux (sN S) F _ a) ∧ zkN K4 z4 (2 * a + 1) (ux (sD S) F _ a)
        by_cases e : a = F
        · subst e
          rw [pk_us, pk_us, ux_s, ux_s]
          exact ⟨es, zkN_k v3 (f4 _ (by omega)) (fun i hi => d4 _ (by omega)), v4⟩
        · have hx' : sT S a = true := by
            have : (if a = F then true else sT S a) = true := hx
            rw [if_neg e] at this
            exact this
          obtain ⟨q1, q2, q3⟩ := r.2.1 a ha hx'
          rw [pk_un e, pk_un e, ux_n e, ux_n e]
          refine ⟨q1, zkN_k q2 ?_ (fun i hi => ?_), zkN_k q3 ?_ (fun i hi => ?_)⟩
          · rw [f4 _ (by omega)]
            exact f3 _ (by omega)
          · rw [d4 _ (by omega), d3 _ (by omega)]
          · rw [f4 _ (by omega)]
            exact f3 _ (by omega)
          · rw [d4 _ (by omega), d3 _ (by omega)]
    refine r7_nz' k1 0 (fun e => r7_Wsign k1 rfl hf (fun M2 k2 x32 e32 => ⟨3, ?_⟩)) (fun e => r7_Wsign k1 rfl hf (fun M2 k2 x32 e32 => ⟨3, ?_⟩))
    · rw [e32]
      exact rest 0 M2 (by rw [if_pos e]) k2
    · rw [e32]
      exact rest s M2 (by rw [if_neg e]) k2
  · have z' : ¬ zbl (ρ 1) ≤ 512 := fun c => z ((nI_leI (b := 512) (by omega) (by decide)).mpr c)
    rw [if_pos (Or.inr (by omega))] at hp
    exact hp M ⟨_, _, _, _, h, r, ht⟩
theorem zkp_g {S : zS} {s : Int32} {T D : Nat} (hD : D ≠ 0) : zkp S s (T / Nat.gcd T D) (D / Nat.gcd T D) = zkp S s T D := by
  have hg : 0 < Nat.gcd T D := Nat.gcd_pos_of_pos_right _ (by omega)
  have hd2 : Nat.gcd T D ∣ D := Nat.gcd_dvd_right _ _
  have hd1 : Nat.gcd T D ∣ T := Nat.gcd_dvd_left _ _
  have h1 : Nat.gcd (T / Nat.gcd T D) (D / Nat.gcd T D) = 1 := by rw [Nat.gcd_div hd1 hd2, Nat.div_self hg]
  have h2 : T / Nat.gcd T D = 0 ↔ T = 0 := by
    constructor
    · intro h
      rcases Nat.eq_zero_or_pos T with c | c
      · exact c
      · have := Nat.div_pos (Nat.le_of_dvd c hd1) hg
        omega
    · intro h
      rw [h, Nat.zero_div]
  unfold zkp
  rw [h1, Nat.div_one, Nat.div_one]
  simp only [h2]
theorem r7_keepLeast {post : Int32 → zm_M → Prop} (h : zP G Bm M0 M ι α K ρ) (r : zRn ι α K S) (hf : zF S < 24) {s : Int32} (hD : ρ 1 ≠ 0) (l0 : ρ 0 < 4294967296 ^ 71) (l1 : ρ 1 < 4294967296 ^ 71) (hs : ρ 0 ≠ 0 → s = 1 ∨ s = -1) {t : Int32} (ht : ι 0 = t) (hp : ∀ M', zRM G Bm M0 M' (zkp S s (ρ 0) (ρ 1)).2 t → post (zkp S s (ρ 0) (ρ 1)).1 M') : pX7_keepLeast G Bm s post M := by
  have hg : 0 < Nat.gcd (ρ 0) (ρ 1) := Nat.gcd_pos_of_pos_right _ (by omega)
  have hgl : Nat.gcd (ρ 0) (ρ 1) < 4294967296 ^ 71 := Nat.lt_of_le_of_lt (Nat.le_of_dvd (by omega) (Nat.gcd_dvd_right _ _)) l1
  have hd2 : Nat.gcd (ρ 0) (ρ 1) ∣ ρ 1 := Nat.gcd_dvd_right _ _
  have hd1 : Nat.gcd (ρ 0) (ρ 1) ∣ ρ 0 := Nat.gcd_dvd_left _ _
  rw [← zkp_g hD] at hp
  unfold pX7_keepLeast
  refine ⟨zP_o h, r7_copy h 16 0 (fun M1 k1 => ⟨zP_o k1, r7_copy k1 17 1 (fun M2 k2 => ⟨zP_o k2, r7_divisor k2 16 17 (Or.inr (Nat.pos_of_ne_zero hD)) l0 l1 (fun M3 w w' k3 => ⟨zP_o k3, r7_divide k3 18 19 0 16 hg hgl (fun M4 k4 => ⟨zP_o k4, r7_copy k4 0 18 (fun M5 k5 => ⟨zP_o k5, r7_divide k5 18 19 1 16 hg hgl (fun M6 k6 => ⟨zP_o k6, r7_copy k6 1 18 (fun M7 k7 => ⟨zP_o k7, ?_⟩)⟩)⟩)⟩)⟩)⟩)⟩)⟩
  refine r7_keep (s := s) k7 r hf ?_ ?_ ?_ ht (fun M8 => hp M8)
  · show Nat.gcd (ρ 0 / Nat.gcd (ρ 0) (ρ 1)) (ρ 1 / Nat.gcd (ρ 0) (ρ 1)) = 1
    rw [Nat.gcd_div hd1 hd2, Nat.div_self hg]
  · show ρ 1 / Nat.gcd (ρ 0) (ρ 1) ≠ 0
    have := Nat.div_pos (Nat.le_of_dvd (by omega) hd2) hg
    omega
  · show ρ 0 / Nat.gcd (ρ 0) (ρ 1) ≠ 0 → _
    intro hn
    exact hs (fun c => hn (by rw [c, Nat.zero_div]))
theorem r7_keepWhole {post : Int32 → zm_M → Prop} (h : zP G Bm M0 M ι α K ρ) (r : zRn ι α K S) (hf : zF S < 24) (q : Nat) {s : Int32} (hs : ρ q ≠ 0 → s = 1 ∨ s = -1) {t : Int32} (ht : ι 0 = t) (hp : ∀ M', zRM G Bm M0 M' (zkp S s (ρ q) 1).2 t → post (zkp S s (ρ q) 1).1 M') (hq : q < 24 := by decide) : pX7_keepWhole G Bm (nI q) s post M := by
  unfold pX7_keepWhole
  refine ⟨zP_o h, r7_copy h 0 q (fun M1 k1 => ⟨zP_o k1, r7_small k1 1 (fun M2 k2 => ⟨zP_o k2, ?_⟩)⟩) (by decide) hq⟩
  exact r7_keep (s := s) k2 r hf (Nat.gcd_one_right _) (by show (1 : Nat) ≠ 0; decide) hs ht (fun M3 => hp M3)
end R77
