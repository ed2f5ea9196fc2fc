/-! ===== THE CONSTRUCTORS ===== -/
section IN
variable {G : Nat → ClassId} {M : zm_M}
theorem i5 {a0 n bc bs : Nat} {post : zm_M → Prop} (hn : 2 ≤ n) (hn2 : n ≤ 1000) (ha : M.2 a0 = some (.inr (8, [.null, .int 0]))) (hlt : a0 < M.1) (hc : 1 ≤ bc) (hs : n ≤ bs) (hp : ∀ M' : zm_M, M'.1 = M.1 + 1 → zwv G M' a0 M.1 n 0 → (∀ q, q < M.1 → q ≠ a0 → M'.2 q = M.2 q) → post M') : pX5_init G a0 (nI n) bc bs post M := by
  unfold pX5_init
  have hlt2 : ¬ nI n < (2 : Int32) := fun c => absurd ((nI_ltI (b := 2) (by omega) (by decide)).mp c) (by omega)
  rw [if_neg hlt2]
  have hcl := nI_clamp (n := n) (by omega)
  refine ⟨nI_pos (by omega), by rw [hcl]; omega, by omega, by rw [hcl]; omega, ?_⟩
  rw [hcl]
  refine ⟨[.null, .int 0], (zm_new_n _ _ (by omega)).trans ha, by decide, [.ref M.1, .int 0], zm_set_s _ _ _, by simp, by omega, by omega, hp _ rfl ⟨0, fun _ => 0, ⟨zm_set_s _ _ _, ?_, Nat.zero_le _, hn2⟩, rfl, fun h => absurd h (by decide)⟩ (fun q h1 h2 => ?_)⟩
  · rw [zm_set_n _ _ (by omega), zm_set_n _ _ (by omega)]
    exact zm_new_s _ _
  · rw [zm_set_n _ _ h2, zm_set_n _ _ h2, zm_new_n _ _ (by omega)]
/-- a new Wide comes into a field -/
theorem iW {a0 ci k n c s bc bs : Nat} {fs : List Value} {K : Nat → Nat → zm_M → Prop} (hn : 2 ≤ n) (hn2 : n ≤ 1000) (ha : M.2 a0 = some (.inr (ci, fs))) (hlt : a0 < M.1) (hk : k < fs.length) (hc : c + 2 ≤ bc) (hs : s + 2 + n ≤ bs) (hp : ∀ M' : zm_M, M'.1 = M.1 + 2 → zwv G M' M.1 (M.1 + 1) n 0 → M'.2 a0 = some (.inr (ci, fs.set k (.ref M.1))) → (∀ q, q < M.1 → q ≠ a0 → M'.2 q = M.2 q) → K 1 n M') : zw_no bc bs c s M 8 2 [.null, .int 0] (fun M1 => ∃ mc ms : Nat, (c + 1) + mc ≤ bc ∧ (s + 2) + ms ≤ bs ∧ pX5_init G (M.1) (nI n) mc ms (fun M5 => zw_p M5 a0 ci k (.ref (M.1)) (fun M6 => K mc ms M6)) M1) := by
  refine ⟨by omega, by omega, 1, n, by omega, by omega, i5 hn hn2 (zm_new_s _ _) (Nat.lt_succ_self _) (Nat.le_refl _) (Nat.le_refl _) (fun M' h1 h2 h3 => ?_)⟩
  have e : M'.2 a0 = some (.inr (ci, fs)) := (h3 a0 (Nat.lt_succ_of_lt hlt) (by omega)).trans ((zm_new_n _ _ (by omega)).trans ha)
  refine ⟨fs, e, hk, hp _ h1 (zwv_kept h2 (zm_set_n _ _ (by omega)) (zm_set_n _ _ (show M.1 + 1 ≠ a0 by omega))) (zm_set_s _ _ _) (fun q q1 q2 => ?_)⟩
  rw [zm_set_n _ _ q2, h3 q (Nat.lt_succ_of_lt q1) (by omega), zm_new_n _ _ (by omega)]
/-- k Wides of 36 limbs from a on, nothing else but a0's cell -/
def zIn (G : Nat → ClassId) (a0 a k : Nat) (M0 M : zm_M) : Prop := a0 < a ∧ M.1 = a + 2 * k ∧ (∀ j, j < k → zwv G M (a + 2 * j) (a + 2 * j + 1) 36 0) ∧ ∀ q, q < a → q ≠ a0 → M.2 q = M0.2 q
theorem zIn_0 {a0 : Nat} (h : a0 < M.1) : zIn G a0 M.1 0 M M := ⟨h, rfl, fun j hj => absurd hj (Nat.not_lt_zero j), fun _ _ _ => rfl⟩
theorem iW' {M0 : zm_M} {a0 a m ci k c s bc bs : Nat} {fs : List Value} {K : Nat → Nat → zm_M → Prop} (h : zIn G a0 a m M0 M) (ha : M.2 a0 = some (.inr (ci, fs))) (hp : ∀ M' : zm_M, zIn G a0 a (m + 1) M0 M' → M'.2 a0 = some (.inr (ci, fs.set k (.ref (a + 2 * m)))) → K 1 36 M') (hk : k < fs.length := by simp) (hc : c + 2 ≤ bc := by omega) (hs : s + 2 + 36 ≤ bs := by omega) : zw_no bc bs c s M 8 2 [.null, .int 0] (fun M1 => ∃ mc ms : Nat, (c + 1) + mc ≤ bc ∧ (s + 2) + ms ≤ bs ∧ pX5_init G (M.1) (36 : Int32) mc ms (fun M5 => zw_p M5 a0 ci k (.ref (M.1)) (fun M6 => K mc ms M6)) M1) := by
  obtain ⟨h0, h1, h2, h3⟩ := h
  refine iW (n := 36) (by decide) (by decide) ha (by omega) hk hc hs (fun M' e1 e2 e3 e4 => hp M' ⟨h0, by omega, fun j hj => ?_, fun q q1 q2 => (e4 q (by omega) q2).trans (h3 q q1 q2)⟩ (by rw [← h1]; exact e3))
  by_cases e : j = m
  · subst e
    rw [h1] at e2
    exact e2
  · exact zwv_kept (h2 j (by omega)) (e4 _ (by omega) (by omega)) (e4 _ (by omega) (by omega))
theorem i2 {a0 n bc bs : Nat} {post : zm_M → Prop} (hn : 2 ≤ n) (hn2 : n ≤ 1000) (ha : M.2 a0 = some (.inr (5, [.int 0, .null, .null]))) (hlt : a0 < M.1) (hc : 4 ≤ bc) (hs : 2 * n + 4 ≤ bs) (hp : ∀ M' : zm_M, M'.1 = M.1 + 4 → zwv G M' M.1 (M.1 + 1) n 0 → zwv G M' (M.1 + 2) (M.1 + 3) n 0 → M'.2 a0 = some (.inr (5, [.int 0, .ref M.1, .ref (M.1 + 2)])) → (∀ q, q < M.1 → q ≠ a0 → M'.2 q = M.2 q) → post M') : pX2_init G a0 (nI n) bc bs post M := by
  unfold pX2_init
  refine ⟨_, ha, by decide, iW (M := zm_set M a0 _) hn hn2 (zm_set_s _ _ _) hlt (by decide) (by omega) (by omega) (fun M1 a1 a2 a3 a4 => iW hn hn2 a3 (by rw [a1]; exact Nat.lt_add_right 2 hlt) (by simp) (by omega) (by omega) (fun M2 b1 b2 b3 b4 => ?_))⟩
  have e1 : M1.1 = M.1 + 2 := a1
  rw [e1] at b1 b2 b3 b4
  refine ⟨by omega, by omega, hp M2 b1 ?_ b2 b3 (fun q q1 q2 => ?_)⟩
  · exact zwv_kept a2 (b4 _ (show M.1 < M.1 + 2 by omega) (show M.1 ≠ a0 by omega)) (b4 _ (show M.1 + 1 < M.1 + 2 by omega) (show M.1 + 1 ≠ a0 by omega))
  · exact (b4 q (by omega) q2).trans ((a4 q q1 q2).trans (zm_set_n _ _ q2))
/-- the bench: from its own cell on -/
theorem i0 {a0 bc bs : Nat} {post : zm_M → Prop} (ha : M.2 a0 = some (.inr (3, [.null, .null, .null, .null, .null]))) (hlt : a0 < M.1) (hc : 13 ≤ bc) (hs : 231 ≤ bs) (hp : ∀ M' : zm_M, M'.1 = M.1 + 13 → M'.2 M.1 = some (.inr (5, [.int 0, .ref (M.1 + 1), .ref (M.1 + 3)])) → zwv G M' (M.1 + 1) (M.1 + 2) 36 0 → zwv G M' (M.1 + 3) (M.1 + 4) 36 0 → (∀ j, j < 4 → zwv G M' (M.1 + 5 + 2 * j) (M.1 + 5 + 2 * j + 1) 36 0) → M'.2 a0 = some (.inr (3, [.ref M.1, .ref (M.1 + 5), .ref (M.1 + 7), .ref (M.1 + 9), .ref (M.1 + 11)])) → (∀ q, q < M.1 → q ≠ a0 → M'.2 q = M.2 q) → post M') : pX0_init G a0 bc bs post M := by
  unfold pX0_init
  refine ⟨by omega, by omega, 4, 76, by omega, by omega, i2 (n := 36) (by decide) (by decide) (zm_new_s _ _) (Nat.lt_succ_self _) (by decide) (by decide) (fun M1 a1 a2 a3 a4 a5 => ?_)⟩
  have e1 : M1.1 = M.1 + 1 + 4 := a1
  have e2 : M1.2 a0 = some (.inr (3, [.null, .null, .null, .null, .null])) := (a5 a0 (Nat.lt_succ_of_lt hlt) (by omega)).trans ((zm_new_n _ _ (by omega)).trans ha)
  refine ⟨_, e2, by decide, ?_⟩
  obtain ⟨N, hN⟩ : ∃ N, N = zm_set M1 a0 (.inr (3, [.ref M.1, .null, .null, .null, .null])) := ⟨_, rfl⟩
  have eN : N.1 = M.1 + 5 := by rw [hN]; exact e1
  have k0 : zIn G a0 (M.1 + 5) 0 N N := ⟨by omega, by omega, fun j hj => absurd hj (Nat.not_lt_zero j), fun _ _ _ => rfl⟩
  have kN : N.2 a0 = some (.inr (3, [.ref M.1, .null, .null, .null, .null])) := by rw [hN]; exact zm_set_s _ _ _
  have oN : ∀ q, q ≠ a0 → N.2 q = M1.2 q := fun q hq => by rw [hN]; exact zm_set_n _ _ hq
  have hN' : zm_set M1 a0 (.inr (3, ([.null, .null, .null, .null, .null] : List Value).set 0 (.ref M.1))) = N := hN.symm
  rw [hN']
  refine iW' k0 kN (fun N1 k1 f1 => iW' k1 f1 (fun N2 k2 f2 => iW' k2 f2 (fun N3 k3 f3 => iW' k3 f3 (fun N4 k4 f4 => ⟨by omega, by omega, hp N4 (by have := k4.2.1; omega) ?_ ?_ ?_ (fun j hj => k4.2.2.1 j hj) f4 (fun q q1 q2 => ?_)⟩))))
  · rw [k4.2.2.2 _ (by omega) (by omega), oN _ (by omega)]
    exact a4
  · exact zwv_kept a2 ((k4.2.2.2 _ (show M.1 + 1 < M.1 + 5 by omega) (by omega)).trans (oN _ (by omega))) ((k4.2.2.2 _ (show M.1 + 2 < M.1 + 5 by omega) (by omega)).trans (oN _ (by omega)))
  · exact zwv_kept a3 ((k4.2.2.2 _ (show M.1 + 3 < M.1 + 5 by omega) (by omega)).trans (oN _ (by omega))) ((k4.2.2.2 _ (show M.1 + 4 < M.1 + 5 by omega) (by omega)).trans (oN _ (by omega)))
  · rw [k4.2.2.2 _ (by omega) q2, oN _ q2, a5 q (Nat.lt_succ_of_lt q1) (by omega), zm_new_n _ _ (by omega)]
theorem i1 {a0 bc bs : Nat} {post : zm_M → Prop} (ha : M.2 a0 = some (.inr (4, [.int 0, .null, .null, .null, .null, .null, .null, .null, .null, .null, .null]))) (hlt : a0 < M.1) (hc : 20 ≤ bc) (hs : 380 ≤ bs) (hp : ∀ M' : zm_M, M'.1 = M.1 + 20 → (∀ j, j < 10 → zwv G M' (M.1 + 2 * j) (M.1 + 2 * j + 1) 36 0) → M'.2 a0 = some (.inr (4, [.int 0, .ref M.1, .ref (M.1 + 2), .ref (M.1 + 4), .ref (M.1 + 6), .ref (M.1 + 8), .ref (M.1 + 10), .ref (M.1 + 12), .ref (M.1 + 14), .ref (M.1 + 16), .ref (M.1 + 18)])) → (∀ q, q < M.1 → q ≠ a0 → M'.2 q = M.2 q) → post M') : pX1_init G a0 bc bs post M := by
  unfold pX1_init
  refine iW' (zIn_0 hlt) ha (fun N1 k1 f1 => iW' k1 f1 (fun N2 k2 f2 => iW' k2 f2 (fun N3 k3 f3 => iW' k3 f3 (fun N4 k4 f4 => iW' k4 f4 (fun N5 k5 f5 => iW' k5 f5 (fun N6 k6 f6 => iW' k6 f6 (fun N7 k7 f7 => iW' k7 f7 (fun N8 k8 f8 => iW' k8 f8 (fun N9 k9 f9 => iW' k9 f9 (fun N10 k10 f10 => ⟨by omega, by omega, hp N10 k10.2.1 k10.2.2.1 f10 k10.2.2.2⟩))))))))))
theorem i3 {a0 bc bs : Nat} {post : zm_M → Prop} (ha : M.2 a0 = some (.inr (6, [.null, .int 0, .null, .null, .null]))) (hlt : a0 < M.1) (hc : 7 ≤ bc) (hs : 434 ≤ bs) (hp : ∀ M' : zm_M, M'.1 = M.1 + 7 → M'.2 M.1 = some (.inl (G 2, (320, .inl (fun _ => 0)))) → (∀ j, j < 3 → zwv G M' (M.1 + 1 + 2 * j) (M.1 + 1 + 2 * j + 1) 36 0) → M'.2 a0 = some (.inr (6, [.ref M.1, .int 0, .ref (M.1 + 1), .ref (M.1 + 3), .ref (M.1 + 5)])) → (∀ q, q < M.1 → q ≠ a0 → M'.2 q = M.2 q) → post M') : pX3_init G a0 bc bs post M := by
  unfold pX3_init
  have hcl : (320 : Int32).toNatClampNeg = 320 := by decide
  rw [hcl]
  refine ⟨by decide, by rw [hcl]; decide, by omega, by rw [hcl]; omega, ?_⟩
  rw [hcl]
  refine ⟨_, (zm_new_n _ _ (by omega)).trans ha, by decide, _, zm_set_s _ _ _, by simp, ?_⟩
  obtain ⟨N, hN⟩ : ∃ N, N = zm_set (zm_set (zm_new M (.inl (G 2, (320, .inl (fun _ => 0))))) a0 (.inr (6, [.ref M.1, .int 0, .null, .null, .null]))) a0 (.inr (6, [.ref M.1, .int 0, .null, .null, .null])) := ⟨_, rfl⟩
  have hN' : zm_set (zm_set (zm_new M (.inl (G 2, (320, .inl (fun _ => 0))))) a0 (.inr (6, ([.null, .int 0, .null, .null, .null] : List Value).set 0 (.ref M.1)))) a0 (.inr (6, (([.null, .int 0, .null, .null, .null] : List Value).set 0 (.ref M.1)).set 1 (.int 0))) = N := hN.symm
  rw [hN']
  have eN : N.1 = M.1 + 1 := by rw [hN]; rfl
  have oN : ∀ q, q ≠ a0 → N.2 q = (zm_new M (.inl (G 2, (320, .inl (fun _ => 0))))).2 q := fun q hq => by rw [hN, zm_set_n _ _ hq, zm_set_n _ _ hq]
  have kN : N.2 a0 = some (.inr (6, [.ref M.1, .int 0, .null, .null, .null])) := by rw [hN]; exact zm_set_s _ _ _
  have k0 : zIn G a0 (M.1 + 1) 0 N N := ⟨by omega, by omega, fun j hj => absurd hj (Nat.not_lt_zero j), fun _ _ _ => rfl⟩
  refine iW' k0 kN (fun N1 k1 f1 => iW' k1 f1 (fun N2 k2 f2 => iW' k2 f2 (fun N3 k3 f3 => ⟨by omega, by omega, hp N3 (by have := k3.2.1; omega) ?_ k3.2.2.1 f3 (fun q q1 q2 => ?_)⟩)))
  · rw [k3.2.2.2 _ (by omega) (by omega), oN _ (by omega)]
    exact zm_new_s _ _
  · rw [k3.2.2.2 _ (by omega) q2, oN _ q2, zm_new_n _ _ (by omega)]
theorem i4 {a0 bc bs : Nat} {post : zm_M → Prop} (ha : M.2 a0 = some (.inr (7, [.null, .int 0, .int 0, .int 0, .int 0]))) (hlt : a0 < M.1) (hc : 1 ≤ bc) (hs : 400 ≤ bs) (hp : ∀ M' : zm_M, M'.1 = M.1 + 1 → M'.2 M.1 = some (.inl (G 2, (400, .inl (fun _ => 0)))) → M'.2 a0 = some (.inr (7, [.ref M.1, .int 0, .int 0, .int 0, .int 0])) → (∀ q, q < M.1 → q ≠ a0 → M'.2 q = M.2 q) → post M') : pX4_init G a0 bc bs post M := by
  unfold pX4_init
  have hcl : (400 : Int32).toNatClampNeg = 400 := by decide
  rw [hcl]
  refine ⟨by decide, by rw [hcl]; decide, by omega, by rw [hcl]; omega, ?_⟩
  rw [hcl]
  refine ⟨_, (zm_new_n _ _ (by omega)).trans ha, by decide, _, zm_set_s _ _ _, by simp, _, zm_set_s _ _ _, by simp, _, zm_set_s _ _ _, by simp, _, zm_set_s _ _ _, by simp, by omega, by omega, hp _ rfl ?_ (zm_set_s _ _ _) (fun q q1 q2 => ?_)⟩
  · rw [zm_set_n _ _ (by omega), zm_set_n _ _ (by omega), zm_set_n _ _ (by omega), zm_set_n _ _ (by omega), zm_set_n _ _ (by omega)]
    exact zm_new_s _ _
  · rw [zm_set_n _ _ q2, zm_set_n _ _ q2, zm_set_n _ _ q2, zm_set_n _ _ q2, zm_set_n _ _ q2, zm_new_n _ _ (by omega)]
end IN
