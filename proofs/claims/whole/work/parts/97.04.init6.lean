section IN6
variable {G : Nat → ClassId} {M : zm_M}
theorem i6b {B c s bc bs : Nat} {fs : List Value} {K : Nat → Nat → zm_M → Prop} (hB : M.2 B = some (.inr (9, fs))) (hlt : B < M.1) (hk : 3 < fs.length) (hc : c + 14 ≤ bc) (hs : s + 236 ≤ bs) (hp : ∀ M' : zm_M, M'.1 = M.1 + 14 → M'.2 B = some (.inr (9, fs.set 3 (.ref M.1))) → (∀ q, q < M.1 → q ≠ B → M'.2 q = M.2 q) → M'.2 M.1 = some (.inr (3, [.ref (M.1 + 1), .ref (M.1 + 1 + 5), .ref (M.1 + 1 + 7), .ref (M.1 + 1 + 9), .ref (M.1 + 1 + 11)])) → M'.2 (M.1 + 1) = some (.inr (5, [.int 0, .ref (M.1 + 1 + 1), .ref (M.1 + 1 + 3)])) → zwv G M' (M.1 + 1 + 1) (M.1 + 1 + 2) 36 0 → zwv G M' (M.1 + 1 + 3) (M.1 + 1 + 4) 36 0 → (∀ j, j < 4 → zwv G M' (M.1 + 1 + 5 + 2 * j) (M.1 + 1 + 5 + 2 * j + 1) 36 0) → K 13 231 M') : zw_no bc bs c s M 3 5 [.null, .null, .null, .null, .null] (fun M1 => ∃ mc ms : Nat, (c + 1) + mc ≤ bc ∧ (s + 5) + ms ≤ bs ∧ pX0_init G (M.1) mc ms (fun M4 => zw_p M4 B 9 3 (.ref (M.1)) (fun M5 => K mc ms M5)) M1) := by
  refine ⟨by omega, by omega, 13, 231, by omega, by omega, i0 (zm_new_s _ _) (Nat.lt_succ_self _) (Nat.le_refl _) (Nat.le_refl _) (fun X b1 b2 b3 b4 b5 b6 b7 => ?_)⟩
  have b1 : X.1 = M.1 + 1 + 13 := b1
  have b2 : X.2 (M.1 + 1) = _ := b2
  have b3 : zwv G X (M.1 + 1 + 1) (M.1 + 1 + 2) 36 0 := b3
  have b4 : zwv G X (M.1 + 1 + 3) (M.1 + 1 + 4) 36 0 := b4
  have b5 : ∀ j, j < 4 → zwv G X (M.1 + 1 + 5 + 2 * j) (M.1 + 1 + 5 + 2 * j + 1) 36 0 := b5
  have w : ∀ q, q < M.1 → X.2 q = M.2 q := fun q hq => (b7 q (Nat.lt_succ_of_lt hq) (Nat.ne_of_lt hq)).trans (zm_new_n _ _ (Nat.ne_of_lt hq))
  clear b7
  refine iP ((w B hlt).trans hB) hk (fun Y v1 v2 v3 => hp Y (v1.trans b1) v2 (fun q q1 q2 => (v3 q q2).trans (w q q1)) ((v3 _ (Nat.ne_of_gt hlt)).trans b6) ((v3 _ (by omega)).trans b2) (zwv_kept b3 (v3 _ (by omega)) (v3 _ (by omega))) (zwv_kept b4 (v3 _ (by omega)) (v3 _ (by omega))) (fun j hj => zwv_kept (b5 j hj) (v3 _ (by omega)) (v3 _ (by omega))))
theorem i6c {B c s bc bs : Nat} {fs : List Value} {K : Nat → Nat → zm_M → Prop} (hB : M.2 B = some (.inr (9, fs))) (hlt : B < M.1) (hk : 4 < fs.length) (hc : c + 21 ≤ bc) (hs : s + 391 ≤ bs) (hp : ∀ M' : zm_M, M'.1 = M.1 + 21 → M'.2 B = some (.inr (9, fs.set 4 (.ref M.1))) → (∀ q, q < M.1 → q ≠ B → M'.2 q = M.2 q) → M'.2 M.1 = some (.inr (4, [.int 0, .ref (M.1 + 1), .ref (M.1 + 1 + 2), .ref (M.1 + 1 + 4), .ref (M.1 + 1 + 6), .ref (M.1 + 1 + 8), .ref (M.1 + 1 + 10), .ref (M.1 + 1 + 12), .ref (M.1 + 1 + 14), .ref (M.1 + 1 + 16), .ref (M.1 + 1 + 18)])) → (∀ j, j < 10 → zwv G M' (M.1 + 1 + 2 * j) (M.1 + 1 + 2 * j + 1) 36 0) → K 20 380 M') : zw_no bc bs c s M 4 11 [.int 0, .null, .null, .null, .null, .null, .null, .null, .null, .null, .null] (fun M1 => ∃ mc ms : Nat, (c + 1) + mc ≤ bc ∧ (s + 11) + ms ≤ bs ∧ pX1_init G (M.1) mc ms (fun M4 => zw_p M4 B 9 4 (.ref (M.1)) (fun M5 => K mc ms M5)) M1) := by
  refine ⟨by omega, by omega, 20, 380, by omega, by omega, i1 (zm_new_s _ _) (Nat.lt_succ_self _) (Nat.le_refl _) (Nat.le_refl _) (fun X b1 b2 b6 b7 => ?_)⟩
  have b1 : X.1 = M.1 + 1 + 20 := b1
  have b2 : ∀ j, j < 10 → zwv G X (M.1 + 1 + 2 * j) (M.1 + 1 + 2 * j + 1) 36 0 := b2
  have w : ∀ q, q < M.1 → X.2 q = M.2 q := fun q hq => (b7 q (Nat.lt_succ_of_lt hq) (Nat.ne_of_lt hq)).trans (zm_new_n _ _ (Nat.ne_of_lt hq))
  clear b7
  exact iP ((w B hlt).trans hB) hk (fun Y v1 v2 v3 => hp Y (v1.trans b1) v2 (fun q q1 q2 => (v3 q q2).trans (w q q1)) ((v3 _ (Nat.ne_of_gt hlt)).trans b6) (fun j hj => zwv_kept (b2 j hj) (v3 _ (by omega)) (v3 _ (by omega))))
theorem i6d {B c s bc bs : Nat} {fs : List Value} {K : Nat → Nat → zm_M → Prop} (hB : M.2 B = some (.inr (9, fs))) (hlt : B < M.1) (hk : 5 < fs.length) (hc : c + 2 ≤ bc) (hs : s + 405 ≤ bs) (hp : ∀ M' : zm_M, M'.1 = M.1 + 2 → M'.2 B = some (.inr (9, fs.set 5 (.ref M.1))) → (∀ q, q < M.1 → q ≠ B → M'.2 q = M.2 q) → M'.2 M.1 = some (.inr (7, [.ref (M.1 + 1), .int 0, .int 0, .int 0, .int 0])) → M'.2 (M.1 + 1) = some (.inl (G 2, (400, .inl (fun _ => 0)))) → K 1 400 M') : zw_no bc bs c s M 7 5 [.null, .int 0, .int 0, .int 0, .int 0] (fun M1 => ∃ mc ms : Nat, (c + 1) + mc ≤ bc ∧ (s + 5) + ms ≤ bs ∧ pX4_init G (M.1) mc ms (fun M4 => zw_p M4 B 9 5 (.ref (M.1)) (fun M5 => K mc ms M5)) M1) := by
  refine ⟨by omega, by omega, 1, 400, by omega, by omega, i4 (zm_new_s _ _) (Nat.lt_succ_self _) (Nat.le_refl _) (Nat.le_refl _) (fun X b1 b2 b6 b7 => ?_)⟩
  have b1 : X.1 = M.1 + 1 + 1 := b1
  have b2 : X.2 (M.1 + 1) = _ := b2
  have w : ∀ q, q < M.1 → X.2 q = M.2 q := fun q hq => (b7 q (Nat.lt_succ_of_lt hq) (Nat.ne_of_lt hq)).trans (zm_new_n _ _ (Nat.ne_of_lt hq))
  clear b7
  exact iP ((w B hlt).trans hB) hk (fun Y v1 v2 v3 => hp Y (v1.trans b1) v2 (fun q q1 q2 => (v3 q q2).trans (w q q1)) ((v3 _ (Nat.ne_of_gt hlt)).trans b6) ((v3 _ (by omega)).trans b2))
theorem i6e {B c s bc bs : Nat} {fs : List Value} {K : Nat → Nat → zm_M → Prop} (hB : M.2 B = some (.inr (9, fs))) (hlt : B < M.1) (hk : 6 < fs.length) (hc : c + 8 ≤ bc) (hs : s + 439 ≤ bs) (hp : ∀ M' : zm_M, M'.1 = M.1 + 8 → M'.2 B = some (.inr (9, fs.set 6 (.ref M.1))) → (∀ q, q < M.1 → q ≠ B → M'.2 q = M.2 q) → M'.2 M.1 = some (.inr (6, [.ref (M.1 + 1), .int 0, .ref (M.1 + 1 + 1), .ref (M.1 + 1 + 3), .ref (M.1 + 1 + 5)])) → M'.2 (M.1 + 1) = some (.inl (G 2, (320, .inl (fun _ => 0)))) → (∀ j, j < 3 → zwv G M' (M.1 + 1 + 1 + 2 * j) (M.1 + 1 + 1 + 2 * j + 1) 36 0) → K 7 434 M') : zw_no bc bs c s M 6 5 [.null, .int 0, .null, .null, .null] (fun M1 => ∃ mc ms : Nat, (c + 1) + mc ≤ bc ∧ (s + 5) + ms ≤ bs ∧ pX3_init G (M.1) mc ms (fun M4 => zw_p M4 B 9 6 (.ref (M.1)) (fun M5 => K mc ms M5)) M1) := by
  refine ⟨by omega, by omega, 7, 434, by omega, by omega, i3 (zm_new_s _ _) (Nat.lt_succ_self _) (Nat.le_refl _) (Nat.le_refl _) (fun X b1 b2 b3 b6 b7 => ?_)⟩
  have b1 : X.1 = M.1 + 1 + 7 := b1
  have b2 : X.2 (M.1 + 1) = _ := b2
  have b3 : ∀ j, j < 3 → zwv G X (M.1 + 1 + 1 + 2 * j) (M.1 + 1 + 1 + 2 * j + 1) 36 0 := b3
  have w : ∀ q, q < M.1 → X.2 q = M.2 q := fun q hq => (b7 q (Nat.lt_succ_of_lt hq) (Nat.ne_of_lt hq)).trans (zm_new_n _ _ (Nat.ne_of_lt hq))
  clear b7
  exact iP ((w B hlt).trans hB) hk (fun Y v1 v2 v3 => hp Y (v1.trans b1) v2 (fun q q1 q2 => (v3 q q2).trans (w q q1)) ((v3 _ (Nat.ne_of_gt hlt)).trans b6) ((v3 _ (by omega)).trans b2) (fun j hj => zwv_kept (b3 j hj) (v3 _ (by omega)) (v3 _ (by omega))))
theorem i6f {B : Nat} {M0 L : zm_M} {post : zm_M → Prop} (h : zIl G B 24 M0 L) (hp : ∀ M' : zm_M, M'.1 = B + 168 → zRC G B M' M' zS0 → (∀ q, q < B → M'.2 q = M0.2 q) → post M') : zw_p L B 9 2 (.int (0 : Int32)) (fun M17 => zw_no 167 2455 122 984 M17 3 5 [.null, .null, .null, .null, .null] (fun M18 => ∃ mc19 ms20 : Nat, (122 + 1) + mc19 ≤ 167 ∧ (984 + 5) + ms20 ≤ 2455 ∧ pX0_init G (M17.1)  mc19 ms20 (fun M21 => zw_p M21 B 9 3 (.ref (M17.1)) (fun M22 => zw_no 167 2455 ((122 + 1) + mc19) ((984 + 5) + ms20) M22 4 11 [.int 0, .null, .null, .null, .null, .null, .null, .null, .null, .null, .null] (fun M23 => ∃ mc24 ms25 : Nat, (((122 + 1) + mc19) + 1) + mc24 ≤ 167 ∧ (((984 + 5) + ms20) + 11) + ms25 ≤ 2455 ∧ pX1_init G (M22.1)  mc24 ms25 (fun M26 => zw_p M26 B 9 4 (.ref (M22.1)) (fun M27 => zw_no 167 2455 ((((122 + 1) + mc19) + 1) + mc24) ((((984 + 5) + ms20) + 11) + ms25) M27 7 5 [.null, .int 0, .int 0, .int 0, .int 0] (fun M28 => ∃ mc29 ms30 : Nat, (((((122 + 1) + mc19) + 1) + mc24) + 1) + mc29 ≤ 167 ∧ (((((984 + 5) + ms20) + 11) + ms25) + 5) + ms30 ≤ 2455 ∧ pX4_init G (M27.1)  mc29 ms30 (fun M31 => zw_p M31 B 9 5 (.ref (M27.1)) (fun M32 => zw_no 167 2455 ((((((122 + 1) + mc19) + 1) + mc24) + 1) + mc29) ((((((984 + 5) + ms20) + 11) + ms25) + 5) + ms30) M32 6 5 [.null, .int 0, .null, .null, .null] (fun M33 => ∃ mc34 ms35 : Nat, (((((((122 + 1) + mc19) + 1) + mc24) + 1) + mc29) + 1) + mc34 ≤ 167 ∧ (((((((984 + 5) + ms20) + 11) + ms25) + 5) + ms30) + 5) + ms35 ≤ 2455 ∧ pX3_init G (M32.1)  mc34 ms35 (fun M36 => zw_p M36 B 9 6 (.ref (M32.1)) (fun M37 => ((((((((122 + 1) + mc19) + 1) + mc24) + 1) + mc29) + 1) + mc34) ≤ 167 ∧ ((((((((984 + 5) + ms20) + 11) + ms25) + 5) + ms30) + 5) + ms35) ≤ 2455 ∧ post M37)) M33))) M28))) M23))) M18)) := by
  obtain ⟨l1, l2, ⟨fn, l3, l3'⟩, l4, l5, l6⟩ := h
  refine iP l2 (by simp) (fun L0 u1 u2 u3 => i6b u2 (by omega) (by simp) (by decide) (by decide) (fun Y1 v1 v2 v3 b6 b2 b3 b4 b5 => i6c v2 (by omega) (by simp) (by decide) (by decide) (fun Y2 y1 y2 y3 c3 c2 => i6d y2 (by omega) (by simp) (by decide) (by decide) (fun Y3 g1 g2 g3 d3 d2 => i6e g2 (by omega) (by simp) (by decide) (by decide) (fun Z t1 t2 t3 e4 e2 e3 => ⟨by decide, by decide, hp Z (by omega) ?_ (fun q hq => ?_)⟩)))))
  · have z0 : L0.1 = B + 123 := by omega
    have z1 : Y1.1 = B + 137 := by omega
    have z2 : Y2.1 = B + 158 := by omega
    have z3 : Y3.1 = B + 160 := by omega
    rw [z0] at v2 y2 g2 t2 v3 b6 b2 b3 b4 b5
    rw [z1] at y2 g2 t2 y3 c3 c2
    rw [z2] at g2 t2 g3 d3 d2
    rw [z3] at t2 t3 e4 e2 e3
    clear hp l6 u1 v1 y1 g1 t1 z0 z1 z2 z3 l1
    have lt : ∀ {a b : Nat}, a ≤ b → ∀ {q : Nat}, q < B + a → q < B + b := fun h q hq => Nat.lt_of_lt_of_le hq (Nat.add_le_add_left h B)
    have o4 : ∀ q, B < q → q < B + 160 → Z.2 q = Y3.2 q := fun q qa qb => t3 q qb (Nat.ne_of_gt qa)
    have o2 : ∀ q, B < q → q < B + 158 → Z.2 q = Y2.2 q := fun q qa qb => (o4 q qa (lt (by decide) qb)).trans (g3 q qb (Nat.ne_of_gt qa))
    have o1 : ∀ q, B < q → q < B + 137 → Z.2 q = Y1.2 q := fun q qa qb => (o2 q qa (lt (by decide) qb)).trans (y3 q qb (Nat.ne_of_gt qa))
    have o0 : ∀ q, B < q → q < B + 123 → Z.2 q = L.2 q := fun q qa qb => (o1 q qa (lt (by decide) qb)).trans ((v3 q qb (Nat.ne_of_gt qa)).trans (u3 q (Nat.ne_of_gt qa)))
    exact i6t (fn := fn) t2 l3 l3' l4 l5 b6 b2 b3 b4 b5 c3 c2 d3 d2 e4 e2 e3 o0 o1 o2 o4 (fun q qa => rfl)
  · rw [t3 q (by omega) (Nat.ne_of_lt hq), g3 q (by omega) (Nat.ne_of_lt hq), y3 q (by omega) (Nat.ne_of_lt hq), v3 q (by omega) (Nat.ne_of_lt hq), u3 q (Nat.ne_of_lt hq)]
    exact l6 q hq
theorem i6 {B : Nat} {post : zm_M → Prop} (h1 : M.1 = B + 1) (h2 : M.2 B = some (.inr (9, [.null, .null, .int 0, .null, .null, .null, .null]))) (hp : ∀ M' : zm_M, M'.1 = B + 168 → zRC G B M' M' zS0 → (∀ q, q < B → M'.2 q = M.2 q) → post M') : pX6_init G B 167 2455 post M := by
  unfold pX6_init
  have c24 : (24 : Int32).toNatClampNeg = 24 := by decide
  rw [c24]
  refine iA 24 c24 (by decide) (by decide) (by decide) (by decide) (fun N1 p1 q1 r1 => iP ((r1 _ (by omega)).trans h2) (by simp) (fun N2 p2 q2 r2 => iA 24 c24 (by decide) (by decide) (by decide) (by decide) (fun N3 p3 q3 r3 => iP ((r3 _ (by omega)).trans q2) (by simp) (fun N4 p4 q4 r4 x5 e5 => ⟨25, ?_⟩))))
  rw [h1] at p1 q1 q2 r1 q4
  have s2 : N2.1 = B + 2 := by omega
  rw [s2] at p3 q3 q4 r3
  rw [e5]
  have hl : zIl G B 0 M N4 := ⟨by omega, q4, ⟨_, by rw [r4 _ (by omega), r3 _ (by omega), r2 _ (by omega)]; exact q1, fun j hj => absurd hj (Nat.not_lt_zero j)⟩, by rw [r4 _ (by omega)]; exact q3, fun j hj => absurd hj (Nat.not_lt_zero j), fun q hq => by rw [r4 _ (by omega), r3 _ (by omega), r2 _ (by omega), r1 _ (by omega)]⟩
  exact i6L (M0 := M) (by decide) (by decide) (fun L hL => i6f hL hp) 24 0 N4 rfl hl
end IN6
