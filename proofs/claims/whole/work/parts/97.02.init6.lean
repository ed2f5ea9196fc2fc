/-! ===== THE CONSTRUCTORS OF BOTH SIDES ===== -/
abbrev zS0 : zS := (fun _ => false, fun _ => 0, fun _ => 0, fun _ => 0, (0, fun _ => 0), [])
section IN6
variable {G : Nat → ClassId} {M : zm_M}
theorem iP {B ci k : Nat} {fs : List Value} {v : Value} {K : zm_M → Prop} (hB : M.2 B = some (.inr (ci, fs))) (hk : k < fs.length) (hp : ∀ N : zm_M, N.1 = M.1 → N.2 B = some (.inr (ci, fs.set k v)) → (∀ q, q ≠ B → N.2 q = M.2 q) → K N) : zw_p M B ci k v K := ⟨fs, hB, hk, hp _ rfl (zm_set_s _ _ _) (fun q hq => zm_set_n _ _ hq)⟩
theorem iA {bc bs c s kb : Nat} {n : Int32} {e : Nat → va_E} {K : zm_M → Prop} (m : Nat) (hn : n.toNatClampNeg = m) (h0 : ¬ n < 0) (hk : m * kb ≤ 536870912) (hc : c + 1 ≤ bc) (hs : s + m ≤ bs) (hp : ∀ N : zm_M, N.1 = M.1 + 1 → N.2 M.1 = some (e m) → (∀ q, q ≠ M.1 → N.2 q = M.2 q) → K N) : zw_na bc bs c s M n kb e K := by
  subst hn
  exact ⟨h0, hk, hc, hs, hp _ rfl (zm_new_s _ _) (fun q hq => zm_new_n _ _ hq)⟩
def zIl (G : Nat → ClassId) (B a : Nat) (M0 M : zm_M) : Prop := M.1 = B + 3 + 5 * a ∧ M.2 B = some (.inr (9, [.ref (B + 1), .ref (B + 2), .int 0, .null, .null, .null, .null])) ∧ (∃ fn : Nat → Option Nat, M.2 (B + 1) = some (.inl (G 4, (24, .inr (.inr (.inr (.inr fn)))))) ∧ ∀ j, j < a → fn j = some (B + (3 + 5 * j))) ∧ M.2 (B + 2) = some (.inl (G 1, (24, .inl (fun _ => 0)))) ∧ (∀ j, j < a → M.2 (B + (3 + 5 * j)) = some (.inr (5, [.int 0, .ref (B + (4 + 5 * j)), .ref (B + (6 + 5 * j))])) ∧ zwv G M (B + (4 + 5 * j)) (B + (4 + 5 * j) + 1) 16 0 ∧ zwv G M (B + (6 + 5 * j)) (B + (6 + 5 * j) + 1) 16 0) ∧ ∀ q, q < B → M.2 q = M0.2 q
theorem i6L {B bc bs : Nat} {M0 : zm_M} {post : zm_M → Prop} {k50 : Nat → Nat → Nat → zm_M → Prop} (hbc : 122 ≤ bc) (hbs : 984 ≤ bs) (hk : ∀ M', zIl G B 24 M0 M' → k50 B 122 984 M') : ∀ (d a : Nat) (M : zm_M), a + d = 24 → zIl G B a M0 M → pX6_init_23 G bc bs post k50 (d + 1) B (nI a) (2 + 5 * a) (48 + 39 * a) M
  | 0, a, M, ha, h => by
    have e : a = 24 := by omega
    subst e
    rw [pX6_init_23]
    exact ⟨fun _ => hk M h, fun y => absurd (by decide) y⟩
  | d + 1, a, M, ha, h => by
    rw [pX6_init_23]
    obtain ⟨h1, h2, ⟨fn, h3, h3'⟩, h4, h5, h6⟩ := h
    refine ⟨fun y => absurd ((nI_leI (a := 24) (by decide) (by omega)).mp y) (by omega), fun _ => ⟨_, _, h2, rfl, by omega, by omega, 4, 36, by omega, by omega, i2 (n := 16) (by decide) (by decide) (zm_new_s _ _) (Nat.lt_succ_self _) (by decide) (by decide) (fun M1 a1 a2 a3 a4 a5 => ?_)⟩⟩
    have e1 : M1.1 = B + 3 + 5 * a + 5 := by rw [show M1.1 = M.1 + 1 + 4 from a1, h1]
    have f1 : ∀ q, q < M.1 → M1.2 q = M.2 q := fun q hq => (a5 q (Nat.lt_succ_of_lt hq) (by omega)).trans (zm_new_n _ _ (by omega))
    have a2 : zwv G M1 (M.1 + 1) (M.1 + 1 + 1) 16 0 := a2
    have a3 : zwv G M1 (M.1 + 1 + 2) (M.1 + 1 + 3) 16 0 := a3
    have a4 : M1.2 M.1 = some (.inr (5, [.int 0, .ref (M.1 + 1), .ref (M.1 + 1 + 2)])) := a4
    rw [h1] at a2 a3 a4 f1
    refine ⟨24, fn, (f1 _ (by omega)).trans h3, ⟨_, by rw [h1]; exact a4⟩, vp_in_nI (by omega) (by decide), fun x12 e12 => ?_⟩
    rw [e12, nI_1, nI_clamp (by omega), h1, show 2 + 5 * a + 1 + 4 = 2 + 5 * (a + 1) by omega, show 48 + 39 * a + 3 + 36 = 48 + 39 * (a + 1) by omega]
    refine i6L hbc hbs hk d (a + 1) _ (by omega) ⟨by rw [show 5 * (a + 1) = 5 * a + 5 by omega]; exact e1, ?_, ⟨_, zm_set_s _ _ _, fun j hj => ?_⟩, ?_, fun j hj => ?_, fun q hq => ?_⟩
    · rw [zm_set_n _ _ (by omega), f1 _ (by omega)]; exact h2
    · by_cases e : j = a
      · subst e
        simp [va_up]
        omega
      · simp only [va_up, if_neg e]
        exact h3' j (by omega)
    · rw [zm_set_n _ _ (by omega), f1 _ (by omega)]; exact h4
    · by_cases e : j = a
      · subst e
        refine ⟨?_, zwv_kept (M := M1) (by rw [show B + (4 + 5 * j) = B + 3 + 5 * j + 1 by omega]; exact a2) (zm_set_n _ _ (by omega)) (zm_set_n _ _ (by omega)), zwv_kept (M := M1) (by rw [show B + (6 + 5 * j) = B + 3 + 5 * j + 1 + 2 by omega]; exact a3) (zm_set_n _ _ (by omega)) (zm_set_n _ _ (by omega))⟩
        rw [zm_set_n _ _ (by omega), show B + (3 + 5 * j) = B + 3 + 5 * j by omega, a4]
        rw [show B + (4 + 5 * j) = B + 3 + 5 * j + 1 by omega, show B + (6 + 5 * j) = B + 3 + 5 * j + 1 + 2 by omega]
      · obtain ⟨g1, g2, g3⟩ := h5 j (by omega)
        refine ⟨?_, zwv_kept g2 ?_ ?_, zwv_kept g3 ?_ ?_⟩
        all_goals rw [zm_set_n _ _ (by omega), f1 _ (by omega)]
        exact g1
    · rw [zm_set_n _ _ (by omega), f1 _ (by omega)]
      exact h6 q hq
theorem i7 {Bm : Nat} {post : zm_M → Prop} (h1 : M.1 = Bm + 1) (h2 : M.2 Bm = some (.inr (10, [.int 0, .null, .null, .null, .null, .null, .int 0, .null, .int 0, .null, .null, .int 0, .int 0, .null]))) (hp : ∀ M' : zm_M, M'.1 = Bm + 10 → zRM G Bm M' M' zS0 0 → (∀ q, q < Bm → M'.2 q = M.2 q) → post M') : pX7_init G Bm 9 4216 post M := by
  unfold pX7_init
  have c24 : (24 : Int32).toNatClampNeg = 24 := by decide
  have c48 : (48 : Int32).toNatClampNeg = 48 := by decide
  have c768 : (768 : Int32).toNatClampNeg = 768 := by decide
  have c400 : (400 : Int32).toNatClampNeg = 400 := by decide
  have c800 : (800 : Int32).toNatClampNeg = 800 := by decide
  have c1728 : (1728 : Int32).toNatClampNeg = 1728 := by decide
  rw [c24, c48, c768, c400, c800, c1728]
  refine iA 24 c24 (by decide) (by decide) (by decide) (by decide) (fun A1 p1 q1 r1 => iP ((r1 _ (by omega)).trans h2) (by simp) (fun B1 s1 t1 u1 => ?_))
  rw [h1] at p1 q1 r1 t1
  refine iA 24 c24 (by decide) (by decide) (by decide) (by decide) (fun A2 p2 q2 r2 => iP ((r2 _ (by omega)).trans t1) (by simp) (fun B2 s2 t2 u2 => ?_))
  have v1 : B1.1 = Bm + 2 := by omega
  rw [v1] at p2 q2 r2 t2
  refine iA 768 c768 (by decide) (by decide) (by decide) (by decide) (fun A3 p3 q3 r3 => iP ((r3 _ (by omega)).trans t2) (by simp) (fun B3 s3 t3 u3 => ?_))
  have v2 : B2.1 = Bm + 3 := by omega
  rw [v2] at p3 q3 r3 t3
  refine iA 48 c48 (by decide) (by decide) (by decide) (by decide) (fun A4 p4 q4 r4 => iP ((r4 _ (by omega)).trans t3) (by simp) (fun B4 s4 t4 u4 => ?_))
  have v3 : B3.1 = Bm + 4 := by omega
  rw [v3] at p4 q4 r4 t4
  refine iA 400 c400 (by decide) (by decide) (by decide) (by decide) (fun A5 p5 q5 r5 => iP ((r5 _ (by omega)).trans t4) (by simp) (fun B5 s5 t5 u5 => ?_))
  have v4 : B4.1 = Bm + 5 := by omega
  rw [v4] at p5 q5 r5 t5
  refine iA 800 c800 (by decide) (by decide) (by decide) (by decide) (fun A6 p6 q6 r6 => iP ((r6 _ (by omega)).trans t5) (by simp) (fun B6 s6 t6 u6 => ?_))
  have v5 : B5.1 = Bm + 6 := by omega
  rw [v5] at p6 q6 r6 t6
  refine iA 1728 c1728 (by decide) (by decide) (by decide) (by decide) (fun A7 p7 q7 r7 => iP ((r7 _ (by omega)).trans t6) (by simp) (fun B7 s7 t7 u7 => ?_))
  have v6 : B6.1 = Bm + 7 := by omega
  rw [v6] at p7 q7 r7 t7
  refine iA 24 c24 (by decide) (by decide) (by decide) (by decide) (fun A8 p8 q8 r8 => iP ((r8 _ (by omega)).trans t7) (by simp) (fun B8 s8 t8 u8 => ?_))
  have v7 : B7.1 = Bm + 8 := by omega
  rw [v7] at p8 q8 r8 t8
  refine iA 400 c400 (by decide) (by decide) (by decide) (by decide) (fun A9 p9 q9 r9 => iP ((r9 _ (by omega)).trans t8) (by simp) (fun B9 s9 t9 u9 => ?_))
  have v8 : B8.1 = Bm + 9 := by omega
  rw [v8] at p9 q9 r9 t9
  refine iP t9 (by simp) (fun Z z1 z2 z3 => ⟨by decide, by decide, hp Z (by omega) ?_ (fun q hq => ?_)⟩)
  · refine ⟨fun _ => 0, fun _ _ => 0, fun _ => 0, fun _ => 0, ⟨fun _ => 0, fun _ => 0, ⟨⟨rfl, fun _ _ => rfl⟩, z2, ?_, ?_, ?_, ?_, ?_, ?_, ?_, ?_, ?_⟩, fun r hr => ⟨0, rfl, Nat.zero_le _, fun i hi => absurd hi (Nat.not_lt_zero i), rfl, fun h => absurd h (by decide)⟩⟩, ⟨fun a ha => rfl, fun a ha ht => (by cases ht), ⟨rfl, Nat.zero_le _, fun j hj => absurd hj (Nat.not_lt_zero j)⟩, ⟨rfl, Nat.zero_le _, fun j b hj => (by cases hj)⟩, fun a ha ht => (by cases ht)⟩, rfl⟩
    · rw [z3 _ (by omega), u9 _ (by omega), r9 _ (by omega), u8 _ (by omega), r8 _ (by omega), u7 _ (by omega), r7 _ (by omega), u6 _ (by omega), r6 _ (by omega), u5 _ (by omega), r5 _ (by omega), u4 _ (by omega), r4 _ (by omega), u3 _ (by omega), r3 _ (by omega), u2 _ (by omega), r2 _ (by omega), u1 _ (by omega)]; exact q1
    · rw [z3 _ (by omega), u9 _ (by omega), r9 _ (by omega), u8 _ (by omega), r8 _ (by omega), u7 _ (by omega), r7 _ (by omega), u6 _ (by omega), r6 _ (by omega), u5 _ (by omega), r5 _ (by omega), u4 _ (by omega), r4 _ (by omega), u3 _ (by omega), r3 _ (by omega), u2 _ (by omega)]; exact q2
    · rw [z3 _ (by omega), u9 _ (by omega), r9 _ (by omega), u8 _ (by omega), r8 _ (by omega), u7 _ (by omega), r7 _ (by omega), u6 _ (by omega), r6 _ (by omega), u5 _ (by omega), r5 _ (by omega), u4 _ (by omega), r4 _ (by omega), u3 _ (by omega)]; exact q3
    · rw [z3 _ (by omega), u9 _ (by omega), r9 _ (by omega), u8 _ (by omega), r8 _ (by omega), u7 _ (by omega), r7 _ (by omega), u6 _ (by omega), r6 _ (by omega), u5 _ (by omega), r5 _ (by omega), u4 _ (by omega)]; exact q4
    · rw [z3 _ (by omega), u9 _ (by omega), r9 _ (by omega), u8 _ (by omega), r8 _ (by omega), u7 _ (by omega), r7 _ (by omega), u6 _ (by omega), r6 _ (by omega), u5 _ (by omega)]; exact q5
    · rw [z3 _ (by omega), u9 _ (by omega), r9 _ (by omega), u8 _ (by omega), r8 _ (by omega), u7 _ (by omega), r7 _ (by omega), u6 _ (by omega)]; exact q6
    · rw [z3 _ (by omega), u9 _ (by omega), r9 _ (by omega), u8 _ (by omega), r8 _ (by omega), u7 _ (by omega)]; exact q7
    · rw [z3 _ (by omega), u9 _ (by omega), r9 _ (by omega), u8 _ (by omega)]; exact q8
    · rw [z3 _ (by omega), u9 _ (by omega)]; exact q9
  · rw [z3 _ (by omega), u9 _ (by omega), r9 _ (by omega), u8 _ (by omega), r8 _ (by omega), u7 _ (by omega), r7 _ (by omega), u6 _ (by omega), r6 _ (by omega), u5 _ (by omega), r5 _ (by omega), u4 _ (by omega), r4 _ (by omega), u3 _ (by omega), r3 _ (by omega), u2 _ (by omega), r2 _ (by omega), u1 _ (by omega), r1 _ (by omega)]
end IN6
