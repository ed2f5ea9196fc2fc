section IN6
variable {G : Nat → ClassId} {M : zm_M}
theorem i6z {B : Nat} {Z : zm_M} {fn : Nat → Option Nat} (t2 : Z.2 B = some (.inr (9, [.ref (B + 1), .ref (B + 2), .int 0, .ref (B + 123), .ref (B + 137), .ref (B + 158), .ref (B + 160)]))) (l3 : Z.2 (B + 1) = some (.inl (G 4, (24, .inr (.inr (.inr (.inr fn))))))) (l3' : ∀ j, j < 24 → fn j = some (B + (3 + 5 * j))) (l4 : Z.2 (B + 2) = some (.inl (G 1, (24, .inl (fun _ => 0))))) (l5 : ∀ j, j < 24 → Z.2 (B + (3 + 5 * j)) = some (.inr (5, [.int 0, .ref (B + (4 + 5 * j)), .ref (B + (6 + 5 * j))])) ∧ zwv G Z (B + (4 + 5 * j)) (B + (4 + 5 * j) + 1) 16 0 ∧ zwv G Z (B + (6 + 5 * j)) (B + (6 + 5 * j) + 1) 16 0)
    (b6 : Z.2 (B + 123) = some (.inr (3, [.ref (B + 124), .ref (B + 124 + 5), .ref (B + 124 + 7), .ref (B + 124 + 9), .ref (B + 124 + 11)]))) (b2 : Z.2 (B + 124) = some (.inr (5, [.int 0, .ref (B + 124 + 1), .ref (B + 124 + 3)]))) (b3 : zwv G Z (B + 124 + 1) (B + 124 + 2) 36 0) (b4 : zwv G Z (B + 124 + 3) (B + 124 + 4) 36 0) (b5 : ∀ j, j < 4 → zwv G Z (B + 124 + 5 + 2 * j) (B + 124 + 5 + 2 * j + 1) 36 0)
    (c3 : Z.2 (B + 137) = some (.inr (4, [.int 0, .ref (B + 138), .ref (B + 138 + 2), .ref (B + 138 + 4), .ref (B + 138 + 6), .ref (B + 138 + 8), .ref (B + 138 + 10), .ref (B + 138 + 12), .ref (B + 138 + 14), .ref (B + 138 + 16), .ref (B + 138 + 18)]))) (c2 : ∀ j, j < 10 → zwv G Z (B + 138 + 2 * j) (B + 138 + 2 * j + 1) 36 0)
    (d3 : Z.2 (B + 158) = some (.inr (7, [.ref (B + 159), .int 0, .int 0, .int 0, .int 0]))) (d2 : Z.2 (B + 159) = some (.inl (G 2, (400, .inl (fun _ => 0)))))
    (e4 : Z.2 (B + 160) = some (.inr (6, [.ref (B + 161), .int 0, .ref (B + 161 + 1), .ref (B + 161 + 3), .ref (B + 161 + 5)]))) (e2 : Z.2 (B + 161) = some (.inl (G 2, (320, .inl (fun _ => 0))))) (e3 : ∀ j, j < 3 → zwv G Z (B + 161 + 1 + 2 * j) (B + 161 + 1 + 2 * j + 1) 36 0) : zRC G B Z Z zS0 := by
  refine ⟨fun _ => 0, fun _ => 0, fun i => i, fun _ _ => 0, ⟨⟨rfl, fun _ _ => rfl⟩, fun i hi => ?_, fun a ha => ?_, ?_, ?_, ?_, ?_, ?_, ?_, ?_, ⟨fn, ?_, fun a ha => ?_⟩, ?_, fun i hi => hi, fun i j _ _ h => h⟩, fun a ha => rfl, fun a ha ht => (by cases ht), rfl, ⟨rfl, Nat.zero_le _, fun j hj => absurd hj (Nat.not_lt_zero j)⟩, ⟨rfl, Nat.zero_le _, fun j b hj => (by cases hj)⟩, fun a ha ht => (by cases ht)⟩
  · unfold zo_w zo_c
    by_cases c1' : i < 48
    · rw [if_pos c1', if_pos c1']
      obtain ⟨m1, m2, m3⟩ := l5 (i / 2) (by omega)
      rcases Nat.mod_two_eq_zero_or_one i with e | e
      · rw [e, show B + (4 + 5 * (i / 2) + 2 * 0) = B + (4 + 5 * (i / 2)) by omega]
        exact m2
      · rw [e, show B + (4 + 5 * (i / 2) + 2 * 1) = B + (6 + 5 * (i / 2)) by omega]
        exact m3
    · rw [if_neg c1', if_neg c1']
      by_cases c2' : i < 54
      · rw [if_pos c2']
        by_cases e48 : i = 48
        · subst e48
          exact b3
        · by_cases e49 : i = 49
          · subst e49
            exact b4
          · have := b5 (i - 50) (by omega)
            rw [show B + 124 + 5 + 2 * (i - 50) = B + (29 + 2 * i) by omega] at this
            exact this
      · rw [if_neg c2']
        by_cases c3' : i < 64
        · rw [if_pos c3']
          have := c2 (i - 54) (by omega)
          rw [show B + 138 + 2 * (i - 54) = B + (30 + 2 * i) by omega] at this
          exact this
        · rw [if_neg c3']
          have := e3 (i - 64) (by omega)
          rw [show B + 161 + 1 + 2 * (i - 64) = B + (34 + 2 * i) by omega] at this
          exact this
  · unfold zo_r
    by_cases c1' : a < 24
    · rw [if_pos c1', (l5 a c1').1]
      have x1 : zo_w (2 * a) = 4 + 5 * a := by unfold zo_w; rw [if_pos (by omega)]; omega
      have x2 : zo_w (2 * a + 1) = 6 + 5 * a := by unfold zo_w; rw [if_pos (by omega)]; omega
      rw [x1, x2]
    · have e : a = 24 := by omega
      subst e
      rw [if_neg c1']
      exact b2
  · exact b6
  · exact c3
  · exact d3
  · exact d2
  · exact e4
  · exact e2
  · exact t2
  · exact l3
  · rw [l3' a ha]
    unfold zo_r
    rw [if_pos ha]
  · exact l4
theorem i6t {B : Nat} {Z L X1 X2 X3 X4 : zm_M} {fn : Nat → Option Nat} (t2 : Z.2 B = some (.inr (9, [.ref (B + 1), .ref (B + 2), .int 0, .ref (B + 123), .ref (B + 137), .ref (B + 158), .ref (B + 160)]))) (l3 : L.2 (B + 1) = some (.inl (G 4, (24, .inr (.inr (.inr (.inr fn))))))) (l3' : ∀ j, j < 24 → fn j = some (B + (3 + 5 * j))) (l4 : L.2 (B + 2) = some (.inl (G 1, (24, .inl (fun _ => 0))))) (l5 : ∀ j, j < 24 → L.2 (B + (3 + 5 * j)) = some (.inr (5, [.int 0, .ref (B + (4 + 5 * j)), .ref (B + (6 + 5 * j))])) ∧ zwv G L (B + (4 + 5 * j)) (B + (4 + 5 * j) + 1) 16 0 ∧ zwv G L (B + (6 + 5 * j)) (B + (6 + 5 * j) + 1) 16 0)
    (b6 : X1.2 (B + 123) = some (.inr (3, [.ref (B + 124), .ref (B + 124 + 5), .ref (B + 124 + 7), .ref (B + 124 + 9), .ref (B + 124 + 11)]))) (b2 : X1.2 (B + 124) = some (.inr (5, [.int 0, .ref (B + 124 + 1), .ref (B + 124 + 3)]))) (b3 : zwv G X1 (B + 124 + 1) (B + 124 + 2) 36 0) (b4 : zwv G X1 (B + 124 + 3) (B + 124 + 4) 36 0) (b5 : ∀ j, j < 4 → zwv G X1 (B + 124 + 5 + 2 * j) (B + 124 + 5 + 2 * j + 1) 36 0)
    (c3 : X2.2 (B + 137) = some (.inr (4, [.int 0, .ref (B + 138), .ref (B + 138 + 2), .ref (B + 138 + 4), .ref (B + 138 + 6), .ref (B + 138 + 8), .ref (B + 138 + 10), .ref (B + 138 + 12), .ref (B + 138 + 14), .ref (B + 138 + 16), .ref (B + 138 + 18)]))) (c2 : ∀ j, j < 10 → zwv G X2 (B + 138 + 2 * j) (B + 138 + 2 * j + 1) 36 0)
    (d3 : X3.2 (B + 158) = some (.inr (7, [.ref (B + 159), .int 0, .int 0, .int 0, .int 0]))) (d2 : X3.2 (B + 159) = some (.inl (G 2, (400, .inl (fun _ => 0)))))
    (e4 : X4.2 (B + 160) = some (.inr (6, [.ref (B + 161), .int 0, .ref (B + 161 + 1), .ref (B + 161 + 3), .ref (B + 161 + 5)]))) (e2 : X4.2 (B + 161) = some (.inl (G 2, (320, .inl (fun _ => 0))))) (e3 : ∀ j, j < 3 → zwv G X4 (B + 161 + 1 + 2 * j) (B + 161 + 1 + 2 * j + 1) 36 0)
    (o0 : ∀ q, B < q → q < B + 123 → Z.2 q = L.2 q) (o1 : ∀ q, B < q → q < B + 137 → Z.2 q = X1.2 q) (o2 : ∀ q, B < q → q < B + 158 → Z.2 q = X2.2 q) (o3 : ∀ q, B < q → q < B + 160 → Z.2 q = X3.2 q) (o4 : ∀ q, B < q → Z.2 q = X4.2 q) : zRC G B Z Z zS0 := by
  refine i6z (fn := fn) t2 ((o0 _ (by omega) (by omega)).trans l3) l3' ((o0 _ (by omega) (by omega)).trans l4) (fun j hj => ?_) ((o1 _ (by omega) (by omega)).trans b6) ((o1 _ (by omega) (by omega)).trans b2) (zwv_kept b3 (o1 _ (by omega) (by omega)) (o1 _ (by omega) (by omega))) (zwv_kept b4 (o1 _ (by omega) (by omega)) (o1 _ (by omega) (by omega))) (fun j hj => zwv_kept (b5 j hj) (o1 _ (by omega) (by omega)) (o1 _ (by omega) (by omega))) ((o2 _ (by omega) (by omega)).trans c3) (fun j hj => zwv_kept (c2 j hj) (o2 _ (by omega) (by omega)) (o2 _ (by omega) (by omega))) ((o3 _ (by omega) (by omega)).trans d3) ((o3 _ (by omega) (by omega)).trans d2) ((o4 _ (by omega)).trans e4) ((o4 _ (by omega)).trans e2) (fun j hj => zwv_kept (e3 j hj) (o4 _ (by omega)) (o4 _ (by omega)))
  obtain ⟨m1, m2, m3⟩ := l5 j hj
  exact ⟨(o0 _ (by omega) (by omega)).trans m1, zwv_kept m2 (o0 _ (by omega) (by omega)) (o0 _ (by omega) (by omega)), zwv_kept m3 (o0 _ (by omega) (by omega)) (o0 _ (by omega) (by omega))⟩
end IN6
