/-! ===== THE CLASS'S STATE: Wides by their numbers, ints, rows ===== -/
def ux (σ : Nat → Nat) (i v : Nat) : Nat → Nat := fun j => if j = i then v else σ j
theorem ux_s {σ : Nat → Nat} {i v : Nat} : ux σ i v i = v := if_pos rfl
theorem ux_n {σ : Nat → Nat} {i v j : Nat} (h : j ≠ i) : ux σ i v j = σ j := if_neg h
/-- the Wides: 2a and 2a+1 the number a's; 48, 49 the result's; 50 left, 51 right, 52 quotient, 53 spare; 54 head, 55 rest, 56 link, 57 .. 62 the chain's six that change places, 63 its spare; 64 left, 65 rest, 66 quotient of the sheet -/
def zo_w (i : Nat) : Nat := if i < 48 then 4 + 5 * (i / 2) + 2 * (i % 2) else if i < 54 then 29 + 2 * i else if i < 64 then 30 + 2 * i else 34 + 2 * i
def zo_c (i : Nat) : Nat := if i < 48 then 16 else 36
def zo_r (a : Nat) : Nat := if a < 24 then 3 + 5 * a else 124
theorem zo_wi {i j : Nat} (hi : i < 67) (hj : j < 67) (h : i ≠ j) : zo_w i ≠ zo_w j ∧ zo_w i ≠ zo_w j + 1 ∧ zo_w i + 1 ≠ zo_w j := by
  unfold zo_w
  refine ⟨?_, ?_, ?_⟩ <;> (split <;> split <;> (try split) <;> (try split) <;> (try split) <;> (try split) <;> omega)
theorem zo_wl {i : Nat} (hi : i < 67) : 4 ≤ zo_w i ∧ zo_w i + 1 < 168 := by
  unfold zo_w
  refine ⟨?_, ?_⟩ <;> (split <;> (try split) <;> (try split) <;> omega)
theorem zo_rl {a : Nat} (ha : a ≤ 24) : 3 ≤ zo_r a ∧ zo_r a < 125 ∧ zo_r a ≠ 123 := by
  unfold zo_r
  refine ⟨?_, ?_, ?_⟩ <;> (split <;> omega)
theorem zo_rw {a i : Nat} (ha : a ≤ 24) (hi : i < 67) : zo_r a ≠ zo_w i ∧ zo_r a ≠ zo_w i + 1 := by
  unfold zo_w zo_r
  refine ⟨?_, ?_⟩ <;> (split <;> split <;> (try split) <;> (try split) <;> (try split) <;> omega)
theorem zo_ri {a b : Nat} (ha : a ≤ 24) (hb : b ≤ 24) (h : a ≠ b) : zo_r a ≠ zo_r b := by
  unfold zo_r
  split <;> split <;> omega
theorem zo_wo {i : Nat} (hi : i < 67) : ∀ q, q = 123 ∨ q = 137 ∨ q = 158 ∨ q = 159 ∨ q = 160 ∨ q = 161 ∨ q < 3 → q ≠ zo_w i ∧ q ≠ zo_w i + 1 := by
  intro q h
  unfold zo_w
  refine ⟨?_, ?_⟩ <;> (split <;> (try split) <;> (try split) <;> omega)
/-- the objects and rows that are no Wides' -/
def zCo (G : Nat → ClassId) (B : Nat) (M : zm_M) (τ : Nat → Int32) (π : Nat → Nat) (β : Nat → Nat → Int32) : Prop :=
  (∀ a, a ≤ 24 → M.2 (B + zo_r a) = some (.inr (5, [.int (τ a), .ref (B + zo_w (2 * a)), .ref (B + zo_w (2 * a + 1))]))) ∧
  M.2 (B + 123) = some (.inr (3, [.ref (B + zo_r 24), .ref (B + zo_w 50), .ref (B + zo_w 51), .ref (B + zo_w 52), .ref (B + zo_w 53)])) ∧
  M.2 (B + 137) = some (.inr (4, [.int (τ 25), .ref (B + zo_w 54), .ref (B + zo_w 55), .ref (B + zo_w 56), .ref (B + zo_w (57 + π 0)), .ref (B + zo_w (57 + π 1)), .ref (B + zo_w (57 + π 2)), .ref (B + zo_w (57 + π 3)), .ref (B + zo_w (57 + π 4)), .ref (B + zo_w (57 + π 5)), .ref (B + zo_w 63)])) ∧
  M.2 (B + 158) = some (.inr (7, [.ref (B + 159), .int (τ 27), .int (τ 28), .int (τ 29), .int (τ 30)])) ∧
  M.2 (B + 159) = some (.inl (G 2, (400, .inl (β 1)))) ∧
  M.2 (B + 160) = some (.inr (6, [.ref (B + 161), .int (τ 31), .ref (B + zo_w 64), .ref (B + zo_w 65), .ref (B + zo_w 66)])) ∧
  M.2 (B + 161) = some (.inl (G 2, (320, .inl (β 2)))) ∧
  M.2 B = some (.inr (9, [.ref (B + 1), .ref (B + 2), .int (τ 26), .ref (B + 123), .ref (B + 137), .ref (B + 158), .ref (B + 160)])) ∧
  (∃ fn : Nat → Option Nat, M.2 (B + 1) = some (.inl (G 4, (24, .inr (.inr (.inr (.inr fn)))))) ∧ ∀ a, a < 24 → fn a = some (B + zo_r a)) ∧
  M.2 (B + 2) = some (.inl (G 1, (24, .inl (β 0)))) ∧
  (∀ i, i < 6 → π i < 6) ∧ (∀ i j, i < 6 → j < 6 → π i = π j → i = j)
def zCw (G : Nat → ClassId) (B : Nat) (M : zm_M) (σ : Nat → Nat) : Prop := ∀ i, i < 67 → zwv G M (B + zo_w i) (B + zo_w i + 1) (zo_c i) (σ i)
/-- since M0 nothing but the class's own cells has changed -/
def zCf (B : Nat) (M0 M : zm_M) : Prop := M.1 = M0.1 ∧ ∀ q, (q < B ∨ B + 168 ≤ q) → M.2 q = M0.2 q
def zC (G : Nat → ClassId) (B : Nat) (M0 M : zm_M) (σ : Nat → Nat) (τ : Nat → Int32) (π : Nat → Nat) (β : Nat → Nat → Int32) : Prop := zCf B M0 M ∧ zCw G B M σ ∧ zCo G B M τ π β
section ZC
variable {G : Nat → ClassId} {B : Nat} {M0 M : zm_M} {σ : Nat → Nat} {τ : Nat → Int32} {π : Nat → Nat} {β : Nat → Nat → Int32}
theorem zC_w (h : zC G B M0 M σ τ π β) (i : Nat) (hi : i < 67) : zwv G M (B + zo_w i) (B + zo_w i + 1) (zo_c i) (σ i) := h.2.1 i hi
theorem zC_wd (h : zC G B M0 M σ τ π β) (i : Nat) (hi : i < 67) : ∃ u f, zwd G M (B + zo_w i) (B + zo_w i + 1) (zo_c i) u f := by
  obtain ⟨u, f, h1, -⟩ := h.2.1 i hi
  exact ⟨u, f, h1⟩
theorem zC_o (h : zC G B M0 M σ τ π β) (i : Nat) (hi : i < 67) : zw_ob M (B + zo_w i) 8 := zwv_ob (h.2.1 i hi)
theorem zC_r (h : zC G B M0 M σ τ π β) (a : Nat) (ha : a ≤ 24) : M.2 (B + zo_r a) = some (.inr (5, [.int (τ a), .ref (B + zo_w (2 * a)), .ref (B + zo_w (2 * a + 1))])) := h.2.2.1 a ha
theorem zC_ro (h : zC G B M0 M σ τ π β) (a : Nat) (ha : a ≤ 24) : zw_ob M (B + zo_r a) 5 := ⟨_, zC_r h a ha⟩
theorem zC_b (h : zC G B M0 M σ τ π β) : M.2 (B + 123) = some (.inr (3, [.ref (B + zo_r 24), .ref (B + zo_w 50), .ref (B + zo_w 51), .ref (B + zo_w 52), .ref (B + zo_w 53)])) := h.2.2.2.1
theorem zC_c (h : zC G B M0 M σ τ π β) : M.2 (B + 137) = some (.inr (4, [.int (τ 25), .ref (B + zo_w 54), .ref (B + zo_w 55), .ref (B + zo_w 56), .ref (B + zo_w (57 + π 0)), .ref (B + zo_w (57 + π 1)), .ref (B + zo_w (57 + π 2)), .ref (B + zo_w (57 + π 3)), .ref (B + zo_w (57 + π 4)), .ref (B + zo_w (57 + π 5)), .ref (B + zo_w 63)])) := h.2.2.2.2.1
theorem zC_t (h : zC G B M0 M σ τ π β) : M.2 (B + 158) = some (.inr (7, [.ref (B + 159), .int (τ 27), .int (τ 28), .int (τ 29), .int (τ 30)])) := h.2.2.2.2.2.1
theorem zC_tb (h : zC G B M0 M σ τ π β) : M.2 (B + 159) = some (.inl (G 2, (400, .inl (β 1)))) := h.2.2.2.2.2.2.1
theorem zC_s (h : zC G B M0 M σ τ π β) : M.2 (B + 160) = some (.inr (6, [.ref (B + 161), .int (τ 31), .ref (B + zo_w 64), .ref (B + zo_w 65), .ref (B + zo_w 66)])) := h.2.2.2.2.2.2.2.1
theorem zC_sb (h : zC G B M0 M σ τ π β) : M.2 (B + 161) = some (.inl (G 2, (320, .inl (β 2)))) := h.2.2.2.2.2.2.2.2.1
theorem zC_x (h : zC G B M0 M σ τ π β) : M.2 B = some (.inr (9, [.ref (B + 1), .ref (B + 2), .int (τ 26), .ref (B + 123), .ref (B + 137), .ref (B + 158), .ref (B + 160)])) := h.2.2.2.2.2.2.2.2.2.1
theorem zC_nu (h : zC G B M0 M σ τ π β) : ∃ fn : Nat → Option Nat, M.2 (B + 1) = some (.inl (G 4, (24, .inr (.inr (.inr (.inr fn)))))) ∧ ∀ a, a < 24 → fn a = some (B + zo_r a) := h.2.2.2.2.2.2.2.2.2.2.1
theorem zC_tk (h : zC G B M0 M σ τ π β) : M.2 (B + 2) = some (.inl (G 1, (24, .inl (β 0)))) := h.2.2.2.2.2.2.2.2.2.2.2.1
theorem zC_pi (h : zC G B M0 M σ τ π β) : (∀ i, i < 6 → π i < 6) ∧ (∀ i j, i < 6 → j < 6 → π i = π j → i = j) := h.2.2.2.2.2.2.2.2.2.2.2.2
theorem zC_bo (h : zC G B M0 M σ τ π β) : zw_ob M (B + 123) 3 := ⟨_, zC_b h⟩
theorem zC_co (h : zC G B M0 M σ τ π β) : zw_ob M (B + 137) 4 := ⟨_, zC_c h⟩
theorem zC_to (h : zC G B M0 M σ τ π β) : zw_ob M (B + 158) 7 := ⟨_, zC_t h⟩
theorem zC_so (h : zC G B M0 M σ τ π β) : zw_ob M (B + 160) 6 := ⟨_, zC_s h⟩
theorem zC_xo (h : zC G B M0 M σ τ π β) : zw_ob M B 9 := ⟨_, zC_x h⟩
/-- the objects are kept where their cells are -/
theorem zCo_kept {M' : zm_M} (h : zCo G B M τ π β) (hr : ∀ a, a ≤ 24 → M'.2 (B + zo_r a) = M.2 (B + zo_r a)) (hq : ∀ q, q = 123 ∨ q = 137 ∨ q = 158 ∨ q = 159 ∨ q = 160 ∨ q = 161 ∨ q < 3 → M'.2 (B + q) = M.2 (B + q)) : zCo G B M' τ π β := by
  obtain ⟨h1, h2, h3, h4, h5, h6, h7, h8, ⟨fn, h9, h9'⟩, h10, h11⟩ := h
  refine ⟨fun a ha => (hr a ha).trans (h1 a ha), (hq _ (by omega)).trans h2, (hq _ (by omega)).trans h3, (hq _ (by omega)).trans h4, (hq _ (by omega)).trans h5, (hq _ (by omega)).trans h6, (hq _ (by omega)).trans h7, ?_, ⟨fn, (hq _ (by omega)).trans h9, h9'⟩, (hq _ (by omega)).trans h10, h11⟩
  have := hq 0 (by omega)
  rw [Nat.add_zero] at this
  exact this.trans h8
/-- a Wide takes another value -/
theorem zC_set {M' : zm_M} (h : zC G B M0 M σ τ π β) {i v : Nat} (hi : i < 67) (ho : zof M M' (B + zo_w i) (B + zo_w i + 1)) (hv : zwv G M' (B + zo_w i) (B + zo_w i + 1) (zo_c i) v) : zC G B M0 M' (ux σ i v) τ π β := by
  have hl := zo_wl hi
  refine ⟨⟨ho.1.trans h.1.1, fun q hq => (ho.2 q (by omega) (by omega)).trans (h.1.2 q hq)⟩, fun j hj => ?_, ?_⟩
  · by_cases e : j = i
    · subst e
      rw [ux_s]
      exact hv
    · rw [ux_n e]
      have hn := zo_wi hj hi e
      exact zwv_kept (h.2.1 j hj) (ho.2 _ (by omega) (by omega)) (ho.2 _ (by omega) (by omega))
  · refine zCo_kept h.2.2 (fun a ha => ?_) (fun q hq => ?_)
    · have := zo_rw ha hi
      exact ho.2 _ (by omega) (by omega)
    · have := zo_wo hi q hq
      exact ho.2 _ (by omega) (by omega)
/-- the Wides are kept where only an object's cell is set -/
theorem zCw_kept {M' : zm_M} (h : zCw G B M σ) (hk : ∀ i, i < 67 → M'.2 (B + zo_w i) = M.2 (B + zo_w i) ∧ M'.2 (B + zo_w i + 1) = M.2 (B + zo_w i + 1)) : zCw G B M' σ := fun i hi => zwv_kept (h i hi) (hk i hi).1 (hk i hi).2
theorem zC_pq {q : Nat} {e : va_E} (h : zCw G B M σ) (hq : q = 123 ∨ q = 137 ∨ q = 158 ∨ q = 159 ∨ q = 160 ∨ q = 161 ∨ q < 3) : zCw G B (zm_set M (B + q) e) σ := zCw_kept h (fun i hi => by
  have := zo_wo hi q hq
  exact ⟨zm_set_n _ _ (by omega), zm_set_n _ _ (by omega)⟩)
theorem zC_pf {q : Nat} {e : va_E} (h : zCf B M0 M) (hq : q < 168) : zCf B M0 (zm_set M (B + q) e) := ⟨h.1, fun p hp => by
  rw [zm_set_n _ _ (by omega)]
  exact h.2 p hp⟩
theorem zC_psign (h : zC G B M0 M σ τ π β) {a : Nat} (ha : a ≤ 24) (s : Int32) : zC G B M0 (zm_set M (B + zo_r a) (.inr (5, [.int s, .ref (B + zo_w (2 * a)), .ref (B + zo_w (2 * a + 1))]))) σ (upd τ a s) π β := by
  have hl := zo_rl ha
  refine ⟨zC_pf h.1 (by omega), zCw_kept h.2.1 (fun i hi => ?_), ?_⟩
  · have := zo_rw ha hi
    exact ⟨zm_set_n _ _ (by omega), zm_set_n _ _ (by omega)⟩
  obtain ⟨h1, h2, h3, h4, h5, h6, h7, h8, ⟨fn, h9, h9'⟩, h10, h11⟩ := h.2.2
  refine ⟨fun b hb => ?_, ?_, ?_, ?_, ?_, ?_, ?_, ?_, ⟨fn, ?_, h9'⟩, ?_, h11⟩
  · by_cases e : b = a
    · subst e
      rw [zm_set_s, pk_us]
    · have := zo_ri hb ha e
      rw [zm_set_n _ _ (by omega), pk_un e]
      exact h1 b hb
  · rw [zm_set_n _ _ (by omega)]; exact h2
  · rw [zm_set_n _ _ (by omega), pk_un (by omega)]; exact h3
  · rw [zm_set_n _ _ (by omega), pk_un (by omega), pk_un (by omega), pk_un (by omega), pk_un (by omega)]; exact h4
  · rw [zm_set_n _ _ (by omega)]; exact h5
  · rw [zm_set_n _ _ (by omega), pk_un (by omega)]; exact h6
  · rw [zm_set_n _ _ (by omega)]; exact h7
  · rw [zm_set_n _ _ (by omega), pk_un (by omega)]; exact h8
  · rw [zm_set_n _ _ (by omega)]; exact h9
  · rw [zm_set_n _ _ (by omega)]; exact h10
/-- an int of another object: k is its place among the ints -/
theorem zC_pt {q k : Nat} {s : Int32} {e : va_E} (h : zC G B M0 M σ τ π β) (hq : q = 123 ∨ q = 137 ∨ q = 158 ∨ q = 159 ∨ q = 160 ∨ q = 161 ∨ q < 3) (hk : 25 ≤ k) (ho : zCo G B (zm_set M (B + q) e) (upd τ k s) π β) : zC G B M0 (zm_set M (B + q) e) σ (upd τ k s) π β := ⟨zC_pf h.1 (by omega), zC_pq h.2.1 hq, ho⟩
theorem zC_rn (h : zCo G B M τ π β) {q : Nat} {e : va_E} (hq : q = 123 ∨ q = 137 ∨ q = 158 ∨ q = 159 ∨ q = 160 ∨ q = 161 ∨ q < 3) {k : Nat} {s : Int32} (hk : 25 ≤ k) : ∀ a, a ≤ 24 → (zm_set M (B + q) e).2 (B + zo_r a) = some (.inr (5, [.int (upd τ k s a), .ref (B + zo_w (2 * a)), .ref (B + zo_w (2 * a + 1))])) := fun a ha => by
  have := zo_rl ha
  rw [zm_set_n _ _ (by omega), pk_un (by omega)]
  exact h.1 a ha
theorem zC_pheld (h : zC G B M0 M σ τ π β) (s : Int32) : zC G B M0 (zm_set M B (.inr (9, [.ref (B + 1), .ref (B + 2), .int s, .ref (B + 123), .ref (B + 137), .ref (B + 158), .ref (B + 160)]))) σ (upd τ 26 s) π β := by
  have hh : zC G B M0 (zm_set M (B + 0) (.inr (9, [.ref (B + 1), .ref (B + 2), .int s, .ref (B + 123), .ref (B + 137), .ref (B + 158), .ref (B + 160)]))) σ (upd τ 26 s) π β := by
    refine zC_pt h (by omega) (by omega) ?_
    have hr := zC_rn h.2.2 (q := 0) (k := 26) (s := s) (e := .inr (9, [.ref (B + 1), .ref (B + 2), .int s, .ref (B + 123), .ref (B + 137), .ref (B + 158), .ref (B + 160)])) (by omega) (by omega)
    obtain ⟨h1, h2, h3, h4, h5, h6, h7, h8, ⟨fn, h9, h9'⟩, h10, h11⟩ := h.2.2
    refine ⟨hr, ?_, ?_, ?_, ?_, ?_, ?_, ?_, ⟨fn, ?_, h9'⟩, ?_, h11⟩
    · rw [zm_set_n _ _ (by omega)]; exact h2
    · rw [zm_set_n _ _ (by omega)]; exact h3
    · rw [zm_set_n _ _ (by omega)]; exact h4
    · rw [zm_set_n _ _ (by omega)]; exact h5
    · rw [zm_set_n _ _ (by omega)]; exact h6
    · rw [zm_set_n _ _ (by omega)]; exact h7
    · exact zm_set_s M (B + 0) _
    · rw [zm_set_n _ _ (by omega)]; exact h9
    · rw [zm_set_n _ _ (by omega)]; exact h10
  exact hh
theorem zC_pchain (h : zC G B M0 M σ τ π β) (s : Int32) (π' : Nat → Nat) (hp : (∀ i, i < 6 → π' i < 6) ∧ (∀ i j, i < 6 → j < 6 → π' i = π' j → i = j)) : zC G B M0 (zm_set M (B + 137) (.inr (4, [.int s, .ref (B + zo_w 54), .ref (B + zo_w 55), .ref (B + zo_w 56), .ref (B + zo_w (57 + π' 0)), .ref (B + zo_w (57 + π' 1)), .ref (B + zo_w (57 + π' 2)), .ref (B + zo_w (57 + π' 3)), .ref (B + zo_w (57 + π' 4)), .ref (B + zo_w (57 + π' 5)), .ref (B + zo_w 63)]))) σ (upd τ 25 s) π' β := by
  refine ⟨zC_pf h.1 (by omega), zC_pq h.2.1 (by omega), ?_⟩
  have hr := zC_rn h.2.2 (q := 137) (k := 25) (s := s) (e := .inr (4, [.int s, .ref (B + zo_w 54), .ref (B + zo_w 55), .ref (B + zo_w 56), .ref (B + zo_w (57 + π' 0)), .ref (B + zo_w (57 + π' 1)), .ref (B + zo_w (57 + π' 2)), .ref (B + zo_w (57 + π' 3)), .ref (B + zo_w (57 + π' 4)), .ref (B + zo_w (57 + π' 5)), .ref (B + zo_w 63)])) (by omega) (by omega)
  obtain ⟨h1, h2, h3, h4, h5, h6, h7, h8, ⟨fn, h9, h9'⟩, h10, h11⟩ := h.2.2
  refine ⟨hr, ?_, ?_, ?_, ?_, ?_, ?_, ?_, ⟨fn, ?_, h9'⟩, ?_, hp⟩
  · rw [zm_set_n _ _ (by omega)]; exact h2
  · exact zm_set_s M (B + 137) _
  · rw [zm_set_n _ _ (by omega)]; exact h4
  · rw [zm_set_n _ _ (by omega)]; exact h5
  · rw [zm_set_n _ _ (by omega)]; exact h6
  · rw [zm_set_n _ _ (by omega)]; exact h7
  · rw [zm_set_n _ _ (by omega)]; exact h8
  · rw [zm_set_n _ _ (by omega)]; exact h9
  · rw [zm_set_n _ _ (by omega)]; exact h10
/-- the tape's ints; e.g. its length is 27, its end 29 -/
theorem zC_ptape (h : zC G B M0 M σ τ π β) (k : Nat) (hk : k = 27 ∨ k = 28 ∨ k = 29 ∨ k = 30) (s : Int32) : zC G B M0 (zm_set M (B + 158) (.inr (7, [.ref (B + 159), .int (upd τ k s 27), .int (upd τ k s 28), .int (upd τ k s 29), .int (upd τ k s 30)]))) σ (upd τ k s) π β := by
  refine zC_pt h (by omega) (by omega) ?_
  have hr := zC_rn h.2.2 (q := 158) (k := k) (s := s) (e := .inr (7, [.ref (B + 159), .int (upd τ k s 27), .int (upd τ k s 28), .int (upd τ k s 29), .int (upd τ k s 30)])) (by omega) (by omega)
  obtain ⟨h1, h2, h3, h4, h5, h6, h7, h8, ⟨fn, h9, h9'⟩, h10, h11⟩ := h.2.2
  refine ⟨hr, ?_, ?_, ?_, ?_, ?_, ?_, ?_, ⟨fn, ?_, h9'⟩, ?_, h11⟩
  · rw [zm_set_n _ _ (by omega)]; exact h2
  · rw [zm_set_n _ _ (by omega), pk_un (by omega)]; exact h3
  · exact zm_set_s M (B + 158) _
  · rw [zm_set_n _ _ (by omega)]; exact h5
  · rw [zm_set_n _ _ (by omega), pk_un (by omega)]; exact h6
  · rw [zm_set_n _ _ (by omega)]; exact h7
  · rw [zm_set_n _ _ (by omega), pk_un (by omega)]; exact h8
  · rw [zm_set_n _ _ (by omega)]; exact h9
  · rw [zm_set_n _ _ (by omega)]; exact h10
theorem zC_psheet (h : zC G B M0 M σ τ π β) (s : Int32) : zC G B M0 (zm_set M (B + 160) (.inr (6, [.ref (B + 161), .int s, .ref (B + zo_w 64), .ref (B + zo_w 65), .ref (B + zo_w 66)]))) σ (upd τ 31 s) π β := by
  refine zC_pt h (by omega) (by omega) ?_
  have hr := zC_rn h.2.2 (q := 160) (k := 31) (s := s) (e := .inr (6, [.ref (B + 161), .int s, .ref (B + zo_w 64), .ref (B + zo_w 65), .ref (B + zo_w 66)])) (by omega) (by omega)
  obtain ⟨h1, h2, h3, h4, h5, h6, h7, h8, ⟨fn, h9, h9'⟩, h10, h11⟩ := h.2.2
  refine ⟨hr, ?_, ?_, ?_, ?_, ?_, ?_, ?_, ⟨fn, ?_, h9'⟩, ?_, h11⟩
  · rw [zm_set_n _ _ (by omega)]; exact h2
  · rw [zm_set_n _ _ (by omega)]; exact h3
  · rw [zm_set_n _ _ (by omega)]; exact h4
  · rw [zm_set_n _ _ (by omega)]; exact h5
  · exact zm_set_s M (B + 160) _
  · rw [zm_set_n _ _ (by omega)]; exact h7
  · rw [zm_set_n _ _ (by omega)]; exact h8
  · rw [zm_set_n _ _ (by omega)]; exact h9
  · rw [zm_set_n _ _ (by omega)]; exact h10
/-- a row takes another content: 0 taken, 1 the tape's bytes, 2 the sheet's -/
def ub (β : Nat → Nat → Int32) (k : Nat) (f : Nat → Int32) : Nat → Nat → Int32 := fun j => if j = k then f else β j
theorem ub_s {k : Nat} {f : Nat → Int32} : ub β k f k = f := if_pos rfl
theorem ub_n {k j : Nat} {f : Nat → Int32} (h : j ≠ k) : ub β k f j = β j := if_neg h
theorem zC_rk (h : zCo G B M τ π β) {q : Nat} {e : va_E} (hq : q = 123 ∨ q = 137 ∨ q = 158 ∨ q = 159 ∨ q = 160 ∨ q = 161 ∨ q < 3) : ∀ a, a ≤ 24 → (zm_set M (B + q) e).2 (B + zo_r a) = some (.inr (5, [.int (τ a), .ref (B + zo_w (2 * a)), .ref (B + zo_w (2 * a + 1))])) := fun a ha => by
  have := zo_rl ha
  rw [zm_set_n _ _ (by omega)]
  exact h.1 a ha
theorem zC_ptk (h : zC G B M0 M σ τ π β) (f : Nat → Int32) : zC G B M0 (zm_set M (B + 2) (.inl (G 1, (24, .inl f)))) σ τ π (ub β 0 f) := by
  refine ⟨zC_pf h.1 (by omega), zC_pq h.2.1 (by omega), ?_⟩
  have hr := zC_rk h.2.2 (q := 2) (e := .inl (G 1, (24, .inl f))) (by omega)
  obtain ⟨h1, h2, h3, h4, h5, h6, h7, h8, ⟨fn, h9, h9'⟩, h10, h11⟩ := h.2.2
  refine ⟨hr, ?_, ?_, ?_, ?_, ?_, ?_, ?_, ⟨fn, ?_, h9'⟩, zm_set_s _ _ _, h11⟩
  · rw [zm_set_n _ _ (by omega)]; exact h2
  · rw [zm_set_n _ _ (by omega)]; exact h3
  · rw [zm_set_n _ _ (by omega)]; exact h4
  · rw [zm_set_n _ _ (by omega)]; exact h5
  · rw [zm_set_n _ _ (by omega)]; exact h6
  · rw [zm_set_n _ _ (by omega)]; exact h7
  · rw [zm_set_n _ _ (by omega)]; exact h8
  · rw [zm_set_n _ _ (by omega)]; exact h9
theorem zC_ptb (h : zC G B M0 M σ τ π β) (f : Nat → Int32) : zC G B M0 (zm_set M (B + 159) (.inl (G 2, (400, .inl f)))) σ τ π (ub β 1 f) := by
  refine ⟨zC_pf h.1 (by omega), zC_pq h.2.1 (by omega), ?_⟩
  have hr := zC_rk h.2.2 (q := 159) (e := .inl (G 2, (400, .inl f))) (by omega)
  obtain ⟨h1, h2, h3, h4, h5, h6, h7, h8, ⟨fn, h9, h9'⟩, h10, h11⟩ := h.2.2
  refine ⟨hr, ?_, ?_, ?_, zm_set_s _ _ _, ?_, ?_, ?_, ⟨fn, ?_, h9'⟩, ?_, h11⟩
  · rw [zm_set_n _ _ (by omega)]; exact h2
  · rw [zm_set_n _ _ (by omega)]; exact h3
  · rw [zm_set_n _ _ (by omega)]; exact h4
  · rw [zm_set_n _ _ (by omega)]; exact h6
  · rw [zm_set_n _ _ (by omega)]; exact h7
  · rw [zm_set_n _ _ (by omega)]; exact h8
  · rw [zm_set_n _ _ (by omega)]; exact h9
  · rw [zm_set_n _ _ (by omega)]; exact h10
theorem zC_psb (h : zC G B M0 M σ τ π β) (f : Nat → Int32) : zC G B M0 (zm_set M (B + 161) (.inl (G 2, (320, .inl f)))) σ τ π (ub β 2 f) := by
  refine ⟨zC_pf h.1 (by omega), zC_pq h.2.1 (by omega), ?_⟩
  have hr := zC_rk h.2.2 (q := 161) (e := .inl (G 2, (320, .inl f))) (by omega)
  obtain ⟨h1, h2, h3, h4, h5, h6, h7, h8, ⟨fn, h9, h9'⟩, h10, h11⟩ := h.2.2
  refine ⟨hr, ?_, ?_, ?_, ?_, ?_, zm_set_s _ _ _, ?_, ⟨fn, ?_, h9'⟩, ?_, h11⟩
  · rw [zm_set_n _ _ (by omega)]; exact h2
  · rw [zm_set_n _ _ (by omega)]; exact h3
  · rw [zm_set_n _ _ (by omega)]; exact h4
  · rw [zm_set_n _ _ (by omega)]; exact h5
  · rw [zm_set_n _ _ (by omega)]; exact h6
  · rw [zm_set_n _ _ (by omega)]; exact h8
  · rw [zm_set_n _ _ (by omega)]; exact h9
  · rw [zm_set_n _ _ (by omega)]; exact h10
end ZC
