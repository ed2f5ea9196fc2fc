/-! ===== BENCH: powers, the nearest whole number, factors ===== -/
section C03
variable {G : Nat → ClassId} {B : Nat} {M0 M : zm_M} {σ : Nat → Nat} {τ : Nat → Int32} {π : Nat → Nat} {β : Nat → Nat → Int32} {post : zm_M → Prop}
theorem p512 : (2 : Nat) ^ 512 = 4294967296 ^ 16 := by rw [show (4294967296 : Nat) = 2 ^ 32 by decide, ← Nat.pow_mul]
theorem zbl_n {v : Nat} : zbl v ≤ 512 ↔ v < 4294967296 ^ 16 := by rw [zbl_le, p512]
theorem c0_grow (h : zC G B M0 M σ τ π β) (i j : Nat) (hi : i = 48 ∨ i = 49) (hj : j < 48 ∨ j = i) (hp : ∀ (M' : zm_M) (σ' : Nat → Nat), zC G B M0 M' σ' τ π β → σ' i = (if 512 < zbl (σ i) then σ i else σ j * σ i) → (∀ l, l ≠ i → l ≠ 53 → σ' l = σ l) → post M') : pX0_grow G (B + 123) (B + zo_w i) (B + zo_w j) post M := by
  have hb := zC_bl h i (by omega)
  unfold pX0_grow
  refine ⟨zC_o h i (by omega), c5_bits h i (by omega) ⟨fun y => ?_, fun y => ?_⟩⟩
  · have y' : 512 < zbl (σ i) := (nI_ltI (a := 512) (by omega) (by omega)).mp y
    exact hp M σ h (if_pos y').symm (fun _ _ _ => rfl)
  · have y' : ¬ 512 < zbl (σ i) := fun z => y ((nI_ltI (a := 512) (by omega) (by omega)).mpr z)
    have hi1 : σ i < 4294967296 ^ 16 := zbl_n.mp (by omega)
    have hj1 : σ j < 4294967296 ^ 16 := by
      rcases hj with z | z
      · exact zC_n h j z
      · rw [z]; exact hi1
    have hm : σ j * σ i < 4294967296 ^ 36 := by
      have h3 : σ j * σ i ≤ σ j * 4294967296 ^ 16 := Nat.mul_le_mul_left _ (Nat.le_of_lt hi1)
      have h4 : σ j * 4294967296 ^ 16 < 4294967296 ^ 16 * 4294967296 ^ 16 := Nat.mul_lt_mul_of_pos_right hj1 (Nat.pow_pos (by decide))
      rw [← Nat.pow_add] at h4
      exact Nat.lt_trans (Nat.lt_of_le_of_lt h3 h4) p3236
    have hc : zo_c i = 36 := by rcases hi with e | e <;> (subst e; decide)
    refine bS h ⟨zC_o h 53 (by decide), c5_multiply h 53 j i (by decide) (by omega) (by omega) (by omega) (by omega) (by decide) hm (fun M1 k1 => bS k1 ⟨zC_o k1 i (by omega), c5_copy k1 i 53 (by omega) (by decide) ?_ (fun M2 k2 => hp M2 _ k2 ?_ (fun l h1 h2 => ?_))⟩)⟩
    · rw [ux_s, hc]
      exact hm
    · rw [ux_s, ux_s, if_neg y']
    · rw [ux_n h1, ux_n h2]
/-- a power, or one that is too wide of a lesser exponent -/
def zpw (b t v : Nat) : Prop := ∃ e, v = b ^ e ∧ (e = t ∨ e ≤ t ∧ 512 < zbl v)
theorem zpw_grow {b p v : Nat} (h : zpw b p v) (q : Nat) (hq : p ≤ q) {f : Nat} (hf : ¬ 512 < zbl v → f * v = b ^ q) : zpw b q (if 512 < zbl v then v else f * v) := by
  obtain ⟨e, he, h⟩ := h
  by_cases c : 512 < zbl v
  · rw [if_pos c]
    exact ⟨e, he, Or.inr ⟨by omega, c⟩⟩
  · rw [if_neg c, hf c]
    exact ⟨q, rfl, Or.inl rfl⟩
theorem zn_and (a b : Nat) : nI a &&& nI b = nI (a &&& b) := by
  apply Int32.toBitVec_inj.mp
  rw [Int32.toBitVec_and]
  apply BitVec.eq_of_toNat_eq
  rw [BitVec.toNat_and]
  show a % 2 ^ 32 &&& b % 2 ^ 32 = (a &&& b) % 2 ^ 32
  rw [Nat.and_mod_two_pow]
theorem zand2 (t k : Nat) : t &&& 2 ^ k = if t.testBit k then 2 ^ k else 0 := by
  apply Nat.eq_of_testBit_eq
  intro i
  rw [Nat.testBit_and, Nat.testBit_two_pow]
  by_cases e : k = i
  · subst e
    by_cases c : t.testBit k <;> simp [c]
  · by_cases c : t.testBit k <;> simp [c, e, Nat.testBit_two_pow]
theorem zand_bit {t k : Nat} (ht : t < 2 ^ 31) (hk : k < 31) : (nI t &&& nI (2 ^ k)) = (0 : Int32) ↔ t / 2 ^ k % 2 = 0 := by
  have hpk : 2 ^ k ≤ 2 ^ 30 := Nat.pow_le_pow_right (by decide) (by omega)
  have hp0 : 0 < 2 ^ k := Nat.pow_pos (by decide)
  rw [zn_and, zand2]
  have hb : t.testBit k = decide (t / 2 ^ k % 2 = 1) := Nat.testBit_eq_decide_div_mod_eq
  rw [hb]
  by_cases c : t / 2 ^ k % 2 = 1
  · rw [decide_eq_true c, if_pos rfl]
    have h1 : nI (2 ^ k) = (0 : Int32) ↔ 2 ^ k = 0 := nI_eq (b := 0) (by omega) (by decide)
    rw [h1, c]
    omega
  · rw [decide_eq_false c, if_neg (by decide)]
    generalize t / 2 ^ k = X at c ⊢
    exact ⟨fun _ => by omega, fun _ => rfl⟩
theorem c0_raiseL {σ0 : Nat → Nat} {i j t : Nat} (hi : i = 48 ∨ i = 49) (hj : j < 48) (ht : t < 1024) (hk : ∀ (M' : zm_M) (σ' : Nat → Nat), zC G B M0 M' σ' τ π β → zpw (σ0 j) t (σ' i) → (∀ l, l ≠ i → l ≠ 53 → σ' l = σ0 l) → post M') : ∀ (k : Nat) (M : zm_M) (σ : Nat → Nat), k ≤ 10 → zC G B M0 M σ τ π β → zpw (σ0 j) (t / 2 ^ k) (σ i) → (∀ l, l ≠ i → l ≠ 53 → σ l = σ0 l) → pX0_raise_10 G post (k + 1) (B + 123) (B + zo_w i) (B + zo_w j) (nI t) (nI (2 ^ k / 2)) M
  | 0, M, σ, hk10, h, hz, hs => by
    rw [pX0_raise_10]
    rw [Nat.pow_zero, Nat.div_one] at hz
    exact ⟨fun _ => hk M σ h hz hs, fun y => absurd (by decide) y⟩
  | k + 1, M, σ, hk10, h, hz, hs => by
    have hpk : 2 ^ k ≤ 2 ^ 9 := Nat.pow_le_pow_right (by decide) (by omega)
    have hp0 : 0 < 2 ^ k := Nat.pow_pos (by decide)
    have e2 : 2 ^ (k + 1) / 2 = 2 ^ k := by rw [Nat.pow_succ]; omega
    have et : t / 2 ^ (k + 1) = t / 2 ^ k / 2 := by rw [Nat.pow_succ, Nat.div_div_eq_div_mul]
    rw [e2, pX0_raise_10]
    rw [et] at hz
    have hsh : nI (2 ^ k) >>> ((1 : Int32) &&& 31) = nI (2 ^ k / 2) := pk_shrN (by omega) _ 1 (by decide)
    refine ⟨fun y => absurd ((nI_leI (b := 0) (by omega) (by decide)).mp y) (by omega), fun y => ⟨zC_bo h, c0_grow h i i hi (Or.inr rfl) (fun M1 σ1 k1 e1 s1 => ⟨fun z x4 e4 => ?_, fun z => ⟨zC_bo k1, c0_grow k1 i j hi (Or.inl hj) (fun M2 σ2 k2 e2' s2 x6 e6 => ?_)⟩⟩)⟩⟩
    · rw [e4, hsh]
      have hb : t / 2 ^ k % 2 = 0 := (zand_bit (by omega) (by omega)).mp z
      refine c0_raiseL hi hj ht hk k M1 σ1 (by omega) k1 ?_ (fun l h1 h2 => (s1 l h1 h2).trans (hs l h1 h2))
      rw [e1]
      generalize t / 2 ^ k = X at hz hb ⊢
      refine zpw_grow hz _ (by omega) (fun c => ?_)
      obtain ⟨e, he, h9⟩ := hz
      have : e = X / 2 := by
        rcases h9 with x | x
        · exact x
        · exact absurd x.2 c
      rw [he, ← Nat.pow_add]
      congr 1
      omega
    · rw [e6, hsh]
      have hb : t / 2 ^ k % 2 ≠ 0 := fun c => z ((zand_bit (by omega) (by omega)).mpr c)
      have hz1 : zpw (σ0 j) (2 * (t / 2 ^ k / 2)) (σ1 i) := by
        rw [e1]
        generalize t / 2 ^ k = X at hz ⊢
        refine zpw_grow hz _ (by omega) (fun c => ?_)
        obtain ⟨e, he, h9⟩ := hz
        have : e = X / 2 := by
          rcases h9 with x | x
          · exact x
          · exact absurd x.2 c
        rw [he, ← Nat.pow_add]
        congr 1
        omega
      refine c0_raiseL hi hj ht hk k M2 σ2 (by omega) k2 ?_ (fun l h1 h2 => (s2 l h1 h2).trans ((s1 l h1 h2).trans (hs l h1 h2)))
      rw [e2']
      generalize t / 2 ^ k = X at hz1 hb ⊢
      refine zpw_grow hz1 _ (by omega) (fun c => ?_)
      obtain ⟨e, he, h9⟩ := hz1
      have : e = 2 * (X / 2) := by
        rcases h9 with x | x
        · exact x
        · exact absurd x.2 c
      rw [he, s1 j (by omega) (by omega), hs j (by omega) (by omega), Nat.mul_comm, ← Nat.pow_succ]
      congr 1
      omega
theorem c0_raise (h : zC G B M0 M σ τ π β) (i j t : Nat) (hi : i = 48 ∨ i = 49) (hj : j < 48) (ht : t < 1024) (hp : ∀ (M' : zm_M) (σ' : Nat → Nat), zC G B M0 M' σ' τ π β → zpw (σ j) t (σ' i) → (∀ l, l ≠ i → l ≠ 53 → σ' l = σ l) → post M') : pX0_raise G (B + 123) (B + zo_w i) (B + zo_w j) (nI t) post M := by
  unfold pX0_raise
  refine ⟨zC_o h i (by omega), c5_become h i (by omega) uN_1 (fun M1 k1 x2 e2 => ⟨11, ?_⟩)⟩
  rw [e2]
  refine c0_raiseL (σ0 := σ) hi hj ht hp 10 M1 _ (by decide) k1 ⟨0, ?_, Or.inl ?_⟩ (fun l h1 h2 => ux_n h1)
  · rw [ux_s, Nat.pow_zero]
  · rw [Nat.div_eq_of_lt (by omega)]
theorem c0_powerOf (h : zC G B M0 M σ τ π β) (a : Nat) (ha : a < 24) {n : Int32} {t : Nat} (ht : t ≤ 512) (hn : n.toInt = t ∨ n.toInt = -(t : Int)) (hp : ∀ (M' : zm_M) (σ' : Nat → Nat), zC G B M0 M' σ' (upd τ 24 (if t % 2 = 1 then τ a else 1)) π β → zpw (if n.toInt < 0 then σ (2 * a + 1) else σ (2 * a)) t (σ' 48) → zpw (if n.toInt < 0 then σ (2 * a) else σ (2 * a + 1)) t (σ' 49) → (∀ l, l < 48 ∨ 54 ≤ l → σ' l = σ l) → post M') : pX0_powerOf G (B + 123) (B + zo_r a) n post M := by
  have h0 : (0 : Int32) ≤ n ↔ ¬ n.toInt < 0 := by
    rw [Int32.le_iff_toInt_le]
    show (0 : Int) ≤ n.toInt ↔ _
    omega
  have fin : ∀ (M' : zm_M) (σ' : Nat → Nat) (i : Nat), (if n.toInt < 0 then 2 * a else 2 * a + 1) = i → zC G B M0 M' σ' (upd τ 24 (if t % 2 = 1 then τ a else 1)) π β → zpw (if n.toInt < 0 then σ (2 * a + 1) else σ (2 * a)) t (σ' 48) → (∀ l, l < 48 ∨ 54 ≤ l → σ' l = σ l) → pX0_powerOf_77 G post (nI t) (B + 123) (B + zo_w 49) (B + zo_w i) M' := by
    intro M' σ' i hi k hz hs
    have hil : i < 48 := by rw [← hi]; split <;> omega
    unfold pX0_powerOf_77
    refine ⟨zC_bo k, c0_raise k 49 i t (by decide) hil (by omega) (fun M2 σ2 k2 z2 s2 => hp M2 σ2 k2 ?_ ?_ (fun l hl => ?_))⟩
    · rw [s2 48 (by decide) (by decide)]
      exact hz
    · rw [hs i (by omega), ← hi] at z2
      by_cases c : n.toInt < 0
      · rw [if_pos c] at z2 ⊢
        exact z2
      · rw [if_neg c] at z2 ⊢
        exact z2
    · rw [s2 l (by omega) (by omega), hs l hl]
  have mid : ∀ (M' : zm_M) (i : Nat), (if n.toInt < 0 then 2 * a + 1 else 2 * a) = i → zC G B M0 M' σ (upd τ 24 (if t % 2 = 1 then τ a else 1)) π β → pX0_powerOf_50 G post (B + 123) (B + zo_r a) n (nI t) (B + 123) (B + zo_w 48) (B + zo_w i) M' := by
    intro M' i hi k
    have hil : i < 48 := by rw [← hi]; split <;> omega
    unfold pX0_powerOf_50
    have key : ∀ (M2 : zm_M) (σ2 : Nat → Nat), zC G B M0 M2 σ2 (upd τ 24 (if t % 2 = 1 then τ a else 1)) π β → zpw (σ i) t (σ2 48) → (∀ l, l ≠ 48 → l ≠ 53 → σ2 l = σ l) → zpw (if n.toInt < 0 then σ (2 * a + 1) else σ (2 * a)) t (σ2 48) ∧ (∀ l, l < 48 ∨ 54 ≤ l → σ2 l = σ l) := by
      intro M2 σ2 k2 z2 s2
      refine ⟨?_, fun l hl => s2 l (by omega) (by omega)⟩
      rw [← hi] at z2
      by_cases c : n.toInt < 0
      · rw [if_pos c] at z2 ⊢
        exact z2
      · rw [if_neg c] at z2 ⊢
        exact z2
    refine ⟨zC_bo k, c0_raise k 48 i t (by decide) hil (by omega) (fun M2 σ2 k2 z2 s2 => bR k2 (gB k2 24 (by decide) ⟨fun y => gB k2 a (by omega) ?_, fun y => gT k2 a (by omega) ?_⟩))⟩
    · obtain ⟨q1, q2⟩ := key M2 σ2 k2 z2 s2
      exact fin M2 σ2 _ (if_neg (h0.mp y)) k2 q1 q2
    · obtain ⟨q1, q2⟩ := key M2 σ2 k2 z2 s2
      exact fin M2 σ2 _ (if_pos (Decidable.byContradiction (fun c => y (h0.mpr c)))) k2 q1 q2
  have beg : ∀ s : Int32, s = (if t % 2 = 1 then τ a else 1) → pX0_powerOf_24 G post (B + 123) (B + zo_r a) n (nI t) (B + zo_r 24) s M := by
    intro s hs
    unfold pX0_powerOf_24
    refine pS h 24 (by decide) (fun M1 k1 => bR k1 (gT k1 24 (by decide) ⟨fun y => gT k1 a (by omega) ?_, fun y => gB k1 a (by omega) ?_⟩))
    · rw [hs] at k1
      exact mid M1 _ (if_neg (h0.mp y)) k1
    · rw [hs] at k1
      exact mid M1 _ (if_pos (Decidable.byContradiction (fun c => y (h0.mpr c)))) k1
  unfold pX0_powerOf
  intro x1 e1
  have hx : x1 = nI t := by
    rw [e1]
    by_cases c : (0 : Int32) ≤ n
    · rw [if_pos c]
      have := h0.mp c
      apply Int32.toInt_inj.mp
      rw [nI_toInt (by omega)]
      omega
    · rw [if_neg c]
      have hlt : n.toInt < 0 := Decidable.byContradiction (fun y => c (h0.mpr y))
      have hne : n.toInt = -(t : Int) := by omega
      have hn2 : n = -(nI t) := by
        apply Int32.toInt_inj.mp
        rw [Int32.toInt_neg, nI_toInt (by omega), hne, Int.bmod_eq_of_le (by omega) (by omega)]
      rw [hn2, Int32.zero_sub, Int32.neg_neg]
  rw [hx]
  have hand : nI t &&& (1 : Int32) = (1 : Int32) ↔ t % 2 = 1 := by
    rw [pk_andN (by omega) (m := 1) 1 (by decide)]
    exact nI_eq (a := t % 2 ^ 1) (b := 1) (by omega) (by decide)
  refine bR h ⟨fun y => beg 1 ?_, fun y => gR h a (by omega) (beg _ ?_)⟩
  · rw [if_neg (fun c => y (hand.mpr c))]
  · rw [if_pos (hand.mp y)]
end C03
