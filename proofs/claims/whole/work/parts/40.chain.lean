/-! ===== CHAIN: its Wides by their names (57 greater, 58 lesser, 59 top, 60 bottom, 61 topBefore, 62 bottomBefore) ===== -/
def zφ (π : Nat → Nat) (i : Nat) : Nat := if 57 ≤ i ∧ i < 63 then 57 + π (i - 57) else i
theorem zφ_n {π : Nat → Nat} {i : Nat} (h : i < 57 ∨ 63 ≤ i) : zφ π i = i := if_neg (by omega)
def zH (G : Nat → ClassId) (B : Nat) (M0 M : zm_M) (σ : Nat → Nat) (τ : Nat → Int32) (π : Nat → Nat) (β : Nat → Nat → Int32) : Prop := ∃ σp, zC G B M0 M σp τ π β ∧ ∀ i, i < 67 → σp (zφ π i) = σ i
section CH
variable {G : Nat → ClassId} {B : Nat} {M0 M : zm_M} {σ : Nat → Nat} {τ : Nat → Int32} {π : Nat → Nat} {β : Nat → Nat → Int32} {post : zm_M → Prop}
theorem zφ_l (hp : (∀ i, i < 6 → π i < 6) ∧ (∀ i j, i < 6 → j < 6 → π i = π j → i = j)) {i : Nat} (hi : i < 67) : zφ π i < 67 := by
  unfold zφ
  split
  · have := hp.1 (i - 57) (by omega)
    omega
  · exact hi
theorem zφ_i (hp : (∀ i, i < 6 → π i < 6) ∧ (∀ i j, i < 6 → j < 6 → π i = π j → i = j)) {i j : Nat} (h : i ≠ j) : zφ π i ≠ zφ π j := by
  unfold zφ
  by_cases c1 : 57 ≤ i ∧ i < 63
  · rw [if_pos c1]
    have a1 := hp.1 (i - 57) (by omega)
    by_cases c2 : 57 ≤ j ∧ j < 63
    · rw [if_pos c2]
      intro e
      have := hp.2 (i - 57) (j - 57) (by omega) (by omega) (by omega)
      omega
    · rw [if_neg c2]
      omega
  · rw [if_neg c1]
    by_cases c2 : 57 ≤ j ∧ j < 63
    · rw [if_pos c2]
      have a1 := hp.1 (j - 57) (by omega)
      omega
    · rw [if_neg c2]
      exact h
theorem zH_c (h : zC G B M0 M σ τ π β) : zH G B M0 M (fun i => σ (zφ π i)) τ π β := ⟨σ, h, fun _ _ => rfl⟩
theorem zH_set {M' : zm_M} {σp : Nat → Nat} {i v : Nat} (hp : (∀ i, i < 6 → π i < 6) ∧ (∀ i j, i < 6 → j < 6 → π i = π j → i = j)) (hs : ∀ l, l < 67 → σp (zφ π l) = σ l) (h : zC G B M0 M' (ux σp (zφ π i) v) τ π β) : zH G B M0 M' (ux σ i v) τ π β := by
  refine ⟨_, h, fun l hl => ?_⟩
  by_cases e : l = i
  · rw [e, ux_s, ux_s]
  · rw [ux_n e, ux_n (zφ_i hp e)]
    exact hs l hl
theorem zH_o (h : zH G B M0 M σ τ π β) (i : Nat) (hi : i < 67) {i' : Nat} (ei : zφ π i = i') : zw_ob M (B + zo_w i') 8 := by
  obtain ⟨σp, h, hs⟩ := h
  subst ei
  exact zC_o h _ (zφ_l (zC_pi h) hi)
theorem zH_lt (h : zH G B M0 M σ τ π β) (i : Nat) (hi : i < 67) : σ i < 4294967296 ^ 36 := by
  obtain ⟨σp, h, hs⟩ := h
  rw [← hs i hi]
  exact Nat.lt_of_lt_of_le (zC_lt h _ (zφ_l (zC_pi h) hi)) (Nat.pow_le_pow_right (by decide) (by unfold zo_c; split <;> decide))
theorem zH_n (h : zH G B M0 M σ τ π β) (i : Nat) (hi : i < 48) : σ i < 4294967296 ^ 16 := by
  obtain ⟨σp, h, hs⟩ := h
  have := hs i (by omega)
  rw [zφ_n (by omega)] at this
  rw [← this]
  exact zC_n h i hi
theorem zφ_c (hp : (∀ i, i < 6 → π i < 6) ∧ (∀ i j, i < 6 → j < 6 → π i = π j → i = j)) {i : Nat} (hi : 48 ≤ i) : 48 ≤ zφ π i := by
  unfold zφ
  split <;> omega
theorem zo_c36 {i : Nat} (hi : 48 ≤ i) : zo_c i = 36 := if_neg (by omega)
theorem h5_copy (h : zH G B M0 M σ τ π β) (i j : Nat) (hi : i < 67) (hj : j < 67) (h48 : 48 ≤ i) {i' j' : Nat} (ei : zφ π i = i') (ej : zφ π j = j') (hp : ∀ M', zH G B M0 M' (ux σ i (σ j)) τ π β → post M') : pX5_copy G (B + zo_w i') (B + zo_w j') post M := by
  have hv := zH_lt h j hj
  obtain ⟨σp, h, hs⟩ := h
  subst ei ej
  have hq := zC_pi h
  refine c5_copy h _ _ (zφ_l hq hi) (zφ_l hq hj) ?_ (fun M' k => hp M' (zH_set hq hs (by rw [hs j hj] at k; exact k)))
  rw [zo_c36 (zφ_c hq h48), hs j hj]
  exact hv
theorem h5_clear (h : zH G B M0 M σ τ π β) (i : Nat) (hi : i < 67) {i' : Nat} (ei : zφ π i = i') (hp : ∀ M', zH G B M0 M' (ux σ i 0) τ π β → post M') : pX5_clear G (B + zo_w i') post M := by
  obtain ⟨σp, h, hs⟩ := h
  subst ei
  have hq := zC_pi h
  exact c5_clear h _ (zφ_l hq hi) (fun M' k => hp M' (zH_set hq hs k))
theorem h5_become (h : zH G B M0 M σ τ π β) (i : Nat) (hi : i < 67) {i' : Nat} (ei : zφ π i = i') {x : Int64} {v : Nat} (hv : uN x = v) (hp : ∀ M', zH G B M0 M' (ux σ i v) τ π β → post M') : pX5_become G (B + zo_w i') x post M := by
  obtain ⟨σp, h, hs⟩ := h
  subst ei
  have hq := zC_pi h
  exact c5_become h _ (zφ_l hq hi) hv (fun M' k => hp M' (zH_set hq hs k))
theorem h5_subtract (h : zH G B M0 M σ τ π β) (i j k : Nat) (hi : i < 67) (hj : j < 67) (hk : k < 67) (h48 : 48 ≤ i) {i' j' k' : Nat} (ei : zφ π i = i') (ej : zφ π j = j') (ek : zφ π k = k') (hle : σ k ≤ σ j) (hp : ∀ M', zH G B M0 M' (ux σ i (σ j - σ k)) τ π β → post M') : pX5_subtract G (B + zo_w i') (B + zo_w j') (B + zo_w k') post M := by
  have hv := zH_lt h j hj
  obtain ⟨σp, h, hs⟩ := h
  subst ei ej ek
  have hq := zC_pi h
  refine c5_subtract h _ _ _ (zφ_l hq hi) (zφ_l hq hj) (zφ_l hq hk) (by rw [hs j hj, hs k hk]; exact hle) ?_ (fun M' z => hp M' (zH_set hq hs (by rw [hs j hj, hs k hk] at z; exact z)))
  rw [zo_c36 (zφ_c hq h48), hs j hj]
  exact hv
theorem h5_multiply (h : zH G B M0 M σ τ π β) (i j k : Nat) (hi : i < 67) (hj : j < 67) (hk : k < 67) (hij : j ≠ i) (hik : k ≠ i) (h48 : 48 ≤ i) {i' j' k' : Nat} (ei : zφ π i = i') (ej : zφ π j = j') (ek : zφ π k = k') (hv : σ j * σ k < 4294967296 ^ 36) (hp : ∀ M', zH G B M0 M' (ux σ i (σ j * σ k)) τ π β → post M') : pX5_multiply G (B + zo_w i') (B + zo_w j') (B + zo_w k') post M := by
  obtain ⟨σp, h, hs⟩ := h
  subst ei ej ek
  have hq := zC_pi h
  exact c5_multiply h _ _ _ (zφ_l hq hi) (zφ_l hq hj) (zφ_l hq hk) (zφ_i hq hij) (zφ_i hq hik) (zφ_c hq h48) (by rw [hs j hj, hs k hk]; exact hv) (fun M' z => hp M' (zH_set hq hs (by rw [hs j hj, hs k hk] at z; exact z)))
theorem h5_addProduct (h : zH G B M0 M σ τ π β) (i j k : Nat) (hi : i < 67) (hj : j < 67) (hk : k < 67) (hij : j ≠ i) (hik : k ≠ i) (h48 : 48 ≤ i) {i' j' k' : Nat} (ei : zφ π i = i') (ej : zφ π j = j') (ek : zφ π k = k') (hv : σ i + σ j * σ k < 4294967296 ^ 36) (hp : ∀ M', zH G B M0 M' (ux σ i (σ i + σ j * σ k)) τ π β → post M') : pX5_addProduct G (B + zo_w i') (B + zo_w j') (B + zo_w k') post M := by
  obtain ⟨σp, h, hs⟩ := h
  subst ei ej ek
  have hq := zC_pi h
  exact c5_addProduct h _ _ _ (zφ_l hq hi) (zφ_l hq hj) (zφ_l hq hk) (zφ_i hq hij) (zφ_i hq hik) (zφ_c hq h48) (by rw [hs i hi, hs j hj, hs k hk]; exact hv) (fun M' z => hp M' (zH_set hq hs (by rw [hs i hi, hs j hj, hs k hk] at z; exact z)))
theorem h5_timesPlus (h : zH G B M0 M σ τ π β) (i : Nat) (hi : i < 67) (h48 : 48 ≤ i) {i' : Nat} (ei : zφ π i = i') {q m0 : Nat} (hq : q < 2 ^ 31) (hm : m0 < 2 ^ 31) (hv : σ i * q + m0 < 4294967296 ^ 36) (hp : ∀ M', zH G B M0 M' (ux σ i (σ i * q + m0)) τ π β → post M') : pX5_timesPlus G (B + zo_w i') (nI q) (nI m0) post M := by
  obtain ⟨σp, h, hs⟩ := h
  subst ei
  have hr := zC_pi h
  exact c5_timesPlus h _ (zφ_l hr hi) hq hm (by rw [hs i hi, zo_c36 (zφ_c hr h48)]; exact hv) (fun M' z => hp M' (zH_set hr hs (by rw [hs i hi] at z; exact z)))
theorem h5_divide (h : zH G B M0 M σ τ π β) (i j k : Nat) (hi : i < 67) (hj : j < 67) (hk : k < 67) (hij : i ≠ j) (hik : i ≠ k) (hjk : j ≠ k) (h48 : 48 ≤ k) {i' j' k' : Nat} (ei : zφ π i = i') (ej : zφ π j = j') (ek : zφ π k = k') (hp : ∀ M', zH G B M0 M' (ux (ux σ i (σ i % σ j)) k (σ i / σ j)) τ π β → post M') : pX5_divide G (B + zo_w i') (B + zo_w j') (B + zo_w k') post M := by
  obtain ⟨σp, h, hs⟩ := h
  subst ei ej ek
  have hq := zC_pi h
  refine c5_divide h _ _ _ (zφ_l hq hi) (zφ_l hq hj) (zφ_l hq hk) (zφ_i hq hij) (zφ_i hq hik) (zφ_i hq hjk) (zφ_c hq h48) (fun M' z => hp M' ?_)
  rw [hs i hi, hs j hj] at z
  refine zH_set hq (fun l hl => ?_) z
  by_cases e : l = i
  · rw [e, ux_s, ux_s]
  · rw [ux_n e, ux_n (zφ_i hq e)]
    exact hs l hl
theorem h5_isZero (h : zH G B M0 M σ τ π β) (i : Nat) (hi : i < 67) {i' : Nat} (ei : zφ π i = i') {post : Int32 → zm_M → Prop} (hp : post (if σ i = 0 then 1 else 0) M) : pX5_isZero G (B + zo_w i') post M := by
  obtain ⟨σp, h, hs⟩ := h
  subst ei
  rw [← hs i hi] at hp
  exact c5_isZero h _ (zφ_l (zC_pi h) hi) hp
theorem h5_low (h : zH G B M0 M σ τ π β) (i : Nat) (hi : i < 67) {i' : Nat} (ei : zφ π i = i') {post : Int64 → zm_M → Prop} (hp : post (lN (σ i % 18446744073709551616)) M) : pX5_low G (B + zo_w i') post M := by
  obtain ⟨σp, h, hs⟩ := h
  subst ei
  rw [← hs i hi] at hp
  exact c5_low h _ (zφ_l (zC_pi h) hi) hp
theorem h5_isAbove (h : zH G B M0 M σ τ π β) (i : Nat) (hi : i < 67) {i' : Nat} (ei : zφ π i = i') {x : Int64} (hx : uN x < 9223372036854775808) {post : Int32 → zm_M → Prop} (hp : post (if uN x < σ i then 1 else 0) M) : pX5_isAbove G (B + zo_w i') x post M := by
  obtain ⟨σp, h, hs⟩ := h
  subst ei
  rw [← hs i hi] at hp
  exact c5_isAbove h _ (zφ_l (zC_pi h) hi) hx hp
theorem h5_order (h : zH G B M0 M σ τ π β) (i j : Nat) (hi : i < 67) (hj : j < 67) {i' j' : Nat} (ei : zφ π i = i') (ej : zφ π j = j') {post : Int32 → zm_M → Prop} (hp : post (if σ i < σ j then -1 else if σ i = σ j then 0 else 1) M) : pX5_order G (B + zo_w i') (B + zo_w j') post M := by
  obtain ⟨σp, h, hs⟩ := h
  subst ei ej
  rw [← hs i hi, ← hs j hj] at hp
  exact c5_order h _ _ (zφ_l (zC_pi h) hi) (zφ_l (zC_pi h) hj) hp
/-! the chain's own fields -/
theorem zH_co (h : zH G B M0 M σ τ π β) : zw_ob M (B + 137) 4 := by
  obtain ⟨σp, h, -⟩ := h
  exact zC_co h
theorem zH_xo (h : zH G B M0 M σ τ π β) : zw_ob M B 9 := by
  obtain ⟨σp, h, -⟩ := h
  exact zC_xo h
theorem zH_ro (h : zH G B M0 M σ τ π β) (a : Nat) (ha : a ≤ 24) : zw_ob M (B + zo_r a) 5 := by
  obtain ⟨σp, h, -⟩ := h
  exact zC_ro h a ha
theorem zH_cc (h : zH G B M0 M σ τ π β) : M.2 (B + 137) = some (.inr (4, [.int (τ 25), .ref (B + zo_w 54), .ref (B + zo_w 55), .ref (B + zo_w 56), .ref (B + zo_w (57 + π 0)), .ref (B + zo_w (57 + π 1)), .ref (B + zo_w (57 + π 2)), .ref (B + zo_w (57 + π 3)), .ref (B + zo_w (57 + π 4)), .ref (B + zo_w (57 + π 5)), .ref (B + zo_w 63)])) := by
  obtain ⟨σp, h, -⟩ := h
  exact zC_c h
theorem hk (h : zH G B M0 M σ τ π β) {k : Nat} {b : Nat} (e : ([Value.int (τ 25), .ref (B + zo_w 54), .ref (B + zo_w 55), .ref (B + zo_w 56), .ref (B + zo_w (57 + π 0)), .ref (B + zo_w (57 + π 1)), .ref (B + zo_w (57 + π 2)), .ref (B + zo_w (57 + π 3)), .ref (B + zo_w (57 + π 4)), .ref (B + zo_w (57 + π 5)), .ref (B + zo_w 63)] : List Value)[k]? = some (.ref b)) {K : Nat → Prop} (hk : K b) : zw_ga M (B + 137) 4 k K := ⟨_, _, zH_cc h, e, hk⟩
theorem hR (h : zH G B M0 M σ τ π β) (a : Nat) (ha : a ≤ 24) {K : Int32 → Prop} (hk : K (τ a)) : zw_gi M (B + zo_r a) 5 0 K := by
  obtain ⟨σp, h, -⟩ := h
  exact gR h a ha hk
theorem hT (h : zH G B M0 M σ τ π β) (a : Nat) (ha : a ≤ 24) {K : Nat → Prop} (hk : K (B + zo_w (2 * a))) : zw_ga M (B + zo_r a) 5 1 K := by
  obtain ⟨σp, h, -⟩ := h
  exact gT h a ha hk
theorem hB (h : zH G B M0 M σ τ π β) (a : Nat) (ha : a ≤ 24) {K : Nat → Prop} (hk : K (B + zo_w (2 * a + 1))) : zw_ga M (B + zo_r a) 5 2 K := by
  obtain ⟨σp, h, -⟩ := h
  exact gB h a ha hk
theorem h_hs (h : zH G B M0 M σ τ π β) {s : Int32} {K : zm_M → Prop} (hk : ∀ M', zH G B M0 M' σ (upd τ 25 s) π β → K M') : zw_p M (B + 137) 4 0 (.int s) K := by
  obtain ⟨σp, h, hs⟩ := h
  exact ⟨_, zC_c h, Nat.succ_pos _, hk _ ⟨σp, zC_pchain h s π (zC_pi h), hs⟩⟩
/-- two of the six change places -/
def zsw (π : Nat → Nat) (k l : Nat) : Nat → Nat := fun j => if j = k then π l else if j = l then π k else π j
theorem zsw_pi (hp : (∀ i, i < 6 → π i < 6) ∧ (∀ i j, i < 6 → j < 6 → π i = π j → i = j)) {k l : Nat} (hk : k < 6) (hl : l < 6) : (∀ i, i < 6 → zsw π k l i < 6) ∧ (∀ i j, i < 6 → j < 6 → zsw π k l i = zsw π k l j → i = j) := by
  refine ⟨fun i hi => ?_, fun i j hi hj e => ?_⟩
  · unfold zsw
    split
    · exact hp.1 l hl
    · split
      · exact hp.1 k hk
      · exact hp.1 i hi
  · unfold zsw at e
    have h1 := hp.2
    by_cases c1 : i = k
    · rw [if_pos c1] at e
      by_cases c2 : j = k
      · omega
      · rw [if_neg c2] at e
        by_cases c3 : j = l
        · rw [if_pos c3] at e
          have := h1 _ _ hl hk e
          omega
        · rw [if_neg c3] at e
          have := h1 _ _ hl hj e
          omega
    · rw [if_neg c1] at e
      by_cases c2 : i = l
      · rw [if_pos c2] at e
        by_cases c3 : j = k
        · rw [if_pos c3] at e
          have := h1 _ _ hk hl e
          omega
        · rw [if_neg c3] at e
          by_cases c4 : j = l
          · omega
          · rw [if_neg c4] at e
            have := h1 _ _ hk hj e
            omega
      · rw [if_neg c2] at e
        by_cases c3 : j = k
        · rw [if_pos c3] at e
          have := h1 _ _ hi hl e
          omega
        · rw [if_neg c3] at e
          by_cases c4 : j = l
          · rw [if_pos c4] at e
            have := h1 _ _ hi hk e
            omega
          · rw [if_neg c4] at e
            exact h1 _ _ hi hj e
/-- what the chain's object is once two of its fields have changed places -/
def zswo (B : Nat) (τ : Nat → Int32) (π : Nat → Nat) : va_E := .inr (4, [.int (τ 25), .ref (B + zo_w 54), .ref (B + zo_w 55), .ref (B + zo_w 56), .ref (B + zo_w (57 + π 0)), .ref (B + zo_w (57 + π 1)), .ref (B + zo_w (57 + π 2)), .ref (B + zo_w (57 + π 3)), .ref (B + zo_w (57 + π 4)), .ref (B + zo_w (57 + π 5)), .ref (B + zo_w 63)])
theorem zm_set2 {M : zm_M} {a : Nat} {e e' : va_E} : zm_set (zm_set M a e) a e' = zm_set M a e' := by
  unfold zm_set
  congr 1
  funext q
  by_cases c : q = a
  · simp [c]
  · simp [c]
theorem zφ_h {k : Nat} (hk : k < 6) : zφ π (57 + k) = 57 + π k := by
  unfold zφ
  rw [if_pos (by omega), Nat.add_sub_cancel_left]
theorem zsw_k {k l : Nat} : zsw π k l k = π l := if_pos rfl
theorem zsw_l {k l : Nat} (h : l ≠ k) : zsw π k l l = π k := by
  unfold zsw
  rw [if_neg h, if_pos rfl]
theorem zsw_o {k l j : Nat} (h : j ≠ k) (h' : j ≠ l) : zsw π k l j = π j := by
  unfold zsw
  rw [if_neg h, if_neg h']
def zsx (σ : Nat → Nat) (k l : Nat) : Nat → Nat := fun i => if i = k then σ l else if i = l then σ k else σ i
theorem h_sw (h : zH G B M0 M σ τ π β) {k l : Nat} (hk6 : k < 6) (hl6 : l < 6) (hkl : k ≠ l) : zH G B M0 (zm_set M (B + 137) (zswo B τ (zsw π k l))) (zsx σ (57 + k) (57 + l)) τ (zsw π k l) β := by
  obtain ⟨σp, h, hs⟩ := h
  have hp := zC_pi h
  refine ⟨σp, ?_, fun i hi => ?_⟩
  · have := zC_pchain h (τ 25) (zsw π k l) (zsw_pi hp hk6 hl6)
    rw [upd_id] at this
    exact this
  · show σp (zφ (zsw π k l) i) = if i = 57 + k then σ (57 + l) else if i = 57 + l then σ (57 + k) else σ i
    by_cases c1 : i = 57 + k
    · rw [if_pos c1, ← hs (57 + l) (by omega), c1, zφ_h hk6, zφ_h hl6, zsw_k]
    · rw [if_neg c1]
      by_cases c2 : i = 57 + l
      · rw [if_pos c2, ← hs (57 + k) (by omega), c2, zφ_h hk6, zφ_h hl6, zsw_l (Ne.symm hkl)]
      · rw [if_neg c2, ← hs i hi]
        by_cases c3 : 57 ≤ i ∧ i < 63
        · obtain ⟨d, hd⟩ : ∃ d, i = 57 + d := ⟨i - 57, by omega⟩
          rw [hd, zφ_h (by omega), zφ_h (by omega), zsw_o (by omega) (by omega)]
        · rw [zφ_n (by omega), zφ_n (by omega)]
end CH
