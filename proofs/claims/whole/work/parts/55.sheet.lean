/-! ===== SHEET ===== -/
/-- OUT holds the bytes of the list -/
def zO (τ : Nat → Int32) (β : Nat → Nat → Int32) (ol : List Nat) : Prop := τ 31 = nI ol.length ∧ ol.length ≤ 320 ∧ ∀ j b, ol[j]? = some b → b < 256 ∧ β 2 j &&& 255 = nI b
theorem zlow8 (x : Int32) : vp_nar .byte x &&& 255 = x &&& 255 := by
  rw [vp_nar_byte, pk_and _ (m := 255) 8 (by decide), pk_and _ (m := 255) 8 (by decide)]
  congr 1
  show (BitVec.signExtend 32 (BitVec.signExtend 8 x.toBitVec)).toNat % 2 ^ 8 = x.toBitVec.toNat % 2 ^ 8
  rw [BitVec.toNat_signExtend, BitVec.signExtend_eq_setWidth_of_le (v := 8) _ (by decide)]
  have h1 : (BitVec.setWidth 32 (BitVec.setWidth 8 x.toBitVec)).toNat = x.toBitVec.toNat % 2 ^ 8 := by
    rw [BitVec.toNat_setWidth, BitVec.toNat_setWidth]
    have := Nat.mod_lt x.toBitVec.toNat (show 0 < 2 ^ 8 by decide)
    exact Nat.mod_eq_of_lt (by omega)
  rw [h1]
  split <;> omega
section C3
variable {G : Nat → ClassId} {B : Nat} {M0 M : zm_M} {σ : Nat → Nat} {τ : Nat → Int32} {π : Nat → Nat} {β : Nat → Nat → Int32} {ol : List Nat}
/-- how τ and β may change while OUT is written -/
def zOf (τ τ' : Nat → Int32) (β β' : Nat → Nat → Int32) : Prop := (∀ q, q ≠ 31 → τ' q = τ q) ∧ ∀ k, k ≠ 2 → β' k = β k
theorem zOf_rf : zOf τ τ β β := ⟨fun _ _ => rfl, fun _ _ => rfl⟩
theorem zOf_t {τ' τ'' : Nat → Int32} {β' β'' : Nat → Nat → Int32} (h : zOf τ τ' β β') (h' : zOf τ' τ'' β' β'') : zOf τ τ'' β β'' := ⟨fun q hq => (h'.1 q hq).trans (h.1 q hq), fun k hk => (h'.2 k hk).trans (h.2 k hk)⟩
theorem c3_add {post : zm_M → Prop} (h : zC G B M0 M σ τ π β) (hO : zO τ β ol) (b : Nat) (hb : b < 256) (hl : ol.length < 320) (hp : ∀ (M' : zm_M) (τ' : Nat → Int32) (β' : Nat → Nat → Int32), zC G B M0 M' σ τ' π β' → zO τ' β' (ol ++ [b]) → zOf τ τ' β β' → post M') : pX3_add G (B + 160) (nI b) post M := by
  obtain ⟨e31, hle, hbb⟩ := hO
  unfold pX3_add
  refine ⟨_, _, zC_s h, rfl, fun y => ?_, fun y => ⟨_, _, zC_s h, rfl, _, _, zC_s h, rfl, _, _, zC_sb h, ?_, ?_⟩⟩
  · rw [e31] at y
    have := (nI_leI (a := 320) (by decide) (by omega)).mp y
    omega
  · rw [e31]
    exact vp_in_nI hl (by omega)
  · rw [e31, nI_clamp (by omega)]
    obtain ⟨x, hx⟩ : ∃ x, x = vp_nar .byte (nI b).toInt8.toInt32 := ⟨_, rfl⟩
    rw [← hx]
    have hx2 : x &&& 255 = nI b := by
      rw [hx, pk_vb (nI b)]
      exact sc_k8 b hb
    have k1 := zC_psb h (upd (β 2) ol.length x)
    refine ⟨_, _, zC_s k1, rfl, _, zC_s k1, (show 1 < 5 by decide), ?_⟩
    rw [e31, nI_1]
    have k2 := zC_psheet k1 (nI (ol.length + 1))
    refine hp _ _ _ k2 ⟨?_, ?_, fun j c hj => ?_⟩ ⟨fun q hq => pk_un hq, fun k hk => ub_n hk⟩
    · rw [pk_us, List.length_append]
      rfl
    · rw [List.length_append]
      show ol.length + 1 ≤ 320
      omega
    · rw [ub_s]
      by_cases e : j = ol.length
      · rw [e, List.getElem?_append_right (Nat.le_refl _), Nat.sub_self] at hj
        have hcb : b = c := Option.some.inj hj
        rw [e, pk_us, ← hcb]
        exact ⟨hb, hx2⟩
      · rw [pk_un e]
        have hjl : j < ol.length := by
          rcases Nat.lt_or_ge j ol.length with z | z
          · exact z
          · rw [List.getElem?_eq_none (by rw [List.length_append]; show ol.length + 1 ≤ j; omega)] at hj
            cases hj
        rw [List.getElem?_append_left hjl] at hj
        exact hbb j c hj
theorem c3_begin {post : zm_M → Prop} (h : zC G B M0 M σ τ π β) {x : Int32} {neg : Prop} (hx : x ≠ 0 ↔ neg) (hp1 : neg → ∀ (M' : zm_M) (τ' : Nat → Int32) (β' : Nat → Nat → Int32), zC G B M0 M' σ τ' π β' → zO τ' β' [45] → zOf τ τ' β β' → post M') (hp0 : ¬ neg → ∀ (M' : zm_M) (τ' : Nat → Int32) (β' : Nat → Nat → Int32), zC G B M0 M' σ τ' π β' → zO τ' β' [] → zOf τ τ' β β' → post M') : pX3_begin G (B + 160) x post M := by
  unfold pX3_begin
  have k1 := zC_psheet h 0
  have hO : zO (upd τ 31 0) β [] := ⟨pk_us, by decide, fun j b hj => by cases hj⟩
  have hf : zOf τ (upd τ 31 0) β β := ⟨fun q hq => pk_un hq, fun _ _ => rfl⟩
  refine ⟨_, zC_s h, (show 1 < 5 by decide), fun y => hp0 (fun c => absurd y (hx.mpr c)) _ _ _ k1 hO hf, fun y => ⟨zC_so k1, c3_add k1 hO 45 (by decide) (by decide) (fun M2 τ2 β2 k2 o2 f2 => hp1 (hx.mp y) M2 τ2 β2 k2 o2 (zOf_t hf f2))⟩⟩
theorem c3_at {post : Int32 → zm_M → Prop} (h : zC G B M0 M σ τ π β) (hO : zO τ β ol) {x : Int32} (hp0 : (x.toInt < 0 ∨ (ol.length : Int) ≤ x.toInt) → post (-5) M) (hp1 : ∀ b, 0 ≤ x.toInt → ol[x.toInt.toNat]? = some b → post (nI b) M) : pX3_at G (B + 160) x post M := by
  obtain ⟨e31, hle, hbb⟩ := hO
  unfold pX3_at
  refine ⟨fun y => hp0 (Or.inl (i32_lt.mp y)), fun y => ⟨_, _, zC_s h, rfl, fun z => hp0 (Or.inr ?_), fun z => ⟨_, _, zC_s h, rfl, _, _, zC_sb h, ?_, ?_⟩⟩⟩
  · rw [e31, Int32.le_iff_toInt_le, nI_toInt (by omega)] at z
    exact z
  all_goals
    have hx0 : 0 ≤ x.toInt := by
      rcases Int.lt_or_le x.toInt 0 with c | c
      · exact absurd (i32_lt.mpr c) y
      · exact c
    have hx1 : x.toInt < ol.length := by
      rcases Int.lt_or_le x.toInt ol.length with c | c
      · exact c
      · rw [e31, Int32.le_iff_toInt_le, nI_toInt (by omega)] at z
        exact absurd c z
  · exact vp_in_iff.mpr ⟨by omega, by omega⟩
  · rw [i32_cl hx0]
    show post (β 2 x.toInt.toNat &&& 255) M
    have hlt : x.toInt.toNat < ol.length := by omega
    have hg := List.getElem?_eq_getElem hlt
    rw [(hbb _ _ hg).2]
    exact hp1 _ hx0 hg
/-- the bytes from i on to j change round -/
theorem c3_trL {post : zm_M → Prop} {f0 : Nat → Int32} {fr len : Nat} (hlen : len ≤ 320) (hp : ∀ (M' : zm_M) (β' : Nat → Nat → Int32), zC G B M0 M' σ τ π β' → (∀ k, k ≠ 2 → β' k = β k) → (∀ p, fr ≤ p → p < len → β' 2 p &&& 255 = f0 (fr + len - 1 - p)) → (∀ p, p < fr ∨ len ≤ p → β' 2 p &&& 255 = f0 p) → post M') : ∀ (d i : Nat) (M : zm_M) (b2 : Nat → Nat → Int32), fr ≤ i → i ≤ len → len + fr ≤ 2 * i + 2 * d → 2 * i ≤ fr + len + 1 → zC G B M0 M σ τ π b2 → (∀ k, k ≠ 2 → b2 k = β k) → (∀ p, fr ≤ p → p < len → p < i ∨ fr + len ≤ p + i → b2 2 p &&& 255 = f0 (fr + len - 1 - p)) → (∀ p, (p < fr ∨ len ≤ p) ∨ (i ≤ p ∧ p + i < fr + len) → b2 2 p &&& 255 = f0 p) → pX3_turnRound_9 G post (d + 1) (B + 160) (nI i) (nI (fr + len - i) - 1) M
  | d, i, M, b2, h1, h2, h3, h4, h, hk2, hA, hB => by
    have hj : (nI (fr + len - i) - 1).toInt = ((fr + len - i : Nat) : Int) - 1 := pk_sub_toInt (a := fr + len - i) (b := 1) (by omega) (by decide)
    have hi : (nI i).toInt = (i : Int) := nI_toInt (by omega)
    have hij : nI (fr + len - i) - 1 ≤ nI i ↔ fr + len ≤ 2 * i + 1 := by
      rw [Int32.le_iff_toInt_le, hj, hi]
      omega
    have done : fr + len ≤ 2 * i + 1 → post M := fun c => by
      refine hp M b2 h hk2 (fun p p1 p2 => ?_) (fun p pp => hB p (Or.inl pp))
      by_cases e : p < i ∨ fr + len ≤ p + i
      · exact hA p p1 p2 e
      · have : p = i ∧ fr + len = 2 * i + 1 := by omega
        rw [hB p (Or.inr (by omega))]
        congr 1
        omega
    rw [pX3_turnRound_9]
    refine ⟨fun y => absurd (i32_lt.mp y) (by omega), fun _ => ⟨fun y => done (hij.mp y), fun y => ?_⟩⟩
    have hlt : ¬ fr + len ≤ 2 * i + 1 := fun c => y (hij.mpr c)
    obtain ⟨j, hjj⟩ : ∃ j, fr + len - i = j + 1 := ⟨fr + len - i - 1, by omega⟩
    rw [hjj, nI_pred]
    refine ⟨fun z => absurd ((nI_leI (a := 320) (by decide) (by omega)).mp z) (by omega), fun _ => ⟨_, _, zC_s h, rfl, _, _, zC_sb h, vp_in_nI (by omega) (by omega), _, _, zC_s h, rfl, _, _, zC_s h, rfl, _, _, zC_sb h, vp_in_nI (by omega) (by omega), _, _, zC_sb h, vp_in_nI (by omega) (by omega), ?_⟩⟩
    rw [nI_clamp (by omega), nI_clamp (by omega)]
    have k1 := zC_psb h (upd (b2 2) i (vp_nar .byte (b2 2 j)))
    refine ⟨_, _, zC_s k1, rfl, _, _, zC_sb k1, vp_in_nI (by omega) (by omega), fun x11 e11 x12 e12 => ?_⟩
    rw [nI_clamp (by omega), ub_s]
    have k2 := zC_psb k1 (upd (upd (b2 2) i (vp_nar .byte (b2 2 j))) j (vp_nar .byte (b2 2 i)))
    cases d with
    | zero => omega
    | succ d =>
      rw [e11, e12, nI_1, nI_m1']
      have hnx : nI j - 1 = nI (fr + len - (i + 1)) - 1 := by
        rw [show fr + len - (i + 1) = j by omega]
      rw [hnx]
      refine c3_trL hlen hp d (i + 1) _ _ (by omega) (by omega) (by omega) (by omega) k2 (fun k hk => by rw [ub_n hk, ub_n hk]; exact hk2 k hk) (fun p p1 p2 p3 => ?_) (fun p pp => ?_)
      · rw [ub_s]
        by_cases e1 : p = j
        · rw [e1, pk_us, zlow8, hB i (Or.inr (by omega))]
          congr 1
          omega
        · rw [pk_un e1]
          by_cases e2 : p = i
          · rw [e2, pk_us, zlow8, hB j (Or.inr (by omega))]
            congr 1
            omega
          · rw [pk_un e2]
            exact hA p p1 p2 (by omega)
      · rw [ub_s, pk_un (by omega), pk_un (by omega)]
        exact hB p (by omega)
theorem c3_turnRound {post : zm_M → Prop} {A R : List Nat} (h : zC G B M0 M σ τ π β) (hO : zO τ β (A ++ R)) (hp : ∀ (M' : zm_M) (β' : Nat → Nat → Int32), zC G B M0 M' σ τ π β' → zO τ β' (A ++ R.reverse) → (∀ k, k ≠ 2 → β' k = β k) → post M') : pX3_turnRound G (B + 160) (nI A.length) post M := by
  obtain ⟨e31, hle, hbb⟩ := hO
  rw [List.length_append] at e31 hle
  unfold pX3_turnRound
  refine ⟨_, _, zC_s h, rfl, fun x2 e2 => ⟨A.length + R.length + 1, ?_⟩⟩
  rw [e31] at e2
  have hx : x2 = nI (A.length + (A.length + R.length) - A.length) - 1 := by
    rw [e2, show A.length + (A.length + R.length) - A.length = A.length + R.length by omega]
  rw [hx]
  refine c3_trL (f0 := fun p => β 2 p &&& 255) (fr := A.length) (len := A.length + R.length) hle (fun M' β' k1 hk2 h1 h2 => hp M' β' k1 ⟨?_, ?_, fun j b hj => ?_⟩ hk2) (A.length + R.length) A.length M β (Nat.le_refl _) (by omega) (by omega) (by omega) h (fun _ _ => rfl) (fun p p1 p2 p3 => by omega) (fun p _ => rfl)
  · rw [e31, List.length_append, List.length_reverse]
  · rw [List.length_append, List.length_reverse]
    exact hle
  · rcases Nat.lt_or_ge j A.length with z | z
    · rw [List.getElem?_append_left z] at hj
      have hj2 : (A ++ R)[j]? = some b := by rw [List.getElem?_append_left z]; exact hj
      rw [h2 j (Or.inl z)]
      exact hbb j b hj2
    · rw [List.getElem?_append_right z] at hj
      have hjl : j - A.length < R.length := by
        rcases Nat.lt_or_ge (j - A.length) R.length with y | y
        · exact y
        · rw [List.getElem?_eq_none (by rw [List.length_reverse]; exact y)] at hj
          cases hj
      rw [List.getElem?_reverse hjl] at hj
      have hj2 : (A ++ R)[A.length + (R.length - 1 - (j - A.length))]? = some b := by
        rw [List.getElem?_append_right (by omega), show A.length + (R.length - 1 - (j - A.length)) - A.length = R.length - 1 - (j - A.length) by omega]
        exact hj
      rw [h1 j z (by omega), show A.length + (A.length + R.length) - 1 - j = A.length + (R.length - 1 - (j - A.length)) by omega]
      exact hbb _ b hj2
end C3
