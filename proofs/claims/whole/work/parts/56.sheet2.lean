/-! ===== SHEET: sizes and cuts ===== -/
def zdd : Nat → Nat → List Nat
  | 0, _ => []
  | f + 1, v => if v = 0 then [] else (48 + v % 10) :: zdd f (v / 10)
def ztx (v : Nat) : List Nat := ((48 + v % 10) :: zdd 200 (v / 10)).reverse
theorem zdd_len : ∀ (f k v : Nat), v < 10 ^ k → (zdd f v).length ≤ k
  | 0, k, v, _ => Nat.zero_le _
  | f + 1, 0, v, h => by
    unfold zdd
    rw [if_pos (by rw [Nat.pow_zero] at h; omega)]
    exact Nat.zero_le _
  | f + 1, k + 1, v, h => by
    unfold zdd
    by_cases c : v = 0
    · rw [if_pos c]; exact Nat.zero_le _
    · rw [if_neg c]
      have := zdd_len f k (v / 10) ((Nat.div_lt_iff_lt_mul (by decide)).mpr (by rw [Nat.pow_succ] at h; omega))
      show (zdd f (v / 10)).length + 1 ≤ k + 1
      omega
theorem p155 : (4294967296 : Nat) ^ 16 < 10 ^ 155 := by decide
theorem ztx_len {v : Nat} (h : v < 4294967296 ^ 16) : (ztx v).length ≤ 155 := by
  unfold ztx
  rw [List.length_reverse]
  have := zdd_len 200 154 (v / 10) ((Nat.div_lt_iff_lt_mul (by decide)).mpr (by have := p155; omega))
  show (zdd 200 (v / 10)).length + 1 ≤ 155
  omega
def zcd (D : Nat) : Nat → Nat → List Nat
  | 0, _ => []
  | k + 1, r => (48 + r * 10 / D) :: zcd D k (r * 10 % D)
theorem zcd_len (D : Nat) : ∀ (k r : Nat), (zcd D k r).length = k
  | 0, _ => rfl
  | k + 1, r => by
    show (zcd D k (r * 10 % D)).length + 1 = k + 1
    rw [zcd_len D k]
section C32
variable {G : Nat → ClassId} {B : Nat} {M0 M : zm_M} {σ : Nat → Nat} {τ : Nat → Int32} {π : Nat → Nat} {β : Nat → Nat → Int32} {ol : List Nat}
theorem c3_asL {post : zm_M → Prop} {k70 : Nat → Int32 → zm_M → Prop} {σ0 : Nat → Nat} {τ0 : Nat → Int32} {β0 : Nat → Nat → Int32} {v2 : Int32} {fin : List Nat} (hfl : fin.length ≤ 320) (hp : ∀ (M' : zm_M) (σ' : Nat → Nat) (τ' : Nat → Int32) (β' : Nat → Nat → Int32), zC G B M0 M' σ' τ' π β' → zO τ' β' fin → zOf τ0 τ' β0 β' → (∀ l, l ≠ 64 → σ' l = σ0 l) → k70 (B + 160) v2 M') : ∀ (d c : Nat) (M : zm_M) (σ : Nat → Nat) (τ : Nat → Int32) (β : Nat → Nat → Int32) (ol : List Nat), c + d = 200 → zC G B M0 M σ τ π β → zO τ β ol → zOf τ0 τ β0 β → (∀ l, l ≠ 64 → σ l = σ0 l) → ol ++ zdd d (σ 64) = fin → pX3_addSize_31 G post k70 (d + 1) (B + 160) v2 (nI c) M
  | 0, c, M, σ, τ, β, ol, hc, h, hO, hf, hs, he => by
    rw [pX3_addSize_31]
    have he' : ol = fin := by
      rw [← he]
      exact (List.append_nil ol).symm
    rw [he'] at hO
    exact ⟨fun _ => hp M σ τ β h hO hf hs, fun y => absurd ((nI_leI (a := 200) (by decide) (by omega)).mpr (by omega)) y⟩
  | d + 1, c, M, σ, τ, β, ol, hc, h, hO, hf, hs, he => by
    rw [pX3_addSize_31]
    unfold zdd at he
    refine ⟨fun y => absurd ((nI_leI (a := 200) (by decide) (by omega)).mp y) (by omega), fun _ => ⟨_, _, zC_s h, rfl, zC_o h 64 (by decide), c5_isZero h 64 (by decide) ⟨fun y => ?_, fun y => ⟨_, _, zC_s h, rfl, zC_o h 64 (by decide), c5_divideBy h 64 (by decide) (q := 10) (by decide) (by decide) (fun M1 k1 => ⟨zC_so k1, ?_⟩)⟩⟩⟩⟩
    · have c0 : σ 64 = 0 := by
        by_cases c : σ 64 = 0
        · exact c
        · rw [if_neg c] at y; exact absurd rfl y
      rw [if_pos c0, List.append_nil] at he
      rw [he] at hO
      exact hp M σ τ β h hO hf hs
    · have c0 : σ 64 ≠ 0 := fun c => by rw [if_pos c] at y; exact absurd y (by decide)
      rw [if_neg c0] at he
      have e48 : (48 : Int32) + nI (σ 64 % 10) = nI (48 + σ 64 % 10) := nI_add 48 _
      rw [e48]
      have hl : ol.length < 320 := by
        have := congrArg List.length he
        rw [List.length_append] at this
        have h2 : ((48 + σ 64 % 10) :: zdd d (σ 64 / 10)).length = (zdd d (σ 64 / 10)).length + 1 := rfl
        omega
      refine c3_add k1 hO (48 + σ 64 % 10) (by omega) hl (fun M2 τ2 β2 k2 o2 f2 x16 e16 => ?_)
      rw [e16, nI_1]
      refine c3_asL hfl hp d (c + 1) M2 _ τ2 β2 _ (by omega) k2 o2 (zOf_t hf f2) (fun l hl => by rw [ux_n hl]; exact hs l hl) ?_
      rw [ux_s, List.append_assoc]
      exact he
theorem c3_addSize {post : zm_M → Prop} (h : zC G B M0 M σ τ π β) (hO : zO τ β ol) (i : Nat) (hi : i < 67) (hl : (ol ++ ztx (σ i)).length ≤ 320) (hp : ∀ (M' : zm_M) (σ' : Nat → Nat) (τ' : Nat → Int32) (β' : Nat → Nat → Int32), zC G B M0 M' σ' τ' π β' → zO τ' β' (ol ++ ztx (σ i)) → zOf τ τ' β β' → (∀ l, l ≠ 64 → σ' l = σ l) → post M') : pX3_addSize G (B + 160) (B + zo_w i) post M := by
  have hv := zC_lt h i hi
  have h36 : zo_c i ≤ 36 := by unfold zo_c; split <;> decide
  have hv36 : σ i < 4294967296 ^ 36 := Nat.lt_of_lt_of_le hv (Nat.pow_le_pow_right (by decide) h36)
  have hO1 := hO.1
  have hlo : ol.length < 320 := by
    rw [List.length_append] at hl
    have : 0 < (ztx (σ i)).length := by
      unfold ztx
      rw [List.length_reverse]
      exact Nat.succ_pos _
    omega
  unfold pX3_addSize
  refine ⟨_, _, zC_s h, rfl, _, _, zC_s h, rfl, zC_o h 64 (by decide), c5_copy h 64 i (by decide) hi hv36 (fun M1 k1 => ⟨_, _, zC_s k1, rfl, zC_o k1 64 (by decide), c5_divideBy k1 64 (by decide) (q := 10) (by decide) (by decide) (fun M2 k2 => ⟨zC_so k2, ?_⟩)⟩)⟩
  rw [ux_s] at k2 ⊢
  have e48 : (48 : Int32) + nI (σ i % 10) = nI (48 + σ i % 10) := nI_add 48 _
  rw [e48]
  refine c3_add k2 hO (48 + σ i % 10) (by omega) hlo (fun M3 τ3 β3 k3 o3 f3 x8 e8 => ⟨201, ?_⟩)
  rw [e8, hO1]
  have e64 : ux (ux σ 64 (σ i)) 64 (σ i / 10) 64 = σ i / 10 := rfl
  refine c3_asL (σ0 := σ) (τ0 := τ) (β0 := β) (fin := ol ++ ((48 + σ i % 10) :: zdd 200 (σ i / 10))) ?_ (fun M4 σ4 τ4 β4 k4 o4 f4 s4 => ?_) 200 0 M3 _ τ3 β3 _ rfl k3 o3 f3 (fun l hl => by rw [ux_n hl, ux_n hl]) ?_
  · rw [List.length_append] at hl ⊢
    unfold ztx at hl
    rw [List.length_reverse] at hl
    exact hl
  · unfold pX3_addSize_70
    refine ⟨zC_so k4, c3_turnRound k4 o4 (fun M5 β5 k5 o5 hk5 => hp M5 σ4 τ4 β5 k5 o5 ⟨f4.1, fun k hk => (hk5 k hk).trans (f4.2 k hk)⟩ s4)⟩
  · rw [e64, List.append_assoc]
    rfl
theorem c3_acL {post : zm_M → Prop} {σ0 : Nat → Nat} {τ0 : Nat → Int32} {β0 : Nat → Nat → Int32} {a n D : Nat} {fin : List Nat} (ha : a < 24) (hn : n ≤ 100) (hD0 : D ≠ 0) (hD : D < 4294967296 ^ 16) (h0D : σ0 (2 * a + 1) = D) (hfl : fin.length ≤ 320) (hp : ∀ (M' : zm_M) (σ' : Nat → Nat) (τ' : Nat → Int32) (β' : Nat → Nat → Int32), zC G B M0 M' σ' τ' π β' → zO τ' β' fin → zOf τ0 τ' β0 β' → (∀ l, l < 64 → σ' l = σ0 l) → post M') : ∀ (d c : Nat) (M : zm_M) (σ : Nat → Nat) (τ : Nat → Int32) (β : Nat → Nat → Int32) (ol : List Nat), c + d = n → zC G B M0 M σ τ π β → zO τ β ol → zOf τ0 τ β0 β → (∀ l, l < 64 → σ l = σ0 l) → σ 65 < D → ol ++ zcd D d (σ 65) = fin → pX3_addCut_46 G post (d + 1) (B + 160) (B + zo_r a) (nI n) (nI c) M
  | 0, c, M, σ, τ, β, ol, hc, h, hO, hf, hs, hr, he => by
    rw [pX3_addCut_46]
    have he' : ol = fin := by
      rw [← he]
      exact (List.append_nil ol).symm
    rw [he'] at hO
    exact ⟨fun _ => hp M σ τ β h hO hf hs, fun y => absurd ((nI_leI (by omega) (by omega)).mpr (by omega)) y⟩
  | d + 1, c, M, σ, τ, β, ol, hc, h, hO, hf, hs, hr, he => by
    rw [pX3_addCut_46]
    have hpow : 4294967296 ^ 16 * 10 < 4294967296 ^ 36 := by decide
    have eD : σ (2 * a + 1) = D := (hs _ (by omega)).trans h0D
    have hq : σ 65 * 10 / D < 10 := (Nat.div_lt_iff_lt_mul (by omega)).mpr (by omega)
    refine ⟨fun y => absurd ((nI_leI (by omega) (by omega)).mp y) (by omega), fun _ => ⟨_, _, zC_s h, rfl, zC_o h 65 (by decide), c5_timesPlus h 65 (by decide) (q := 10) (m0 := 0) (by decide) (by decide) (by show σ 65 * 10 + 0 < 4294967296 ^ 36; omega) (fun M1 k1 => ⟨_, _, zC_s k1, rfl, gB k1 a (by omega) ⟨_, _, zC_s k1, rfl, zC_o k1 65 (by decide), c5_divide k1 65 (2 * a + 1) 66 (by decide) (by omega) (by decide) (by omega) (by decide) (by omega) (by decide) (fun M2 k2 => ⟨_, _, zC_s k2, rfl, zC_o k2 66 (by decide), c5_low k2 66 (by decide) ⟨zC_so k2, ?_⟩⟩)⟩⟩)⟩⟩
    rw [ux_s, Nat.add_zero, ux_n (i := 65) (j := 2 * a + 1) (by omega), eD] at k2 ⊢
    rw [ux_s, show σ 65 * 10 + 0 = σ 65 * 10 from rfl, Nat.mod_eq_of_lt (show σ 65 * 10 / D < 18446744073709551616 by omega), lN_i]
    have e48 : (48 : Int32) + nI (σ 65 * 10 / D) = nI (48 + σ 65 * 10 / D) := nI_add 48 _
    rw [e48]
    have hl : ol.length < 320 := by
      have := congrArg List.length he
      rw [List.length_append, zcd_len] at this
      omega
    refine c3_add k2 hO _ (by omega) hl (fun M3 τ3 β3 k3 o3 f3 x21 e21 => ?_)
    rw [e21, nI_1]
    have e65 : ux (ux (ux σ 65 (σ 65 * 10)) 65 (σ 65 * 10 % D)) 66 (σ 65 * 10 / D) 65 = σ 65 * 10 % D := rfl
    refine c3_acL ha hn hD0 hD h0D hfl hp d (c + 1) M3 _ τ3 β3 _ (by omega) k3 o3 (zOf_t hf f3) (fun l hl => ?_) ?_ ?_
    · rw [ux_n (by omega), ux_n (by omega), ux_n (by omega)]
      exact hs l hl
    · rw [e65]
      exact Nat.mod_lt _ (by omega)
    · rw [e65, List.append_assoc]
      exact he
/-- what figures writes behind the sign -/
def zct (N D n : Nat) : List Nat := ztx (N / D) ++ (if n = 0 then [] else 46 :: zcd D n (N % D))
theorem c3_addCut {post : zm_M → Prop} (h : zC G B M0 M σ τ π β) (hO : zO τ β ol) (a n : Nat) (ha : a < 24) (hn : n ≤ 100) (hD : σ (2 * a + 1) ≠ 0) (hol : ol.length ≤ 1) (hp : ∀ (M' : zm_M) (σ' : Nat → Nat) (τ' : Nat → Int32) (β' : Nat → Nat → Int32), zC G B M0 M' σ' τ' π β' → zO τ' β' (ol ++ zct (σ (2 * a)) (σ (2 * a + 1)) n) → zOf τ τ' β β' → (∀ l, l < 64 → σ' l = σ l) → post M') : pX3_addCut G (B + 160) (B + zo_r a) (nI n) post M := by
  have hNl := zC_n h (2 * a) (by omega)
  have hDl := zC_n h (2 * a + 1) (by omega)
  generalize hNN : σ (2 * a) = N at *
  generalize hDD : σ (2 * a + 1) = D at *
  have hpow : 4294967296 ^ 16 < 4294967296 ^ 36 := by decide
  have hqN : N / D ≤ N := Nat.div_le_self _ _
  have htl := ztx_len (v := N / D) (by omega)
  have hml : N % D < D := Nat.mod_lt _ (by omega)
  unfold pX3_addCut
  refine ⟨_, _, zC_s h, rfl, gT h a (by omega) ⟨zC_o h 65 (by decide), c5_copy h 65 (2 * a) (by decide) (by omega) (by rw [hNN]; show N < 4294967296 ^ 36; omega) (fun M1 k1 => ⟨_, _, zC_s k1, rfl, gB k1 a (by omega) ⟨_, _, zC_s k1, rfl, zC_o k1 65 (by decide), c5_divide k1 65 (2 * a + 1) 66 (by decide) (by omega) (by decide) (by omega) (by decide) (by omega) (by decide) (fun M2 k2 => ⟨_, _, zC_s k2, rfl, zC_so k2, ?_⟩)⟩⟩)⟩⟩
  rw [ux_s, ux_n (i := 65) (j := 2 * a + 1) (by omega), hNN, hDD] at k2
  obtain ⟨σ2, hσ2⟩ : ∃ σ2, σ2 = ux (ux (ux σ 65 N) 65 (N % D)) 66 (N / D) := ⟨_, rfl⟩
  have e65 : σ2 65 = N % D := by rw [hσ2]; rfl
  have e66 : σ2 66 = N / D := by rw [hσ2]; rfl
  have hs2 : ∀ l, l < 64 → σ2 l = σ l := fun l hl => by rw [hσ2, ux_n (by omega), ux_n (by omega), ux_n (by omega)]
  rw [← hσ2] at k2
  refine c3_addSize k2 hO 66 (by decide) (by rw [e66, List.length_append]; omega) (fun M3 σ3 τ3 β3 k3 o3 f3 s3 => ?_)
  rw [e66] at o3
  have hs3 : ∀ l, l < 64 → σ3 l = σ l := fun l hl => (s3 l (by omega)).trans (hs2 l hl)
  have r3 : σ3 65 = N % D := (s3 65 (by decide)).trans e65
  have hz : nI n ≤ (0 : Int32) ↔ n = 0 := by
    have := nI_leI (a := n) (b := 0) (by omega) (by decide)
    rw [show nI 0 = (0 : Int32) from rfl] at this
    rw [this]
    omega
  refine ⟨fun y x10 e10 => ⟨n + 1, ?_⟩, fun y => ⟨zC_so k3, c3_add k3 o3 46 (by decide) (by rw [List.length_append]; omega) (fun M4 τ4 β4 k4 o4 f4 x23 e23 => ⟨n + 1, ?_⟩)⟩⟩
  · have hn0 := hz.mp y
    rw [e10]
    refine c3_acL (σ0 := σ) (τ0 := τ) (β0 := β) (D := D) (fin := ol ++ zct N D n) ha hn hD hDl hDD ?_ hp n 0 M3 σ3 τ3 β3 _ (by omega) k3 o3 f3 hs3 (by rw [r3]; exact hml) ?_
    · unfold zct
      rw [if_pos hn0, List.append_nil, List.length_append]
      omega
    · unfold zct
      rw [if_pos hn0, hn0, List.append_nil]
      exact List.append_nil _
  · have hn0 : n ≠ 0 := fun c => y (hz.mpr c)
    rw [e23]
    refine c3_acL (σ0 := σ) (τ0 := τ) (β0 := β) (D := D) (fin := ol ++ zct N D n) ha hn hD hDl hDD ?_ hp n 0 M4 σ3 τ4 β4 _ (by omega) k4 o4 (zOf_t f3 f4) hs3 (by rw [r3]; exact hml) ?_
    · unfold zct
      rw [if_neg hn0, List.length_append, List.length_append]
      have : (46 :: zcd D n (N % D)).length = n + 1 := by
        show (zcd D n (N % D)).length + 1 = n + 1
        rw [zcd_len]
      omega
    · unfold zct
      rw [if_neg hn0, r3]
      simp [List.append_assoc]
end C32
