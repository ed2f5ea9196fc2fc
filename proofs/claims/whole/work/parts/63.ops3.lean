/-! ===== THE CLASS'S CALLS: best, real, single, feed, text, figures, out ===== -/
def zo_real (S : zS) (x : Int32) : Int64 × zS := match zfd S x with
  | none => (-1, S)
  | some a => (if sS S a = 0 then 0 else if 0 ≤ sS S a then lN (znb (sN S a) (sD S a) 53 (-1074) 9218868437227405312) else lN (znb (sN S a) (sD S a) 53 (-1074) 9218868437227405312) ||| -9223372036854775808, S)
def zo_single (S : zS) (x : Int32) : Int32 × zS := match zfd S x with
  | none => (-1, S)
  | some a => (if sS S a = 0 then 0 else if 0 ≤ sS S a then (lN (znb (sN S a) (sD S a) 24 (-149) 2139095040)).toInt32 else (lN (znb (sN S a) (sD S a) 24 (-149) 2139095040) ||| 2147483648).toInt32, S)
def zo_feed (S : zS) (b : Int32) : Int32 × zS := if 0 ≤ b ∧ b ≤ 255 then if sL S < 400 then (nI (sL S + 1), (sT S, sS S, sN S, sD S, (sL S + 1, ux (st S) (sL S) b.toInt.toNat), sO S)) else (-3, S) else (-1, S)
/-- a new OUT -/
def zout (S : zS) (ol : List Nat) : Int32 × zS := (nI ol.length, (sT S, sS S, sN S, sD S, S.2.2.2.2.1, ol))
def zsg (s : Int32) : List Nat := if s < 0 then [45] else []
def zo_text (S : zS) (x : Int32) : Int32 × zS := match zfd S x with
  | none => (-1, S)
  | some a => zout S (zsg (sS S a) ++ ztx (sN S a) ++ (if sD S a = 1 then [] else 47 :: ztx (sD S a)))
def zo_figures (S : zS) (x n : Int32) : Int32 × zS := match zfd S x with
  | none => (-1, S)
  | some a => if 0 ≤ n ∧ n ≤ 100 then zout S (zsg (sS S a) ++ zct (sN S a) (sD S a) n.toInt.toNat) else (-1, S)
def zo_out (S : zS) (i : Int32) : Int32 × zS := (if 0 ≤ i then match (sO S)[i.toInt.toNat]? with
  | none => -5
  | some b => nI b else -5, S)
section O3
variable {G : Nat → ClassId} {B : Nat} {M0 M : zm_M} {σ : Nat → Nat} {τ : Nat → Int32} {π : Nat → Nat} {β : Nat → Nat → Int32} {S : zS} {post : Int32 → zm_M → Prop}
theorem i64_pos {x : Int64} (h : 1 ≤ x) : 1 ≤ uN x ∧ uN x < 2 ^ 63 ∧ x = lN (uN x) := by
  have h0 : ¬ x < 0 := fun c => by
    rw [Int64.lt_iff_toInt_lt] at c
    rw [Int64.le_iff_toInt_le] at h
    have h1 : (1 : Int64).toInt = 1 := by decide
    have h2 : (0 : Int64).toInt = 0 := by decide
    omega
  obtain ⟨k, hk, rfl⟩ := pk_lOf h0
  have hk1 : 1 ≤ k := (pk_lLE (a := 1) (by decide) hk).mp h
  rw [uN_63 hk]
  exact ⟨hk1, hk, rfl⟩
theorem zch_le {r D p q p' q' bd : Nat} (h1 : p ≤ bd) (h2 : q ≤ bd) (h3 : q ≠ 0) (h4 : p' ≤ bd) (h5 : q' ≤ bd) (h6 : q' ≠ 0) : (zch r D p q p' q').1 ≤ bd ∧ (zch r D p q p' q').2 ≤ bd ∧ (zch r D p q p' q').2 ≠ 0 := by
  unfold zch
  split
  · exact ⟨h1, h2, h3⟩
  · exact ⟨h4, h5, h6⟩
theorem zrs_gcd {s : Int32} {N D : Nat} (hg : Nat.gcd N D = 1) (hD : D ≠ 0) : Nat.gcd D (zrs s N D) = 1 := by
  have h1 : Nat.gcd D (N % D) = 1 := by
    rw [← hg, Nat.gcd_comm N D, Nat.gcd_rec D N, Nat.gcd_comm]
  unfold zrs
  split
  · have hml := Nat.mod_lt N (show 0 < D by omega)
    have h2 : Nat.gcd D (D - N % D) ∣ 1 := by
      rw [← h1]
      have d1 : Nat.gcd D (D - N % D) ∣ D := Nat.gcd_dvd_left _ _
      have d2 : Nat.gcd D (D - N % D) ∣ D - N % D := Nat.gcd_dvd_right _ _
      have d3 : Nat.gcd D (D - N % D) ∣ N % D := by
        have := Nat.dvd_sub d1 d2
        rw [show D - (D - N % D) = N % D by omega] at this
        exact this
      exact Nat.dvd_gcd d1 d3
    exact Nat.dvd_one.mp h2
  · exact h1
theorem c6_best (h : zRC G B M0 M S) {x : Int32} {bd : Int64} (hp : ∀ M', zRC G B M0 M' (zo_best S x bd).2 → post (zo_best S x bd).1 M') : pX6_best G B x bd post M := by
  obtain ⟨σ, τ, π, β, h, r⟩ := h
  have hR : zRC G B M0 M S := ⟨σ, τ, π, β, h, r⟩
  unfold zo_best at hp
  unfold pX6_best
  refine ⟨zC_xo h, c6_find' h r (fun e => ?_) (fun a e ha ht hx => ⟨fun y => ⟨zC_xo h, ?_⟩, fun y => ?_⟩)⟩
  · rw [e] at hp
    exact hp M hR
  · obtain ⟨t1, t2, t3, t4⟩ := zRr_a r ha ht
    rw [e] at hp
    simp only at hp
    rw [if_pos y] at hp
    obtain ⟨y1, y2, y3⟩ := i64_pos y
    refine c6_isFull h r (fun hf => ⟨fun _ => gB h a (by omega) ⟨zC_o h _ (by omega), c5_isAbove h (2 * a + 1) (by omega) (by omega) ?_⟩, fun z => absurd rfl z⟩) (fun hf => ⟨fun z => absurd z (by decide), fun _ => ?_⟩)
    · rw [if_pos hf] at hp
      rw [t3]
      by_cases c : uN bd < sD S a
      · rw [if_pos c]
        rw [if_neg (by omega)] at hp
        refine ⟨fun z => absurd z (by decide), fun _ => xC h ⟨zC_co h, c6_begin h r ha ht (fun M1 σ1 τ1 k1 r1 e54 e55 e57 e58 e25 e2a => hXC k1 (hB k1 a (by omega) ⟨zH_co k1, ?_⟩))⟩⟩
        have hzl := zrs_lt (s := sS S a) (N := sN S a) t4.1
        have hDl := t4.2.2.2.2
        have hgc := zrs_gcd (s := sS S a) t4.2.1 t4.1
        rw [y3]
        refine c1_seek k1 (2 * a + 1) (uN bd) (by omega) y2 y1 (by rw [e57]; exact c) (by rw [e57, e58]; exact hzl) (by rw [e57]; exact hDl) (by rw [e57, e58]; exact hgc) (by rw [e55]; omega) (fun M2 σ2 π2 p q p' q' k2 g1 g2 s2 => hXC k2 (hXB k2 ⟨zH_co k2, ?_⟩))
        rw [e57, e58] at g1
        rw [e55, e2a] at g2
        have hzb : zbs (uN bd) (sD S a) (zrs (sS S a) (sN S a) (sD S a)) = (σ2 59, σ2 60) := by
          unfold zbs
          rw [g1, g2]
        rw [hzb] at hp
        have hi0 : zsi (uN bd) (sD S a) (sD S a) (zrs (sS S a) (sN S a) (sD S a)) 0 1 1 0 := ⟨hzl, by omega, by omega, by omega, by omega, Or.inr ⟨rfl, rfl, rfl⟩, by omega, hgc⟩
        obtain ⟨b1, b2, b3, b4, b5, b6⟩ := zsn_le hi0 g1
        have b6' : q' ≠ 0 := fun z => by
          have := (b6 z).2
          rw [Nat.sub_zero, Nat.div_one] at this
          omega
        obtain ⟨l1, l2, l3⟩ := zch_le (r := zrs (sS S a) (sN S a) (sD S a)) (D := sD S a) b1 b2 b3 b4 b5 b6'
        have hg2 : zch (zrs (sS S a) (sN S a) (sD S a)) (sD S a) (p, q, p', q').1 (p, q, p', q').2.1 (p, q, p', q').2.2.1 (p, q, p', q').2.2.2 = (σ2 59, σ2 60) := g2.symm
        rw [hg2] at l1 l2 l3
        have r2 : zRr σ2 τ1 β S := zRr_k r1 (fun l hl => s2 l (by omega)) (fun _ _ => rfl)
        have l1 : σ2 59 ≤ uN bd := l1
        have l2 : σ2 60 ≤ uN bd := l2
        have hpw : 2 ^ 63 < 4294967296 ^ 16 := by decide
        unfold pX6_best_93
        exact c6_tell k2 r2 hf t4 ((s2 54 (by decide)).trans e54) e25 l3 (by omega) (by omega) hp
      · rw [if_neg c]
        rw [if_pos (by omega)] at hp
        refine ⟨fun _ => xB h (bR h ⟨zC_ro h 24 (by decide), c2_copy h 24 a (by decide) (by omega) ?_ ?_ (fun M1 k1 => ?_)⟩), fun z => absurd rfl z⟩
        · have := zC_n h (2 * a) (by omega)
          have hpow : 4294967296 ^ 16 < 4294967296 ^ 36 := by decide
          show _ < 4294967296 ^ 36
          omega
        · have := zC_n h (2 * a + 1) (by omega)
          have hpow : 4294967296 ^ 16 < 4294967296 ^ 36 := by decide
          show _ < 4294967296 ^ 36
          omega
        · unfold pX6_best_93
          have e48 : ux (ux σ (2 * 24) (σ (2 * a))) (2 * 24 + 1) (σ (2 * a + 1)) 48 = sN S a := t2
          have e49 : ux (ux σ (2 * 24) (σ (2 * a))) (2 * 24 + 1) (σ (2 * a + 1)) 49 = sD S a := t3
          refine ⟨zC_xo k1, c6_keep k1 (zRr_k r (fun l hl => ?_) (fun q hq => pk_un (by omega))) hf (by rw [e49]; exact t4.1) (fun z => ?_) ?_⟩
          · rw [ux_n (by omega), ux_n (by omega)]
          · rw [pk_us, t1]
            rw [e48] at z
            rcases t4.2.2.1 with c2 | c2
            · exact absurd c2.2 z
            · exact c2.1
          · rw [pk_us, e48, e49, t1]
            exact hp
    · rw [if_neg hf] at hp
      exact hp M hR
  · rw [e] at hp
    simp only at hp
    rw [if_neg y] at hp
    exact hp M hR
theorem c6_real {post : Int64 → zm_M → Prop} (h : zRC G B M0 M S) {x : Int32} (hp : ∀ M', zRC G B M0 M' (zo_real S x).2 → post (zo_real S x).1 M') : pX6_real G B x post M := by
  obtain ⟨σ, τ, π, β, h, r⟩ := h
  have hR : zRC G B M0 M S := ⟨σ, τ, π, β, h, r⟩
  unfold zo_real at hp
  unfold pX6_real
  refine ⟨zC_xo h, c6_find' h r (fun e => ?_) (fun a e ha ht hx => xB h ⟨zC_bo h, ?_⟩)⟩
  · rw [e] at hp
    exact hp M hR
  · obtain ⟨t1, t2, t3, t4⟩ := zRr_a r ha ht
    rw [e] at hp
    simp only at hp
    refine c0_nearestBits h a ha (p := 53) (inf := 9218868437227405312) (least := -1074) (by decide) (by decide) (by decide) (by decide) (by decide) (fun _ => rfl) (fun z => absurd rfl z) (by decide) (fun z => ?_) (by rw [t3]; exact t4.1) (fun z => gR h a (by omega) ?_) (fun z M1 σ1 k1 s1 => gR k1 a (by omega) ?_)
    · rw [t2]
      rw [t1] at z
      rcases t4.2.2.1 with c | c
      · exact absurd c.1 z
      · exact c.2
    · rw [t1] at z ⊢
      rw [if_pos z] at hp
      rw [z]
      exact ⟨fun _ => hp M hR, fun q => absurd (by decide) q⟩
    · rw [t1] at z ⊢
      rw [if_neg z] at hp
      rw [t2, t3]
      have hR1 : zRC G B M0 M1 S := ⟨_, _, _, _, k1, zRr_k r (fun l hl => s1 l (Or.inl hl)) (fun _ _ => rfl)⟩
      refine ⟨fun y => ?_, fun y => ?_⟩
      · rw [if_pos y] at hp; exact hp M1 hR1
      · rw [if_neg y] at hp; exact hp M1 hR1
theorem c6_single (h : zRC G B M0 M S) {x : Int32} (hp : ∀ M', zRC G B M0 M' (zo_single S x).2 → post (zo_single S x).1 M') : pX6_single G B x post M := by
  obtain ⟨σ, τ, π, β, h, r⟩ := h
  have hR : zRC G B M0 M S := ⟨σ, τ, π, β, h, r⟩
  unfold zo_single at hp
  unfold pX6_single
  refine ⟨zC_xo h, c6_find' h r (fun e => ?_) (fun a e ha ht hx => xB h ⟨zC_bo h, ?_⟩)⟩
  · rw [e] at hp
    exact hp M hR
  · obtain ⟨t1, t2, t3, t4⟩ := zRr_a r ha ht
    rw [e] at hp
    simp only at hp
    refine c0_nearestBits h a ha (p := 24) (inf := 2139095040) (least := -149) (by decide) (by decide) (by decide) (by decide) (by decide) (fun z => absurd z (by decide)) (fun z => by decide) (by decide) (fun z => ?_) (by rw [t3]; exact t4.1) (fun z => gR h a (by omega) ?_) (fun z M1 σ1 k1 s1 => gR k1 a (by omega) ?_)
    · rw [t2]
      rw [t1] at z
      rcases t4.2.2.1 with c | c
      · exact absurd c.1 z
      · exact c.2
    · rw [t1] at z ⊢
      rw [if_pos z] at hp
      rw [z]
      exact ⟨fun _ => hp M hR, fun q => absurd (by decide) q⟩
    · rw [t1] at z ⊢
      rw [if_neg z] at hp
      rw [t2, t3]
      have hR1 : zRC G B M0 M1 S := ⟨_, _, _, _, k1, zRr_k r (fun l hl => s1 l (Or.inl hl)) (fun _ _ => rfl)⟩
      refine ⟨fun y => ?_, fun y => ?_⟩
      · rw [if_pos y] at hp; exact hp M1 hR1
      · rw [if_neg y] at hp; exact hp M1 hR1
theorem i32_0 {x : Int32} : (0 : Int32) ≤ x ↔ 0 ≤ x.toInt := Int32.le_iff_toInt_le
theorem i32_n {x : Int32} (h : 0 ≤ x.toInt) : x = nI x.toInt.toNat := by
  have := Int32.toInt_lt x
  apply Int32.toInt_inj.mp
  rw [nI_toInt (by omega)]
  omega
theorem c6_feed (h : zRC G B M0 M S) {b : Int32} (hp : ∀ M', zRC G B M0 M' (zo_feed S b).2 → post (zo_feed S b).1 M') : pX6_feed G B b post M := by
  obtain ⟨σ, τ, π, β, h, r⟩ := h
  have hR : zRC G B M0 M S := ⟨σ, τ, π, β, h, r⟩
  unfold zo_feed at hp
  unfold pX6_feed
  refine ⟨fun y => ?_, fun y => ⟨fun z => xT h ⟨zC_to h, ?_⟩, fun z => ?_⟩⟩
  · rw [if_neg (fun c => absurd y (Int32.not_lt.mpr c.1))] at hp
    exact hp M hR
  · have y' : (0 : Int32) ≤ b := Int32.not_lt.mp y
    rw [if_pos ⟨y', z⟩] at hp
    have z' : b.toInt ≤ 255 := Int32.le_iff_toInt_le.mp z
    have hb0 := i32_0.mp y'
    have hbn := i32_n hb0
    obtain ⟨q1, q2, q3, q4, q5, q6⟩ := id r
    rw [hbn]
    refine c4_add h q4 b.toInt.toNat (by omega) (fun c => ⟨fun _ => ?_, fun w => absurd rfl w⟩) (fun c M1 β1 k1 T1 g0 g2 => ⟨fun w => absurd w (by decide), fun _ => xT k1 ⟨_, _, zC_t k1, rfl, ?_⟩⟩)
    · rw [if_neg c] at hp
      exact hp M hR
    · rw [if_pos c] at hp
      rw [pk_us]
      refine hp M1 ⟨_, _, _, _, k1, ⟨fun a ha => ?_, fun a ha hx => ?_, ?_, T1, ⟨?_, q5.2.1, fun j b hj => ?_⟩, q6⟩⟩
      · rw [g0]; exact q1 a ha
      · rw [pk_un (by omega)]; exact q2 a ha hx
      · rw [pk_un (by decide)]; exact q3
      · rw [pk_un (by decide)]; exact q5.1
      · rw [g2]; exact q5.2.2 j b hj
  · rw [if_neg (fun c => z c.2)] at hp
    exact hp M hR
/-- OUT is new, all else as it was -/
theorem zRr_o {σ' : Nat → Nat} {τ' : Nat → Int32} {β' : Nat → Nat → Int32} {ol : List Nat} (r : zRr σ τ β S) (hs : ∀ l, l < 48 → σ' l = σ l) (hO : zO τ' β' ol) (hf : zOf τ τ' β β') : zRr σ' τ' β' (zout S ol).2 := by
  obtain ⟨q1, q2, q3, q4, q5, q6⟩ := r
  refine ⟨fun a ha => ?_, fun a ha hx => ?_, ?_, ⟨?_, q4.2.1, fun j hj => ?_⟩, hO, q6⟩
  · rw [hf.2 0 (by decide)]; exact q1 a ha
  · rw [hf.1 a (by omega), hs _ (by omega), hs _ (by omega)]; exact q2 a ha hx
  · rw [hf.1 26 (by decide)]; exact q3
  · rw [hf.1 27 (by decide)]; exact q4.1
  · rw [hf.2 1 (by decide)]; exact q4.2.2 j hj
theorem c6_text (h : zRC G B M0 M S) {x : Int32} (hp : ∀ M', zRC G B M0 M' (zo_text S x).2 → post (zo_text S x).1 M') : pX6_text G B x post M := by
  obtain ⟨σ, τ, π, β, h, r⟩ := h
  have hR : zRC G B M0 M S := ⟨σ, τ, π, β, h, r⟩
  unfold zo_text at hp
  unfold pX6_text
  refine ⟨zC_xo h, c6_find' h r (fun e => ?_) (fun a e ha ht hx => xS h (gR h a (by omega) ?_))⟩
  · rw [e] at hp
    exact hp M hR
  · obtain ⟨t1, t2, t3, t4⟩ := zRr_a r ha ht
    rw [e] at hp
    simp only at hp
    have lN' := ztx_len t4.2.2.2.1
    have lD' := ztx_len t4.2.2.2.2
    -- behind the sign
    have mid : ∀ (M1 : zm_M) (τ1 : Nat → Int32) (β1 : Nat → Nat → Int32), zC G B M0 M1 σ τ1 π β1 → zO τ1 β1 (zsg (sS S a)) → zOf τ τ1 β β1 → zw_ga M1 B 9 6 (fun sheet_7 => zw_ga M1 (B + zo_r a) 5 1 (fun top_8 => zw_ob M1 sheet_7 6 ∧ pX3_addSize G sheet_7 top_8 (fun M9 => zw_ob M9 (B + zo_r a) 5 ∧ pX2_isWhole G (B + zo_r a) (fun r11 M10 => (¬ r11 = 0 → zw_ga M10 B 9 6 (fun sheet_12 => zw_gi M10 sheet_12 6 1 (fun length_13 => post length_13 M10))) ∧ (r11 = 0 → zw_ga M10 B 9 6 (fun sheet_14 => zw_ob M10 sheet_14 6 ∧ pX3_add G sheet_14 (47 : Int32) (fun M15 => zw_ga M15 B 9 6 (fun sheet_16 => zw_ga M15 (B + zo_r a) 5 2 (fun bottom_17 => zw_ob M15 sheet_16 6 ∧ pX3_addSize G sheet_16 bottom_17 (fun M18 => zw_ga M18 B 9 6 (fun sheet_19 => zw_gi M18 sheet_19 6 1 (fun length_20 => post length_20 M18))) M15))) M10))) M9) M1)) := by
      intro M1 τ1 β1 k1 o1 f1
      have ls : (zsg (sS S a)).length ≤ 1 := by
        unfold zsg
        split
        · exact Nat.le_refl 1
        · exact Nat.zero_le 1
      have l1 : (zsg (sS S a) ++ ztx (σ (2 * a))).length ≤ 156 := by
        rw [t2, List.length_append]
        omega
      refine xS k1 (gT k1 a (by omega) ⟨zC_so k1, c3_addSize k1 o1 (2 * a) (by omega) (by omega) (fun M2 σ2 τ2 β2 k2 o2 f2 s2 => ⟨zC_ro k2 a (by omega), c2_isWhole k2 a (by omega) ?_⟩)⟩)
      rw [t2] at o2
      rw [s2 _ (by omega), t3]
      by_cases c : sD S a = 1
      · rw [if_pos c] at hp ⊢
        rw [List.append_nil] at hp
        refine ⟨fun _ => xS k2 ⟨_, _, zC_s k2, rfl, ?_⟩, fun z => absurd z (by decide)⟩
        rw [o2.1]
        exact hp M2 ⟨_, _, _, _, k2, zRr_o r (fun l hl => s2 l (by omega)) o2 (zOf_t f1 f2)⟩
      · rw [if_neg c] at hp ⊢
        refine ⟨fun z => absurd rfl z, fun _ => xS k2 ⟨zC_so k2, c3_add k2 o2 47 (by decide) (by rw [← t2]; omega) (fun M3 τ3 β3 k3 o3 f3 => xS k3 (gB k3 a (by omega) ⟨zC_so k3, c3_addSize k3 o3 (2 * a + 1) (by omega) ?_ (fun M4 σ4 τ4 β4 k4 o4 f4 s4 => xS k4 ⟨_, _, zC_s k4, rfl, ?_⟩)⟩))⟩⟩
        · rw [s2 _ (by omega), t3, List.length_append, List.length_append, ← t2]
          have : ([47] : List Nat).length = 1 := rfl
          omega
        · rw [s2 _ (by omega), t3] at o4
          have eo : zsg (sS S a) ++ ztx (sN S a) ++ [47] ++ ztx (sD S a) = zsg (sS S a) ++ ztx (sN S a) ++ 47 :: ztx (sD S a) := by simp [List.append_assoc]
          rw [eo] at o4
          rw [o4.1]
          exact hp M4 ⟨_, _, _, _, k4, zRr_o r (fun l hl => (s4 l (by omega)).trans (s2 l (by omega))) o4 (zOf_t (zOf_t f1 f2) (zOf_t f3 f4))⟩
    rw [t1]
    refine ⟨fun y => ?_, fun y => ?_⟩
    · unfold pX6_text_28
      refine ⟨zC_so h, c3_begin h (neg := False) ⟨fun z => absurd rfl z, fun z => z.elim⟩ (fun z => z.elim) (fun _ M1 τ1 β1 k1 o1 f1 => mid M1 τ1 β1 k1 ?_ f1)⟩
      unfold zsg
      rw [if_neg (Int32.not_lt.mpr y)]
      exact o1
    · unfold pX6_text_28
      refine ⟨zC_so h, c3_begin h (neg := True) ⟨fun _ => trivial, fun _ => (by decide)⟩ (fun _ M1 τ1 β1 k1 o1 f1 => mid M1 τ1 β1 k1 ?_ f1) (fun z => absurd trivial z)⟩
      unfold zsg
      rw [if_pos (Int32.not_le.mp y)]
      exact o1
theorem c6_figures (h : zRC G B M0 M S) {x n : Int32} (hp : ∀ M', zRC G B M0 M' (zo_figures S x n).2 → post (zo_figures S x n).1 M') : pX6_figures G B x n post M := by
  obtain ⟨σ, τ, π, β, h, r⟩ := h
  have hR : zRC G B M0 M S := ⟨σ, τ, π, β, h, r⟩
  unfold zo_figures at hp
  unfold pX6_figures
  refine ⟨zC_xo h, c6_find' h r (fun e => ?_) (fun a e ha ht hx => ⟨fun y => ?_, fun y => ⟨fun z => xS h (gR h a (by omega) ?_), fun z => ?_⟩⟩)⟩
  · rw [e] at hp
    exact hp M hR
  · rw [e] at hp
    simp only at hp
    rw [if_neg (fun c => absurd y (Int32.not_lt.mpr c.1))] at hp
    exact hp M hR
  · obtain ⟨t1, t2, t3, t4⟩ := zRr_a r ha ht
    have y' : (0 : Int32) ≤ n := Int32.not_lt.mp y
    have hn0 := i32_0.mp y'
    have hn1 : n.toInt ≤ 100 := Int32.le_iff_toInt_le.mp z
    rw [e] at hp
    simp only at hp
    rw [if_pos ⟨y', z⟩] at hp
    have ls : (zsg (sS S a)).length ≤ 1 := by
      unfold zsg
      split
      · exact Nat.le_refl 1
      · exact Nat.zero_le 1
    have mid : ∀ (M1 : zm_M) (τ1 : Nat → Int32) (β1 : Nat → Nat → Int32), zC G B M0 M1 σ τ1 π β1 → zO τ1 β1 (zsg (sS S a)) → zOf τ τ1 β β1 → zw_ga M1 B 9 6 (fun sheet_7 => zw_ob M1 sheet_7 6 ∧ pX3_addCut G sheet_7 (B + zo_r a) n (fun M8 => zw_ga M8 B 9 6 (fun sheet_9 => zw_gi M8 sheet_9 6 1 (fun length_10 => post length_10 M8))) M1) := by
      intro M1 τ1 β1 k1 o1 f1
      rw [i32_n hn0]
      refine xS k1 ⟨zC_so k1, c3_addCut k1 o1 a n.toInt.toNat ha (by omega) (by rw [t3]; exact t4.1) ls (fun M2 σ2 τ2 β2 k2 o2 f2 s2 => xS k2 ⟨_, _, zC_s k2, rfl, ?_⟩)⟩
      rw [t2, t3] at o2
      rw [o2.1]
      exact hp M2 ⟨_, _, _, _, k2, zRr_o r (fun l hl => s2 l (by omega)) o2 (zOf_t f1 f2)⟩
    rw [t1]
    refine ⟨fun y => ?_, fun y => ?_⟩
    · unfold pX6_figures_38
      refine ⟨zC_so h, c3_begin h (neg := False) ⟨fun z => absurd rfl z, fun z => z.elim⟩ (fun z => z.elim) (fun _ M1 τ1 β1 k1 o1 f1 => mid M1 τ1 β1 k1 ?_ f1)⟩
      unfold zsg
      rw [if_neg (Int32.not_lt.mpr y)]
      exact o1
    · unfold pX6_figures_38
      refine ⟨zC_so h, c3_begin h (neg := True) ⟨fun _ => trivial, fun _ => (by decide)⟩ (fun _ M1 τ1 β1 k1 o1 f1 => mid M1 τ1 β1 k1 ?_ f1) (fun z => absurd trivial z)⟩
      unfold zsg
      rw [if_pos (Int32.not_le.mp y)]
      exact o1
  · rw [e] at hp
    simp only at hp
    rw [if_neg (fun c => z c.2)] at hp
    exact hp M hR
theorem c6_out (h : zRC G B M0 M S) {i : Int32} (hp : ∀ M', zRC G B M0 M' (zo_out S i).2 → post (zo_out S i).1 M') : pX6_out G B i post M := by
  obtain ⟨σ, τ, π, β, h, r⟩ := h
  have hp := hp M ⟨σ, τ, π, β, h, r⟩
  unfold zo_out at hp
  simp only at hp
  unfold pX6_out
  refine xS h ⟨zC_so h, c3_at h r.2.2.2.2.1 (fun c => ?_) (fun b c hb => ?_)⟩
  · by_cases c0 : (0 : Int32) ≤ i
    · have := i32_0.mp c0
      rw [if_pos c0, List.getElem?_eq_none (by omega)] at hp
      exact hp
    · rw [if_neg c0] at hp
      exact hp
  · rw [if_pos (i32_0.mpr c), hb] at hp
    exact hp
end O3
