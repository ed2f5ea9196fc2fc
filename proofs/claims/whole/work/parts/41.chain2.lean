/-! ===== CHAIN: begin, cut, length, goTo, gather ===== -/
/-- the head's size and the rest -/
def zhd (s : Int32) (N D : Nat) : Nat := if s < 0 ∧ N % D ≠ 0 then N / D + 1 else N / D
def zrs (s : Int32) (N D : Nat) : Nat := if s < 0 ∧ N % D ≠ 0 then D - N % D else N % D
/-- how many terms -/
def zsl : Nat → Nat → Nat → Nat
  | 0, _, _ => 0
  | m + 1, X, Y => if Y = 0 then 0 else 1 + zsl m Y (X % Y)
/-- the latest term after d cuts -/
def zgo : Nat → Nat → Nat → Nat → Option Nat
  | 0, _, _, L => some L
  | d + 1, X, Y, _ => if Y = 0 then none else zgo d Y (X % Y) (X / Y)
/-- what d terms make -/
def zga : Nat → Nat → Nat → Nat → Nat → Nat → Nat → Option (Nat × Nat)
  | 0, _, _, p, q, _, _ => some (p, q)
  | d + 1, X, Y, p, q, p0, q0 => if Y = 0 then none else zga d Y (X % Y) (p0 + X / Y * p) (q0 + X / Y * q) p q
section CH2
variable {G : Nat → ClassId} {B : Nat} {M0 M : zm_M} {σ : Nat → Nat} {τ : Nat → Int32} {π : Nat → Nat} {β : Nat → Nat → Int32} {post : zm_M → Prop}
theorem c1_begin (h : zH G B M0 M σ τ π β) (a : Nat) (ha : a < 24) (hD : σ (2 * a + 1) ≠ 0) (hp : ∀ (M' : zm_M) (σ' : Nat → Nat), zH G B M0 M' σ' (upd τ 25 (τ a)) π β → σ' 54 = zhd (τ a) (σ (2 * a)) (σ (2 * a + 1)) → σ' 55 = zrs (τ a) (σ (2 * a)) (σ (2 * a + 1)) → σ' 57 = σ (2 * a + 1) → σ' 58 = zrs (τ a) (σ (2 * a)) (σ (2 * a + 1)) → (∀ l, l < 54 ∨ 59 ≤ l → σ' l = σ l) → post M') : pX1_begin G (B + 137) (B + zo_r a) post M := by
  have hNl := zH_n h (2 * a) (by omega)
  have hDl := zH_n h (2 * a + 1) (by omega)
  generalize hN : σ (2 * a) = N at *
  generalize hDD : σ (2 * a + 1) = D at *
  have hml : N % D < D := Nat.mod_lt _ (by omega)
  have hdl : N / D ≤ N := Nat.div_le_self _ _
  have hpow : 4294967296 ^ 16 + 2 < 4294967296 ^ 36 := by decide
  have fin : ∀ (M' : zm_M) (σ' : Nat → Nat), zH G B M0 M' σ' (upd τ 25 (τ a)) π β → σ' 54 = zhd (τ a) N D → σ' 55 = zrs (τ a) N D → (∀ l, l < 54 ∨ 59 ≤ l → σ' l = σ l) → pX1_begin_75 G post (B + 137) (B + zo_r a) M' := by
    intro M' σ' k h1 h2 hs
    unfold pX1_begin_75
    refine hk k rfl (hB k a (by omega) ⟨zH_o k 57 (by decide) rfl, h5_copy k 57 (2 * a + 1) (by decide) (by omega) (by decide) rfl (zφ_n (by omega)) (fun M2 k2 => hk k2 rfl (hk k2 rfl ⟨zH_o k2 58 (by decide) rfl, h5_copy k2 58 55 (by decide) (by decide) (by decide) rfl rfl (fun M3 k3 => hp M3 _ k3 ?_ ?_ ?_ ?_ (fun l hl => ?_))⟩))⟩)
    · rw [ux_n (by decide), ux_n (by decide)]; exact h1
    · rw [ux_n (by decide), ux_n (by decide)]; exact h2
    · rw [ux_n (by decide), ux_s, hs _ (by omega)]; exact hDD
    · rw [ux_s, ux_n (by decide)]; exact h2
    · rw [ux_n (by omega), ux_n (by omega)]; exact hs l hl
  unfold pX1_begin
  refine hR h a (by omega) (h_hs h (fun M1 k1 => hk k1 rfl (hT k1 a (by omega) ⟨zH_o k1 55 (by decide) rfl, h5_copy k1 55 (2 * a) (by decide) (by omega) (by decide) rfl (zφ_n (by omega)) (fun M2 k2 => hk k2 rfl (hB k2 a (by omega) (hk k2 rfl ⟨zH_o k2 55 (by decide) rfl, h5_divide k2 55 (2 * a + 1) 54 (by decide) (by omega) (by decide) (by omega) (by decide) (by omega) (by decide) rfl (zφ_n (by omega)) rfl (fun M3 k3 => hR k3 a (by omega) ?_)⟩)))⟩)))
  rw [ux_s, ux_n (i := 55) (j := 2 * a + 1) (by omega), hN, hDD] at k3
  have e55 : ux (ux (ux σ 55 N) 55 (N % D)) 54 (N / D) 55 = N % D := rfl
  have e54 : ux (ux (ux σ 55 N) 55 (N % D)) 54 (N / D) 54 = N / D := rfl
  have hs3 : ∀ l, l < 54 ∨ 59 ≤ l → ux (ux (ux σ 55 N) 55 (N % D)) 54 (N / D) l = σ l := fun l hl => by
    rw [ux_n (by omega), ux_n (by omega), ux_n (by omega)]
  rw [pk_un (by omega)]
  refine ⟨fun y => ?_, fun y => hk k3 rfl ⟨zH_o k3 55 (by decide) rfl, h5_isZero k3 55 (by decide) rfl ⟨fun z => ?_, fun z => hk k3 rfl ⟨zH_o k3 54 (by decide) rfl, h5_timesPlus k3 54 (by decide) (by decide) rfl (q := 1) (m0 := 1) (by decide) (by decide) ?_ (fun M4 k4 => hk k4 rfl (hB k4 a (by omega) (hk k4 rfl ⟨zH_o k4 55 (by decide) rfl, h5_subtract k4 55 (2 * a + 1) 55 (by decide) (by omega) (by decide) (by decide) rfl (zφ_n (by omega)) rfl ?_ (fun M5 k5 => ?_)⟩)))⟩⟩⟩⟩
  · have hc : ¬ (τ a < 0 ∧ N % D ≠ 0) := fun c => absurd c.1 (Int32.not_lt.mpr y)
    refine fin M3 _ k3 ?_ ?_ hs3
    · rw [e54]; unfold zhd; rw [if_neg hc]
    · rw [e55]; unfold zrs; rw [if_neg hc]
  · rw [e55] at z
    have c0 : N % D = 0 := by
      by_cases c : N % D = 0
      · exact c
      · rw [if_neg c] at z; exact absurd rfl z
    have hc : ¬ (τ a < 0 ∧ N % D ≠ 0) := fun c => c.2 c0
    refine fin M3 _ k3 ?_ ?_ hs3
    · rw [e54]; unfold zhd; rw [if_neg hc]
    · rw [e55]; unfold zrs; rw [if_neg hc]
  · rw [e54]
    omega
  · rw [ux_n (by decide), e55, ux_n (by omega), hs3 _ (by omega), hDD]
    omega
  · rw [e55] at z
    have c0 : N % D ≠ 0 := fun c => by rw [if_pos c] at z; exact absurd z (by decide)
    have hc : τ a < 0 ∧ N % D ≠ 0 := ⟨Int32.not_le.mp y, c0⟩
    refine fin M5 _ k5 ?_ ?_ (fun l hl => ?_)
    · rw [ux_n (by decide), ux_s, e54]; unfold zhd; rw [if_pos hc, Nat.mul_one]
    · rw [ux_s, ux_n (by omega), hs3 _ (by omega), hDD, ux_n (by decide), e55]; unfold zrs; rw [if_pos hc]
    · rw [ux_n (by omega), ux_n (by omega)]; exact hs3 l hl
theorem c1_hasMore {post : Int32 → zm_M → Prop} (h : zH G B M0 M σ τ π β) (hp0 : σ 58 = 0 → post 0 M) (hp1 : σ 58 ≠ 0 → post 1 M) : pX1_hasMore G (B + 137) post M := by
  unfold pX1_hasMore
  refine hk h rfl ⟨zH_o h 58 (by decide) rfl, h5_isZero h 58 (by decide) rfl ⟨fun y => ⟨zb_0, hp0 ?_⟩, fun y => ⟨zb_1, hp1 ?_⟩⟩⟩
  · by_cases c : σ 58 = 0
    · exact c
    · rw [if_neg c] at y; exact absurd rfl y
  · intro c
    rw [if_pos c] at y
    exact absurd y (by decide)
theorem c1_cut (h : zH G B M0 M σ τ π β) (hp : ∀ (M' : zm_M) (σ' π' : Nat → Nat), zH G B M0 M' σ' τ π' β → σ' 56 = σ 57 / σ 58 → σ' 57 = σ 58 → σ' 58 = σ 57 % σ 58 → (∀ l, l ≠ 56 → l ≠ 57 → l ≠ 58 → σ' l = σ l) → post M') : pX1_cut G (B + 137) post M := by
  unfold pX1_cut
  refine hk h rfl (hk h rfl (hk h rfl ⟨zH_o h 57 (by decide) rfl, h5_divide h 57 58 56 (by decide) (by decide) (by decide) (by decide) (by decide) (by decide) (by decide) rfl rfl rfl (fun M1 k1 => hk k1 rfl (hk k1 rfl ⟨_, zH_cc k1, (show 4 < 11 by decide), _, zm_set_s _ _ _, (show 5 < 11 by decide), ?_⟩))⟩))
  rw [zm_set2]
  have k2 := h_sw k1 (k := 0) (l := 1) (by decide) (by decide) (by decide)
  refine hp _ _ _ k2 rfl rfl rfl (fun l h1 h2 h3 => ?_)
  show (if l = 57 then _ else if l = 58 then _ else _) = σ l
  rw [if_neg h2, if_neg h3, ux_n h1, ux_n h2]
theorem c1_lengthL {post : Int32 → zm_M → Prop} {σ0 : Nat → Nat} {n : Nat} (hk' : ∀ (M' : zm_M) (σ' π' : Nat → Nat), zH G B M0 M' σ' τ π' β → (∀ l, l < 54 → σ' l = σ0 l) → post (nI n) M') : ∀ (m c : Nat) (M : zm_M) (σ π : Nat → Nat), c + m ≤ 4000 → zH G B M0 M σ τ π β → zE m (σ 57) (σ 58) → c + zsl m (σ 57) (σ 58) = n → (∀ l, l < 54 → σ l = σ0 l) → pX1_length_2 G post (m + 1) (B + 137) (nI c) M
  | 0, c, M, σ, π, hc, h, he, hn, hs => by
    rw [pX1_length_2]
    have hcn : c = n := hn
    rw [hcn]
    exact ⟨fun _ => hk' M σ π h hs, fun _ => ⟨zH_co h, c1_hasMore h (fun _ => ⟨fun _ => hk' M σ π h hs, fun y => absurd rfl y⟩) (fun y => absurd he y)⟩⟩
  | m + 1, c, M, σ, π, hc, h, he, hn, hs => by
    rw [pX1_length_2]
    refine ⟨fun y => absurd ((nI_leI (a := 4000) (by decide) (by omega)).mp y) (by omega), fun _ => ⟨zH_co h, c1_hasMore h (fun z => ⟨fun _ => ?_, fun y => absurd rfl y⟩) (fun z => ⟨fun y => absurd y (by decide), fun _ => ⟨zH_co h, c1_cut h (fun M1 σ1 π1 k1 e1 e2 e3 hs1 x5 e5 => ?_)⟩⟩)⟩⟩
    · have hcn : c = n := by
        unfold zsl at hn
        rw [if_pos z] at hn
        exact hn
      rw [hcn]
      exact hk' M σ π h hs
    · rw [e5, nI_1]
      refine c1_lengthL hk' m (c + 1) M1 σ1 π1 (by omega) k1 ?_ ?_ (fun l hl => (hs1 l (by omega) (by omega) (by omega)).trans (hs l hl))
      · rw [e2, e3]
        exact he.resolve_left z
      · unfold zsl at hn
        rw [if_neg z] at hn
        rw [e2, e3]
        omega
theorem c1_length {post : Int32 → zm_M → Prop} (h : zH G B M0 M σ τ π β) (hD : σ 58 < 2 ^ 512) (hp : ∀ (M' : zm_M) (σ' π' : Nat → Nat), zH G B M0 M' σ' τ π' β → (∀ l, l < 54 → σ' l = σ l) → post (nI (1 + zsl 1024 (σ 57) (σ 58))) M') : pX1_length G (B + 137) post M := by
  unfold pX1_length
  refine fun x1 e1 => ⟨1025, ?_⟩
  rw [e1]
  exact c1_lengthL (σ0 := σ) hp 1024 1 M σ π (by decide) h (zE_of 512 _ _ hD) rfl (fun _ _ => rfl)
theorem c1_goToL {post : Int32 → zm_M → Prop} {k37 : Int32 → Int32 → zm_M → Prop} {σ0 : Nat → Nat} {i : Nat} {o : Option Nat} (hi : i ≤ 4000) (hy : ∀ (M' : zm_M) (σ' π' : Nat → Nat), zH G B M0 M' σ' τ π' β → o = some (σ' 56) → (∀ l, l < 56 → σ' l = σ0 l) → k37 (nI i) (nI i) M') (hn : ∀ (M' : zm_M) (σ' π' : Nat → Nat) (k : Nat), zH G B M0 M' σ' τ π' β → o = none → k < i → (∀ l, l < 56 → σ' l = σ0 l) → k37 (nI i) (nI k) M') : ∀ (d k : Nat) (M : zm_M) (σ π : Nat → Nat), k + d = i → zH G B M0 M σ τ π β → zgo d (σ 57) (σ 58) (σ 56) = o → (∀ l, l < 56 → σ l = σ0 l) → pX1_goTo_15 G post k37 (d + 1) (B + 137) (nI i) (nI k) M
  | 0, k, M, σ, π, hk0, h, ho, hs => by
    rw [pX1_goTo_15]
    have e : k = i := by omega
    subst e
    exact ⟨fun _ => hy M σ π h ho.symm hs, fun y => absurd ((nI_leI (by omega) (by omega)).mpr (Nat.le_refl _)) y⟩
  | d + 1, k, M, σ, π, hk0, h, ho, hs => by
    rw [pX1_goTo_15]
    unfold zgo at ho
    refine ⟨fun y => absurd ((nI_leI (by omega) (by omega)).mp y) (by omega), fun _ => ⟨zH_co h, c1_hasMore h (fun z => ⟨fun _ => ?_, fun y => absurd rfl y⟩) (fun z => ⟨fun y => absurd y (by decide), fun _ => ⟨zH_co h, c1_cut h (fun M1 σ1 π1 k1 e1 e2 e3 hs1 x5 e5 => ?_)⟩⟩)⟩⟩
    · rw [if_pos z] at ho
      exact hn M σ π k h ho.symm (by omega) hs
    · rw [e5, nI_1]
      rw [if_neg z] at ho
      refine c1_goToL hi hy hn d (k + 1) M1 σ1 π1 (by omega) k1 ?_ (fun l hl => (hs1 l (by omega) (by omega) (by omega)).trans (hs l hl))
      rw [e1, e2, e3]
      exact ho
theorem zgo_none {m : Nat} : ∀ {d X Y L : Nat}, zE m X Y → m < d → zgo d X Y L = none := by
  induction m with
  | zero =>
    intro d X Y L he hd
    obtain ⟨d', rfl⟩ : ∃ d', d = d' + 1 := ⟨d - 1, by omega⟩
    unfold zgo
    rw [if_pos (show Y = 0 from he)]
  | succ m ih =>
    intro d X Y L he hd
    obtain ⟨d', rfl⟩ : ∃ d', d = d' + 1 := ⟨d - 1, by omega⟩
    unfold zgo
    by_cases c : Y = 0
    · rw [if_pos c]
    · rw [if_neg c]
      exact ih (he.resolve_left c) (by omega)
theorem c1_goTo {post : Int32 → zm_M → Prop} (h : zH G B M0 M σ τ π β) {x : Int32} (hD : σ 58 < 2 ^ 512) (hx0 : x.toInt < 0 → post 0 M) (hy : 0 ≤ x.toInt → ∀ (M' : zm_M) (σ' π' : Nat → Nat), zH G B M0 M' σ' τ π' β → zgo x.toInt.toNat (σ 57) (σ 58) (σ 56) = some (σ' 56) → (∀ l, l < 56 → σ' l = σ l) → post 1 M') (hn : 0 ≤ x.toInt → ∀ (M' : zm_M) (σ' π' : Nat → Nat), zH G B M0 M' σ' τ π' β → zgo x.toInt.toNat (σ 57) (σ 58) (σ 56) = none → (∀ l, l < 56 → σ' l = σ l) → post 0 M') : pX1_goTo G (B + 137) x post M := by
  unfold pX1_goTo
  have h0 : x < 0 ↔ x.toInt < 0 := i32_lt
  refine ⟨fun y => ⟨zb_0, hx0 (h0.mp y)⟩, fun y => ?_⟩
  have hx : 0 ≤ x.toInt := by
    rcases Int.lt_or_le x.toInt 0 with c | c
    · exact absurd (h0.mpr c) y
    · exact c
  have hy := hy hx
  have hn := hn hx
  obtain ⟨i, hi⟩ : ∃ i : Nat, x.toInt.toNat = i := ⟨_, rfl⟩
  have hlt := Int32.toInt_lt x
  have hxi : x = nI i := by
    apply Int32.toInt_inj.mp
    rw [nI_toInt (by omega)]
    omega
  rw [hi] at hy hn
  rw [hxi]
  have h4 : nI i ≤ (4000 : Int32) ↔ i ≤ 4000 := nI_leI (b := 4000) (by omega) (by decide)
  refine ⟨fun z x1 e1 => ⟨i + 1, ?_⟩, fun z => ⟨zb_0, hn M σ π h (zgo_none (zE_of 512 _ _ hD) ?_) (fun _ _ => rfl)⟩⟩
  · have hi4 := h4.mp z
    rw [e1]
    refine c1_goToL (σ0 := σ) (i := i) hi4 (fun M' σ' π' k1 e s => ?_) (fun M' σ' π' k k1 e hki s => ?_) i 0 M σ π (by omega) h rfl (fun _ _ => rfl)
    · exact ⟨fun q => absurd rfl q, fun _ => ⟨zb_1, hy M' σ' π' k1 e s⟩⟩
    · exact ⟨fun _ => ⟨zb_0, hn M' σ' π' k1 e s⟩, fun q => absurd ((nI_eq (by omega) (by omega)).mp q) (by omega)⟩
  · have : ¬ i ≤ 4000 := fun c => z (h4.mpr c)
    omega
theorem c1_join (h : zH G B M0 M σ τ π β) (h1 : σ 61 + σ 56 * σ 59 < 4294967296 ^ 36) (h2 : σ 62 + σ 56 * σ 60 < 4294967296 ^ 36) (hp : ∀ (M' : zm_M) (σ' π' : Nat → Nat), zH G B M0 M' σ' τ π' β → σ' 59 = σ 61 + σ 56 * σ 59 → σ' 61 = σ 59 → σ' 60 = σ 62 + σ 56 * σ 60 → σ' 62 = σ 60 → (∀ l, l < 59 ∨ 63 ≤ l → σ' l = σ l) → post M') : pX1_join G (B + 137) post M := by
  unfold pX1_join
  refine hk h rfl (hk h rfl (hk h rfl ⟨zH_o h 61 (by decide) rfl, h5_addProduct h 61 56 59 (by decide) (by decide) (by decide) (by decide) (by decide) (by decide) rfl rfl rfl h1 (fun M1 k1 => hk k1 rfl (hk k1 rfl ⟨_, zH_cc k1, (show 8 < 11 by decide), _, zm_set_s _ _ _, (show 6 < 11 by decide), ?_⟩))⟩))
  rw [zm_set2]
  have k2 := h_sw k1 (k := 4) (l := 2) (by decide) (by decide) (by decide)
  obtain ⟨σ2, hσ2⟩ : ∃ σ2, σ2 = zsx (ux σ 61 (σ 61 + σ 56 * σ 59)) (57 + 4) (57 + 2) := ⟨_, rfl⟩
  have f59 : σ2 59 = σ 61 + σ 56 * σ 59 := by rw [hσ2]; rfl
  have f61 : σ2 61 = σ 59 := by rw [hσ2]; rfl
  have fo : ∀ l, l ≠ 59 → l ≠ 61 → σ2 l = σ l := fun l q1 q2 => by
    rw [hσ2]
    show (if l = 61 then _ else if l = 59 then _ else _) = σ l
    rw [if_neg q2, if_neg q1, ux_n q2]
  rw [← hσ2] at k2
  have k2' : zH G B M0 (zm_set M1 (B + 137) (zswo B τ (zsw π 4 2))) σ2 τ (zsw π 4 2) β := k2
  refine hk k2' rfl (hk k2' rfl (hk k2' rfl ⟨zH_o k2' 62 (by decide) rfl, h5_addProduct k2' 62 56 60 (by decide) (by decide) (by decide) (by decide) (by decide) (by decide) rfl rfl rfl (by rw [fo 62 (by decide) (by decide), fo 56 (by decide) (by decide), fo 60 (by decide) (by decide)]; exact h2) (fun M3 k3 => hk k3 rfl (hk k3 rfl ⟨_, zH_cc k3, (show 9 < 11 by decide), _, zm_set_s _ _ _, (show 7 < 11 by decide), ?_⟩))⟩))
  rw [zm_set2]
  have k4 := h_sw k3 (k := 5) (l := 3) (by decide) (by decide) (by decide)
  rw [fo 62 (by decide) (by decide), fo 56 (by decide) (by decide), fo 60 (by decide) (by decide)] at k4
  refine hp _ _ _ k4 ?_ ?_ rfl ?_ (fun l hl => ?_)
  · show σ2 59 = _
    exact f59
  · show σ2 61 = _
    exact f61
  · show σ2 60 = _
    exact fo 60 (by decide) (by decide)
  · show (if l = 62 then _ else if l = 60 then _ else _) = σ l
    rw [if_neg (by omega), if_neg (by omega), ux_n (by omega)]
    exact fo l (by omega) (by omega)
end CH2
