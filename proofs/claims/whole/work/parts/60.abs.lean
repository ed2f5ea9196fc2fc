/-! ===== WHAT AN OBJECT HOLDS: places taken, signs, sizes, bottoms, tape, OUT ===== -/
abbrev zS : Type := (Nat → Bool) × (Nat → Int32) × (Nat → Nat) × (Nat → Nat) × (Nat × (Nat → Nat)) × List Nat
abbrev sT (S : zS) : Nat → Bool := S.1
abbrev sS (S : zS) : Nat → Int32 := S.2.1
abbrev sN (S : zS) : Nat → Nat := S.2.2.1
abbrev sD (S : zS) : Nat → Nat := S.2.2.2.1
abbrev sL (S : zS) : Nat := S.2.2.2.2.1.1
abbrev st (S : zS) : Nat → Nat := S.2.2.2.2.1.2
abbrev sO (S : zS) : List Nat := S.2.2.2.2.2
/-- how many are taken, and the first that is not -/
def zcn (f : Nat → Bool) : Nat → Nat
  | 0 => 0
  | n + 1 => zcn f n + (if f n = true then 1 else 0)
def zfre (f : Nat → Bool) : Nat → Nat → Nat
  | 0, a => a
  | d + 1, a => if f a = true then zfre f d (a + 1) else a
theorem zfre_s (f : Nat → Bool) : ∀ (d a : Nat), a ≤ zfre f d a ∧ zfre f d a ≤ a + d ∧ (∀ j, a ≤ j → j < zfre f d a → f j = true) ∧ (zfre f d a < a + d → f (zfre f d a) = false)
  | 0, a => ⟨Nat.le_refl _, Nat.le_refl _, fun j h1 h2 => absurd h2 (by show ¬ j < a; omega), fun h => absurd h (by show ¬ a < a + 0; omega)⟩
  | d + 1, a => by
    unfold zfre
    by_cases c : f a = true
    · rw [if_pos c]
      obtain ⟨h1, h2, h3, h4⟩ := zfre_s f d (a + 1)
      refine ⟨by omega, by omega, fun j j1 j2 => ?_, fun h => h4 (by omega)⟩
      by_cases e : j = a
      · rw [e]; exact c
      · exact h3 j (by omega) j2
    · rw [if_neg c]
      exact ⟨Nat.le_refl _, by omega, fun j h1 h2 => absurd h2 (by omega), fun _ => by cases h : f a with
        | true => exact absurd h c
        | false => rfl⟩
abbrev zF (S : zS) : Nat := zfre (sT S) 24 0
theorem zcn_le (f : Nat → Bool) : ∀ n, zcn f n ≤ n
  | 0 => Nat.le_refl _
  | n + 1 => by
    have := zcn_le f n
    show zcn f n + (if f n = true then 1 else 0) ≤ n + 1
    split <;> omega
theorem zcn_all (f : Nat → Bool) : ∀ n, zcn f n = n ↔ ∀ j, j < n → f j = true
  | 0 => ⟨fun _ j h => absurd h (by omega), fun _ => rfl⟩
  | n + 1 => by
    have h1 := zcn_le f n
    have h2 := zcn_all f n
    show zcn f n + (if f n = true then 1 else 0) = n + 1 ↔ _
    by_cases c : f n = true
    · rw [if_pos c]
      constructor
      · intro h j hj
        by_cases e : j = n
        · rw [e]; exact c
        · exact h2.mp (by omega) j (by omega)
      · intro h
        have := h2.mpr (fun j hj => h j (by omega))
        omega
    · rw [if_neg c]
      constructor
      · intro h; omega
      · intro h; exact absurd (h n (by omega)) c
theorem zcn_set (f : Nat → Bool) (a : Nat) (b : Bool) : ∀ n, zcn (fun j => if j = a then b else f j) n + (if a < n ∧ f a = true then 1 else 0) = zcn f n + (if a < n ∧ b = true then 1 else 0)
  | 0 => by
    show 0 + _ = 0 + _
    rw [if_neg (by omega), if_neg (by omega)]
  | n + 1 => by
    have ih := zcn_set f a b n
    show zcn (fun j => if j = a then b else f j) n + (if (if n = a then b else f n) = true then 1 else 0) + _ = zcn f n + (if f n = true then 1 else 0) + _
    by_cases e : n = a
    · subst e
      rw [if_pos rfl]
      rw [if_neg (by omega), if_neg (by omega)] at ih
      have e1 : (n < n + 1 ∧ f n = true) ↔ f n = true := ⟨fun h => h.2, fun h => ⟨by omega, h⟩⟩
      have e2 : (n < n + 1 ∧ b = true) ↔ b = true := ⟨fun h => h.2, fun h => ⟨by omega, h⟩⟩
      simp only [e1, e2]
      omega
    · rw [if_neg e]
      have e1 : (a < n + 1 ∧ f a = true) ↔ (a < n ∧ f a = true) := ⟨fun h => ⟨by omega, h.2⟩, fun h => ⟨by omega, h.2⟩⟩
      have e2 : (a < n + 1 ∧ b = true) ↔ (a < n ∧ b = true) := ⟨fun h => ⟨by omega, h.2⟩, fun h => ⟨by omega, h.2⟩⟩
      simp only [e1, e2]
      omega
theorem zF_full (S : zS) : zcn (sT S) 24 < 24 ↔ zF S < 24 := by
  obtain ⟨h1, h2, h3, h4⟩ := zfre_s (sT S) 24 0
  have h5 := zcn_all (sT S) 24
  have h6 := zcn_le (sT S) 24
  constructor
  · intro h
    rcases Nat.lt_or_ge (zF S) 24 with c | c
    · exact c
    · have := h5.mpr (fun j hj => h3 j (Nat.zero_le _) (by show j < zF S; omega))
      omega
  · intro h
    rcases Nat.lt_or_ge (zcn (sT S) 24) 24 with c | c
    · exact c
    · have h7 := h5.mp (by omega) (zF S) h
      have h8 := h4 (by omega)
      rw [h7] at h8
      cases h8
/-- a number in least terms -/
def zgd (s : Int32) (N D : Nat) : Prop := D ≠ 0 ∧ Nat.gcd N D = 1 ∧ (s = 0 ∧ N = 0 ∨ (s = 1 ∨ s = -1) ∧ N ≠ 0) ∧ N < 4294967296 ^ 16 ∧ D < 4294967296 ^ 16
def zI (S : zS) : Prop := (∀ a, a < 24 → sT S a = true → zgd (sS S a) (sN S a) (sD S a))
def zput (S : zS) (a : Nat) (s : Int32) (N D : Nat) : zS := (fun j => if j = a then true else sT S j, upd (sS S) a s, ux (sN S) a N, ux (sD S) a D, S.2.2.2.2)
/-- what keep answers, and what is held then -/
def zkp (S : zS) (s : Int32) (T D : Nat) : Int32 × zS := if 512 < zbl (T / Nat.gcd T D) ∨ 512 < zbl (D / Nat.gcd T D) then (-4, S) else if zF S < 24 then (nI (zF S), zput S (zF S) (if T = 0 then 0 else s) (T / Nat.gcd T D) (D / Nat.gcd T D)) else (-3, S)
theorem zkp_I {S : zS} (h : zI S) {s : Int32} {T D : Nat} (hD : D ≠ 0) (hs : T ≠ 0 → s = 1 ∨ s = -1) : zI (zkp S s T D).2 := by
  unfold zkp
  by_cases c : 512 < zbl (T / Nat.gcd T D) ∨ 512 < zbl (D / Nat.gcd T D)
  · rw [if_pos c]; exact h
  · rw [if_neg c]
    by_cases c2 : zF S < 24
    · rw [if_pos c2]
      intro a ha ht
      by_cases e : a = zF S
      · subst e
        show zgd (upd (sS S) (zF S) _ (zF S)) (ux (sN S) (zF S) _ (zF S)) (ux (sD S) (zF S) _ (zF S))
        rw [pk_us, ux_s, ux_s]
        have hg : 0 < Nat.gcd T D := Nat.gcd_pos_of_pos_right _ (by omega)
        have hd2 : Nat.gcd T D ∣ D := Nat.gcd_dvd_right _ _
        have hd1 : Nat.gcd T D ∣ T := Nat.gcd_dvd_left _ _
        refine ⟨?_, ?_, ?_, zbl_n.mp (by omega), zbl_n.mp (by omega)⟩
        · have := Nat.div_pos (Nat.le_of_dvd (by omega) hd2) hg
          omega
        · rw [Nat.gcd_div hd1 hd2, Nat.div_self hg]
        · by_cases e : T = 0
          · rw [if_pos e]
            exact Or.inl ⟨rfl, by rw [e, Nat.zero_div]⟩
          · rw [if_neg e]
            refine Or.inr ⟨hs e, ?_⟩
            have := Nat.div_pos (Nat.le_of_dvd (by omega) hd1) hg
            omega
      · have ht' : sT S a = true := by
          have : (if a = zF S then true else sT S a) = true := ht
          rw [if_neg e] at this
          exact this
        show zgd (upd (sS S) (zF S) _ a) (ux (sN S) (zF S) _ a) (ux (sD S) (zF S) _ a)
        rw [pk_un e, ux_n e, ux_n e]
        exact h a ha ht'
    · rw [if_neg c2]; exact h
def zfd (S : zS) (x : Int32) : Option Nat := if 0 ≤ x.toInt ∧ x.toInt < 24 ∧ sT S x.toInt.toNat = true then some x.toInt.toNat else none
theorem zfd_s {S : zS} {x : Int32} {a : Nat} (h : zfd S x = some a) : a < 24 ∧ sT S a = true ∧ x = nI a := by
  unfold zfd at h
  by_cases c : 0 ≤ x.toInt ∧ x.toInt < 24 ∧ sT S x.toInt.toNat = true
  · rw [if_pos c] at h
    have e := Option.some.inj h
    subst e
    refine ⟨by omega, c.2.2, ?_⟩
    apply Int32.toInt_inj.mp
    rw [nI_toInt (by omega)]
    omega
  · rw [if_neg c] at h
    cases h
/-- the class's cells hold it -/
def zRr (σ : Nat → Nat) (τ : Nat → Int32) (β : Nat → Nat → Int32) (S : zS) : Prop := (∀ a, a < 24 → β 0 a = if sT S a = true then 1 else 0) ∧ (∀ a, a < 24 → sT S a = true → τ a = sS S a ∧ σ (2 * a) = sN S a ∧ σ (2 * a + 1) = sD S a) ∧ τ 26 = nI (zcn (sT S) 24) ∧ zT τ β (sL S) (st S) ∧ zO τ β (sO S) ∧ zI S
def zRC (G : Nat → ClassId) (B : Nat) (M0 M : zm_M) (S : zS) : Prop := ∃ σ τ π β, zC G B M0 M σ τ π β ∧ zRr σ τ β S
theorem zRr_k {σ σ' : Nat → Nat} {τ τ' : Nat → Int32} {β : Nat → Nat → Int32} {S : zS} (h : zRr σ τ β S) (hs : ∀ l, l < 48 → σ' l = σ l) (ht : ∀ q, q < 24 ∨ q = 26 ∨ q = 27 ∨ q = 31 → τ' q = τ q) : zRr σ' τ' β S := by
  obtain ⟨h1, h2, h3, h4, h5, h6⟩ := h
  refine ⟨h1, fun a ha hx => ?_, (ht 26 (by omega)).trans h3, zT_τ h4 (ht 27 (by omega)), ⟨(ht 31 (by omega)).trans h5.1, h5.2⟩, h6⟩
  rw [ht a (by omega), hs _ (by omega), hs _ (by omega)]
  exact h2 a ha hx
section C6
variable {G : Nat → ClassId} {B : Nat} {M0 M : zm_M} {σ : Nat → Nat} {τ : Nat → Int32} {π : Nat → Nat} {β : Nat → Nat → Int32} {S : zS}
theorem xB (h : zC G B M0 M σ τ π β) {K : Nat → Prop} (hk : K (B + 123)) : zw_ga M B 9 3 K := ⟨_, _, zC_x h, rfl, hk⟩
theorem xC (h : zC G B M0 M σ τ π β) {K : Nat → Prop} (hk : K (B + 137)) : zw_ga M B 9 4 K := ⟨_, _, zC_x h, rfl, hk⟩
theorem xT (h : zC G B M0 M σ τ π β) {K : Nat → Prop} (hk : K (B + 158)) : zw_ga M B 9 5 K := ⟨_, _, zC_x h, rfl, hk⟩
theorem xS (h : zC G B M0 M σ τ π β) {K : Nat → Prop} (hk : K (B + 160)) : zw_ga M B 9 6 K := ⟨_, _, zC_x h, rfl, hk⟩
theorem c6_isFull {post : Int32 → zm_M → Prop} (h : zC G B M0 M σ τ π β) (r : zRr σ τ β S) (h0 : zF S < 24 → post 0 M) (h1 : ¬ zF S < 24 → post 1 M) : pX6_isFull G B post M := by
  have hc := zcn_le (sT S) 24
  have e : (τ 26 < (24 : Int32)) ↔ zF S < 24 := by
    rw [r.2.2.1, ← zF_full]
    exact nI_ltI (b := 24) (by omega) (by decide)
  unfold pX6_isFull
  exact ⟨_, _, zC_x h, rfl, fun y => ⟨zb_0, h0 (e.mp y)⟩, fun y => ⟨zb_1, h1 (fun c => y (e.mpr c))⟩⟩
theorem c6_find {post : Option Nat → zm_M → Prop} (h : zC G B M0 M σ τ π β) (r : zRr σ τ β S) {x : Int32} (h0 : zfd S x = none → post none M) (h1 : ∀ a, zfd S x = some a → post (some (B + zo_r a)) M) : pX6_find G B x post M := by
  unfold pX6_find
  have q0 : x < 0 ↔ x.toInt < 0 := i32_lt
  have q24 : (24 : Int32) ≤ x ↔ 24 ≤ x.toInt := Int32.le_iff_toInt_le
  unfold zfd at h0 h1
  refine ⟨fun y => h0 (if_neg (fun c => ?_)), fun y => ⟨fun z => h0 (if_neg (fun c => ?_)), fun z => ⟨_, _, zC_x h, rfl, _, _, zC_tk h, ?_, fun e => h0 (if_neg (fun c => ?_)), fun e => ?_⟩⟩⟩
  · have := q0.mp y
    omega
  · have := q24.mp z
    omega
  all_goals
    have hx0 : 0 ≤ x.toInt := by
      rcases Int.lt_or_le x.toInt 0 with c | c
      · exact absurd (q0.mpr c) y
      · exact c
    have hx1 : x.toInt < 24 := by
      rcases Int.lt_or_le x.toInt 24 with c | c
      · exact c
      · exact absurd (q24.mpr c) z
  · exact vp_in_iff.mpr ⟨by omega, by omega⟩
  · rw [i32_cl hx0, r.1 _ (by omega), if_pos c.2.2] at e
    exact absurd e (by decide)
  · rw [i32_cl hx0, r.1 _ (by omega)] at e
    have ht : sT S x.toInt.toNat = true := by
      by_cases c : sT S x.toInt.toNat = true
      · exact c
      · rw [if_neg c] at e
        exact absurd rfl e
    obtain ⟨fn, hn1, hn2⟩ := zC_nu h
    refine ⟨_, _, zC_x h, rfl, _, _, _, hn1, vp_in_iff.mpr ⟨by omega, by omega⟩, ?_, h1 _ (if_pos ⟨hx0, hx1, ht⟩)⟩
    rw [i32_cl hx0]
    exact hn2 _ (by omega)
theorem c6_keepL {post : Int32 → zm_M → Prop} {k40 : Nat → Int32 → zm_M → Prop} (h : zC G B M0 M σ τ π β) (r : zRr σ τ β S) (hk : zF S < 24 → k40 B (nI (zF S)) M) : ∀ (d a : Nat), a + d = 24 → zfre (sT S) d a = zF S → zF S < 24 → pX6_keep_25 G post k40 (d + 1) B (nI a) M
  | 0, a, ha, he, hf => by
    have : a = zF S := he
    omega
  | d + 1, a, ha, he, hf => by
    rw [pX6_keep_25]
    unfold zfre at he
    refine ⟨fun y => absurd ((nI_leI (a := 24) (by decide) (by omega)).mp y) (by omega), fun _ => ⟨_, _, zC_x h, rfl, _, _, zC_tk h, vp_in_nI (by omega) (by omega), fun y x10 e10 => ?_, fun y => ?_⟩⟩
    · rw [nI_clamp (by omega), r.1 a (by omega)] at y
      have c : sT S a = true := by
        by_cases c : sT S a = true
        · exact c
        · rw [if_neg c] at y; exact absurd rfl y
      rw [if_pos c] at he
      rw [e10, nI_1]
      exact c6_keepL h r hk d (a + 1) (by omega) he hf
    · rw [nI_clamp (by omega), r.1 a (by omega)] at y
      have c : ¬ sT S a = true := fun c => by rw [if_pos c] at y; exact absurd y (by decide)
      rw [if_neg c] at he
      rw [he]
      exact hk hf
theorem c6_keep {post : Int32 → zm_M → Prop} (h : zC G B M0 M σ τ π β) (r : zRr σ τ β S) (hf : zF S < 24) (hD : σ 49 ≠ 0) (hs : σ 48 ≠ 0 → τ 24 = 1 ∨ τ 24 = -1) (hp : ∀ M', zRC G B M0 M' (zkp S (τ 24) (σ 48) (σ 49)).2 → post (zkp S (τ 24) (σ 48) (σ 49)).1 M') : pX6_keep G B post M := by
  have hI := zkp_I r.2.2.2.2.2 hD hs
  unfold pX6_keep
  refine xB h ⟨zC_bo h, c0_reduce h hD (fun M1 σ1 k1 e48 e49 hs1 => xB k1 (bR k1 ⟨zC_ro k1 24 (by decide), c2_isWide k1 24 (by decide) ?_⟩))⟩
  have r1 : zRr σ1 (upd τ 24 (if σ 48 = 0 then 0 else τ 24)) β S := zRr_k r (fun l hl => hs1 l (Or.inl hl)) (fun q hq => pk_un (by omega))
  have e48' : σ1 (2 * 24) = σ 48 / Nat.gcd (σ 48) (σ 49) := e48
  have e49' : σ1 (2 * 24 + 1) = σ 49 / Nat.gcd (σ 48) (σ 49) := e49
  rw [e48', e49']
  unfold zkp at hp hI
  by_cases c : 512 < zbl (σ 48 / Nat.gcd (σ 48) (σ 49)) ∨ 512 < zbl (σ 49 / Nat.gcd (σ 48) (σ 49))
  · rw [if_pos c] at hp ⊢
    exact ⟨fun y => absurd y (by decide), fun _ => hp M1 ⟨_, _, _, _, k1, r1⟩⟩
  · rw [if_neg c] at hp hI ⊢
    rw [if_pos hf] at hp hI
    refine ⟨fun _ x7 e7 => ⟨25, ?_⟩, fun y => absurd rfl y⟩
    rw [e7]
    refine c6_keepL k1 r1 (fun _ => ?_) 24 0 rfl rfl hf
    obtain ⟨fn, hn1, hn2⟩ := zC_nu k1
    obtain ⟨F, hF⟩ : ∃ F, F = zF S := ⟨_, rfl⟩
    rw [← hF] at hp hI hf ⊢
    refine ⟨_, _, zC_x k1, rfl, _, _, _, hn1, vp_in_nI hf (by omega), by rw [nI_clamp (by omega)]; exact hn2 F hf, xB k1 (bR k1 ⟨zC_ro k1 F (by omega), c2_copy k1 F 24 (by omega) (by decide) ?_ ?_ (fun M2 k2 => ⟨_, _, zC_x k2, rfl, _, _, zC_tk k2, vp_in_nI hf (by omega), ?_⟩)⟩)⟩
    · rw [e48', show zo_c (2 * F) = 16 from if_pos (by omega)]
      exact zbl_n.mp (by omega)
    · rw [e49', show zo_c (2 * F + 1) = 16 from if_pos (by omega)]
      exact zbl_n.mp (by omega)
    · rw [nI_clamp (by omega), show vp_nar .boolean (1 : Int32) = 1 from rfl]
      have k3 := zC_ptk k2 (upd (β 0) F 1)
      refine ⟨_, _, zC_x k3, rfl, _, zC_x k3, (show 2 < 7 by decide), ?_⟩
      rw [e48', e49', pk_us] at k3
      rw [pk_us] at *
      have k4 := zC_pheld k3 (upd (upd τ 24 (if σ 48 = 0 then 0 else τ 24)) F (if σ 48 = 0 then 0 else τ 24) 26 + 1)
      refine hp _ ⟨_, _, _, _, k4, ?_⟩
      obtain ⟨q1, q2, q3, q4, q5, q6⟩ := r
      have hfF : sT S F = false := by
        have := (zfre_s (sT S) 24 0).2.2.2
        rw [hF]
        exact this (by show zF S < 0 + 24; omega)
      refine ⟨fun a ha => ?_, fun a ha hx => ?_, ?_, ?_, ?_, hI⟩
      · rw [ub_s]
        show upd (β 0) F 1 a = if (if a = F then true else sT S a) = true then 1 else 0
        by_cases e : a = F
        · rw [e, pk_us, if_pos rfl, if_pos rfl]
        · rw [pk_un e, if_neg e]
          exact q1 a ha
      · show upd (upd (upd τ 24 (if σ 48 = 0 then 0 else τ 24)) F (if σ 48 = 0 then 0 else τ 24)) 26 _ a = upd (sS S) F _ a ∧ _ = ux (sN S) F _ a ∧ _ = ux (sD S) F _ a
        by_cases e : a = F
        · subst e
          rw [pk_un (by omega), pk_us, pk_us, ux_s, ux_s, ux_n (by omega), ux_s, ux_s]
          exact ⟨rfl, rfl, rfl⟩
        · have hx' : sT S a = true := by
            have : (if a = F then true else sT S a) = true := hx
            rw [if_neg e] at this
            exact this
          obtain ⟨z1, z2, z3⟩ := q2 a ha hx'
          rw [pk_un (by omega), pk_un e, pk_un (by omega), pk_un e, ux_n e, ux_n e, ux_n (by omega), ux_n (by omega), ux_n (by omega), ux_n (by omega), hs1 _ (by omega), hs1 _ (by omega)]
          exact ⟨z1, z2, z3⟩
      · rw [pk_us, pk_un (by omega), pk_un (by omega), q3, nI_1]
        have := zcn_set (sT S) F true 24
        rw [if_neg (by rw [hfF]; simp), if_pos ⟨hf, rfl⟩] at this
        show nI _ = nI (zcn (fun j => if j = F then true else sT S j) 24)
        congr 1
        omega
      · refine ⟨?_, q4.2.1, fun j hj => ?_⟩
        · rw [pk_un (by omega), pk_un (by omega), pk_un (by omega)]
          exact q4.1
        · rw [ub_n (by decide)]
          exact q4.2.2 j hj
      · refine ⟨?_, q5.2.1, fun j b hj => ?_⟩
        · rw [pk_un (by omega), pk_un (by omega), pk_un (by omega)]
          exact q5.1
        · rw [ub_n (by decide)]
          exact q5.2.2 j b hj
end C6
