/-! ===== TAPE: tell ===== -/
def ztN (L : Nat) (t : Nat → Nat) : Nat := if zfk L t = 46 then zdv t (zfl L t - (zfe L t + 1)) (zfe L t + 1) (zdv t (zfe L t - zfs L t) (zfs L t) 0) else zdv t (zfe L t - zfs L t) (zfs L t) 0
def ztD (L : Nat) (t : Nat → Nat) : Nat := if zfk L t = 47 then zdv t (zfl L t - (zfe L t + 1)) (zfe L t + 1) 0 else if zfk L t = 46 then 10 ^ (zfl L t - (zfe L t + 1)) else 1
section C43
variable {G : Nat → ClassId} {B : Nat} {M0 M : zm_M} {σ : Nat → Nat} {τ : Nat → Int32} {π : Nat → Nat} {β : Nat → Nat → Int32} {L : Nat} {t : Nat → Nat}
theorem c4_tenL {post : zm_M → Prop} {σ0 : Nat → Nat} {to v : Nat} (hto : to ≤ 400) (h30 : τ 30 = nI to) (hv : v < 10 ^ 170) (hp : ∀ (M' : zm_M) (σ' : Nat → Nat), zC G B M0 M' σ' τ π β → σ' 49 = v → (∀ l, l ≠ 49 → σ' l = σ0 l) → post M') : ∀ (n fr : Nat) (M : zm_M) (σ : Nat → Nat), fr + n = to → zC G B M0 M σ τ π β → σ 49 * 10 ^ n = v → (∀ l, l ≠ 49 → σ l = σ0 l) → pX4_tell_108 G post (n + 1) (B + 158) (B + zo_r 24) (nI fr) M
  | 0, fr, M, σ, hn, h, he, hs => by
    rw [pX4_tell_108]
    refine tI h (q := 30) (by omega) ?_
    rw [h30]
    exact ⟨fun _ => hp M σ h (by rw [Nat.pow_zero, Nat.mul_one] at he; exact he) hs, fun y => absurd ((nI_leI (by omega) (by omega)).mpr (by omega)) y⟩
  | n + 1, fr, M, σ, hn, h, he, hs => by
    rw [pX4_tell_108]
    refine tI h (q := 30) (by omega) ?_
    rw [h30]
    have hpow : 10 ^ 170 < 4294967296 ^ 36 := by decide
    have hle : σ 49 * 10 ≤ v := by
      rw [← he, Nat.pow_succ, Nat.mul_comm (10 ^ n), ← Nat.mul_assoc]
      exact Nat.le_mul_of_pos_right _ (Nat.pow_pos (by decide))
    refine ⟨fun y => absurd ((nI_leI (by omega) (by omega)).mp y) (by omega), fun _ => gB h 24 (by decide) ⟨zC_o h 49 (by decide), c5_timesPlus h 49 (by decide) (q := 10) (m0 := 0) (by decide) (by decide) (by show σ 49 * 10 + 0 < 4294967296 ^ 36; omega) (fun M1 k1 x e => ?_)⟩⟩
    rw [e, nI_1]
    refine c4_tenL hto h30 hv hp n (fr + 1) M1 _ (by omega) k1 ?_ (fun l hl => ?_)
    · rw [ux_s, Nat.add_zero, Nat.mul_assoc, Nat.mul_comm 10, ← Nat.pow_succ]
      exact he
    · rw [ux_n hl]
      exact hs l hl
theorem zff_none (h : zff L t = none) : zfe L t ≠ zfs L t ∧ ((zfk L t = 47 ∨ zfk L t = 46) → zfl L t ≠ zfe L t + 1) ∧ L ≤ zfl L t := by
  unfold zff at h
  by_cases c : zfe L t = zfs L t
  · rw [if_pos c] at h; cases h
  · rw [if_neg c] at h
    by_cases c2 : (zfk L t = 47 ∨ zfk L t = 46) ∧ zfl L t = zfe L t + 1
    · rw [if_pos c2] at h; cases h
    · rw [if_neg c2] at h
      by_cases c3 : zfl L t < L
      · rw [if_pos c3] at h; cases h
      · exact ⟨c, fun z z2 => c2 ⟨z, z2⟩, by omega⟩
theorem zT_end (hL : L ≤ 400) : zfs L t ≤ 1 ∧ zfs L t ≤ zfe L t ∧ zfe L t ≤ zfs L t + 160 ∧ zfe L t ≤ L ∧ (∀ j, zfs L t ≤ j → j < zfe L t → zfg L t j) := by
  have hs1 : zfs L t ≤ 1 := by unfold zfs; split <;> omega
  have hs2 : zfs L t ≤ L := by
    unfold zfs
    by_cases c : 0 < L ∧ t 0 = 45
    · rw [if_pos c]; omega
    · rw [if_neg c]; omega
  obtain ⟨e1, e2, e3, e4⟩ := zef_le L t 160 (zfs L t)
  exact ⟨hs1, e1, e2, e3 hs2, e4⟩
theorem zT_last (hL : L ≤ 400) (hne : zfe L t ≠ zfs L t) (hk : zfk L t = 47 ∨ zfk L t = 46) : zfe L t + 1 ≤ zfl L t ∧ zfl L t ≤ L ∧ zfl L t ≤ zfe L t + 1 + (if zfk L t = 47 then 160 else 160 - (zfe L t - zfs L t)) ∧ (∀ j, zfe L t + 1 ≤ j → j < zfl L t → zfg L t j) := by
  have hlt : zfe L t < L := by
    unfold zfk at hk
    by_cases c : zfe L t < L
    · exact c
    · rw [if_neg c] at hk; omega
  unfold zfl
  rw [if_neg hne]
  by_cases c : zfk L t = 47
  · rw [if_pos c, if_pos c]
    obtain ⟨e1, e2, e3, e4⟩ := zef_le L t 160 (zfe L t + 1)
    exact ⟨e1, e3 (by omega), e2, e4⟩
  · rw [if_neg c, if_pos (hk.resolve_left c), if_neg c]
    obtain ⟨e1, e2, e3, e4⟩ := zef_le L t (160 - (zfe L t - zfs L t)) (zfe L t + 1)
    exact ⟨e1, e3 (by omega), e2, e4⟩
theorem zdv_0 {n i : Nat} (h : ∀ j, i ≤ j → j < i + n → zfg L t j) (hn : n ≤ 170) : zdv t n i 0 < 10 ^ 170 := by
  have h1 := zdv_lt t n i 0 (fun j j1 j2 => (h j j1 j2).2.2)
  have h2 : 10 ^ n ≤ 10 ^ 170 := Nat.pow_le_pow_right (by decide) hn
  omega
theorem c4_tell {post : zm_M → Prop} (h : zC G B M0 M σ τ π β) (hT : zT τ β L t) (h28 : τ 28 = nI (zfs L t)) (h29 : τ 29 = nI (zfe L t)) (h30 : τ 30 = nI (zfl L t)) (hff : zff L t = none) (hp : ∀ (M' : zm_M) (σ' : Nat → Nat), zC G B M0 M' σ' (upd τ 24 (if zfs L t = 1 then -1 else 1)) π β → σ' 48 = ztN L t → σ' 49 = ztD L t → (∀ l, l ≠ 48 → l ≠ 49 → σ' l = σ l) → post M') : pX4_tell G (B + 158) (B + zo_r 24) post M := by
  have hL := hT.2.1
  obtain ⟨hne, hnm, hlL⟩ := zff_none hff
  obtain ⟨s1, s2, s3, s4, s5⟩ := zT_end (t := t) hL
  have main : ∀ s : Int32, s = (if zfs L t = 1 then -1 else 1) → pX4_tell_14 G post (B + 158) (B + zo_r 24) (B + zo_r 24) s M := by
    intro s hs
    unfold pX4_tell_14
    refine ⟨zC_ro h 24 (by decide), c2_become h 24 (by decide) uN_0 (fun M1 k1 => gT k1 24 (by decide) (tI k1 (q := 28) (by omega) (tI k1 (q := 29) (by omega) ⟨zC_to k1, ?_⟩)))⟩
    rw [hs] at k1
    rw [pk_un (by decide), pk_un (by decide), h28, h29]
    obtain ⟨σ1, hσ1⟩ : ∃ σ1, σ1 = ux (ux σ (2 * 24) 0) (2 * 24 + 1) 1 := ⟨_, rfl⟩
    have f48 : σ1 48 = 0 := by rw [hσ1]; rfl
    have f49 : σ1 49 = 1 := by rw [hσ1]; rfl
    have fo : ∀ l, l ≠ 48 → l ≠ 49 → σ1 l = σ l := fun l h1 h2 => by
      rw [hσ1]
      show ux (ux σ 48 0) 49 1 l = σ l
      rw [ux_n h2, ux_n h1]
    rw [← hσ1] at k1
    have hT1 : zT (upd τ 24 (if zfs L t = 1 then -1 else 1)) β L t := zT_τ hT (pk_un (by decide))
    have h29' : upd τ 24 (if zfs L t = 1 then -1 else 1) 29 = nI (zfe L t) := (pk_un (by decide)).trans h29
    have h30' : upd τ 24 (if zfs L t = 1 then -1 else 1) 30 = nI (zfl L t) := (pk_un (by decide)).trans h30
    have hvN : zdv t (zfe L t - zfs L t) (zfs L t) 0 < 10 ^ 170 := zdv_0 (fun j j1 j2 => s5 j j1 (by omega)) (by omega)
    refine c4_fig k1 hT1 (i := 48) (by decide) s2 (by omega) s5 (by rw [f48]; exact hvN) (fun M2 σ2 k2 e2 hs2 => tI k2 (q := 29) (by omega) ⟨zC_to k2, ?_⟩)
    rw [f48] at e2
    rw [h29']
    have fo2 : ∀ l, l ≠ 48 → l ≠ 49 → σ2 l = σ l := fun l h1 h2 => (hs2 l h1).trans (fo l h1 h2)
    have g49 : σ2 49 = 1 := (hs2 49 (by decide)).trans f49
    refine c4_at k2 hT1 (zfe L t) (by omega) (fun c => ?_) (fun c => ?_)
    · have hkk : zfk L t = t (zfe L t) := if_pos c
      have htb := (hT.2.2 _ c).1
      have q47 : nI (t (zfe L t)) = (47 : Int32) ↔ zfk L t = 47 := by rw [hkk]; exact nI_eq (b := 47) (by omega) (by decide)
      have q46 : nI (t (zfe L t)) = (46 : Int32) ↔ zfk L t = 46 := by rw [hkk]; exact nI_eq (b := 46) (by omega) (by decide)
      refine ⟨fun z => ⟨fun z2 => ?_, fun z2 => gT k2 24 (by decide) (tI k2 (q := 29) (by omega) (tI k2 (q := 30) (by omega) ⟨zC_to k2, ?_⟩))⟩, fun z => gB k2 24 (by decide) ⟨zC_o k2 49 (by decide), c5_clear k2 49 (by decide) (fun M3 k3 => gB k3 24 (by decide) (tI k3 (q := 29) (by omega) (tI k3 (q := 30) (by omega) ⟨zC_to k3, ?_⟩)))⟩⟩
      · have z47 : zfk L t ≠ 47 := fun c => z (q47.mpr c)
        have z46 : zfk L t ≠ 46 := fun c => z2 (q46.mpr c)
        refine hp M2 σ2 k2 ?_ ?_ fo2
        · unfold ztN; rw [if_neg z46]; exact e2
        · unfold ztD; rw [if_neg z47, if_neg z46]; exact g49
      · have z46 := q46.mp z2
        have z47 : zfk L t ≠ 47 := by omega
        obtain ⟨l1, l2, l3, l4⟩ := zT_last hL hne (Or.inr z46)
        rw [if_neg z47] at l3
        rw [h29', h30', nI_1]
        have hv2 : zdv t (zfl L t - (zfe L t + 1)) (zfe L t + 1) (zdv t (zfe L t - zfs L t) (zfs L t) 0) < 10 ^ 170 := by
          have h1 := zdv_lt t (zfl L t - (zfe L t + 1)) (zfe L t + 1) (zdv t (zfe L t - zfs L t) (zfs L t) 0) (fun j j1 j2 => (l4 j j1 (by omega)).2.2)
          have h2 := zdv_lt t (zfe L t - zfs L t) (zfs L t) 0 (fun j j1 j2 => (s5 j j1 (by omega)).2.2)
          have h3 : (zdv t (zfe L t - zfs L t) (zfs L t) 0 + 1) * 10 ^ (zfl L t - (zfe L t + 1)) ≤ 10 ^ (zfe L t - zfs L t) * 10 ^ (zfl L t - (zfe L t + 1)) := Nat.mul_le_mul_right _ (by omega)
          rw [← Nat.pow_add] at h3
          have h4 : 10 ^ (zfe L t - zfs L t + (zfl L t - (zfe L t + 1))) ≤ 10 ^ 170 := Nat.pow_le_pow_right (by decide) (by omega)
          omega
        refine c4_fig k2 hT1 (i := 48) (by decide) l1 (by omega) l4 (by rw [e2]; exact hv2) (fun M3 σ3 k3 e3 hs3 => tI k3 (q := 29) (by omega) (fun x15 e15 => ⟨zfl L t - (zfe L t + 1) + 1, ?_⟩))
        rw [e2] at e3
        rw [e15, h29', nI_1]
        refine c4_tenL (σ0 := σ3) (to := zfl L t) (v := 10 ^ (zfl L t - (zfe L t + 1))) (by omega) h30' (Nat.pow_lt_pow_right (by decide) (by omega)) (fun M4 σ4 k4 e4 hs4 => hp M4 σ4 k4 ?_ ?_ (fun l h1 h2 => ?_)) _ (zfe L t + 1) M3 σ3 (by omega) k3 ?_ (fun _ _ => rfl)
        · rw [hs4 48 (by decide), e3]; unfold ztN; rw [if_pos z46]
        · rw [e4]; unfold ztD; rw [if_neg z47, if_pos z46]
        · rw [hs4 l h2, hs3 l h1, fo2 l h1 h2]
        · rw [hs3 49 (by decide), g49, Nat.one_mul]
      · have z47 := q47.mp z
        obtain ⟨l1, l2, l3, l4⟩ := zT_last hL hne (Or.inl z47)
        rw [if_pos z47] at l3
        rw [h29', h30', nI_1]
        have hvD : zdv t (zfl L t - (zfe L t + 1)) (zfe L t + 1) 0 < 10 ^ 170 := zdv_0 (fun j j1 j2 => l4 j j1 (by omega)) (by omega)
        refine c4_fig k3 hT1 (i := 49) (by decide) l1 (by omega) l4 (by rw [ux_s]; exact hvD) (fun M4 σ4 k4 e4 hs4 => hp M4 σ4 k4 ?_ ?_ (fun l h1 h2 => ?_))
        · rw [hs4 48 (by decide), ux_n (by decide), e2]; unfold ztN; rw [if_neg (by omega)]
        · rw [e4, ux_s]; unfold ztD; rw [if_pos z47]
        · rw [hs4 l h2, ux_n h2]; exact fo2 l h1 h2
    · have hkk : zfk L t = 256 := if_neg (by omega)
      refine ⟨fun _ => ⟨fun _ => ?_, fun z => absurd z (by decide)⟩, fun z => absurd z (by decide)⟩
      refine hp M2 σ2 k2 ?_ ?_ fo2
      · unfold ztN; rw [if_neg (by omega)]; exact e2
      · unfold ztD; rw [if_neg (by omega), if_neg (by omega)]; exact g49
  unfold pX4_tell
  refine tI h (q := 28) (by omega) ?_
  rw [h28]
  have q1 : nI (zfs L t) = (1 : Int32) ↔ zfs L t = 1 := nI_eq (b := 1) (by omega) (by decide)
  refine ⟨fun y => main 1 ?_, fun y => main (-1) ?_⟩
  · rw [if_neg (fun c => y (q1.mpr c))]
  · rw [if_pos (q1.mp y)]
end C43
