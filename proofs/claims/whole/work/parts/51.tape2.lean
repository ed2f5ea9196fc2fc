/-! ===== TAPE: findFault, tell ===== -/
section C42
variable {G : Nat → ClassId} {B : Nat} {M0 M : zm_M} {σ : Nat → Nat} {τ : Nat → Int32} {π : Nat → Nat} {β : Nat → Nat → Int32} {L : Nat} {t : Nat → Nat}
theorem tI (h : zC G B M0 M σ τ π β) {k q : Nat} (hk : k = 1 ∧ q = 27 ∨ k = 2 ∧ q = 28 ∨ k = 3 ∧ q = 29 ∨ k = 4 ∧ q = 30) {K : Int32 → Prop} (hK : K (τ q)) : zw_gi M (B + 158) 7 k K := by
  rcases hk with ⟨e1, e2⟩ | ⟨e1, e2⟩ | ⟨e1, e2⟩ | ⟨e1, e2⟩ <;> (subst e1 e2; exact ⟨_, _, zC_t h, rfl, hK⟩)
theorem tP (h : zC G B M0 M σ τ π β) {k q : Nat} (hk : k = 2 ∧ q = 28 ∨ k = 3 ∧ q = 29 ∨ k = 4 ∧ q = 30) {s : Int32} {K : zm_M → Prop} (hK : ∀ M', zC G B M0 M' σ (upd τ q s) π β → K M') : zw_p M (B + 158) 7 k (.int s) K := by
  rcases hk with ⟨e1, e2⟩ | ⟨e1, e2⟩ | ⟨e1, e2⟩
  · subst e1 e2; exact ⟨_, zC_t h, (show 2 < 5 by decide), hK _ (zC_ptape h 28 (by decide) s)⟩
  · subst e1 e2; exact ⟨_, zC_t h, (show 3 < 5 by decide), hK _ (zC_ptape h 29 (by decide) s)⟩
  · subst e1 e2; exact ⟨_, zC_t h, (show 4 < 5 by decide), hK _ (zC_ptape h 30 (by decide) s)⟩
/-- what findFault leaves of the ints -/
def zTf (τ τ' : Nat → Int32) (L : Nat) (t : Nat → Nat) : Prop := τ' 28 = nI (zfs L t) ∧ τ' 29 = nI (zfe L t) ∧ τ' 30 = nI (zfl L t) ∧ ∀ q, q < 28 ∨ 30 < q → τ' q = τ q
theorem c4_ff138 {post : Int32 → zm_M → Prop} {τ0 : Nat → Int32} (h : zC G B M0 M σ τ π β) (hT : zT τ β L t) (h28 : τ 28 = nI (zfs L t)) (h29 : τ 29 = nI (zfe L t)) (h30 : τ 30 = nI (zfl L t)) (ho : ∀ q, q < 28 ∨ 30 < q → τ q = τ0 q) (hne : zfe L t ≠ zfs L t) (hnm : ¬ ((zfk L t = 47 ∨ zfk L t = 46) ∧ zfl L t = zfe L t + 1)) (hlb : zfl L t < 2 ^ 30) (hp : ∀ (M' : zm_M) (τ' : Nat → Int32), zC G B M0 M' σ τ' π β → zTf τ0 τ' L t → (zff L t = none → post (-1) M') ∧ (∀ k, zff L t = some k → post (nI k) M')) : pX4_findFault_138 G post (B + 158) M := by
  have hL := hT.2.1
  obtain ⟨hp0, hp1⟩ := hp M τ h ⟨h28, h29, h30, ho⟩
  unfold zff at hp0 hp1
  rw [if_neg hne, if_neg hnm] at hp0 hp1
  unfold pX4_findFault_138
  refine tI h (q := 30) (by omega) (tI h (q := 27) (by omega) ⟨fun y => hp0 (if_neg ?_), fun y => tI h (q := 30) (by omega) ?_⟩)
  · rw [hT.1, h30] at y
    have := (nI_leI (by omega) (by omega)).mp y
    omega
  · rw [hT.1, h30] at y
    have : ¬ L ≤ zfl L t := fun c => y ((nI_leI (by omega) (by omega)).mpr c)
    rw [h30]
    exact hp1 _ (if_pos (by omega))
theorem c4_findFault {post : Int32 → zm_M → Prop} (h : zC G B M0 M σ τ π β) (hT : zT τ β L t) (hp : ∀ (M' : zm_M) (τ' : Nat → Int32), zC G B M0 M' σ τ' π β → zTf τ τ' L t → (zff L t = none → post (-1) M') ∧ (∀ k, zff L t = some k → post (nI k) M')) : pX4_findFault G (B + 158) post M := by
  have hL := hT.2.1
  have hs1 : zfs L t ≤ 1 := by unfold zfs; split <;> omega
  obtain ⟨e1, e2, e3, e4⟩ := zef_le L t 160 (zfs L t)
  have hfe : zfe L t = zef L t 160 (zfs L t) := rfl
  rw [← hfe] at e1 e2 e3 e4
  have main : ∀ s : Int32, s = nI (zfs L t) → pX4_findFault_16 G post (B + 158) (B + 158) s M := by
    intro s hs
    unfold pX4_findFault_16
    refine tP h (q := 28) (by omega) (fun M1 k1 => tI k1 (q := 28) (by omega) ⟨zC_to k1, ?_⟩)
    have hT1 : zT (upd τ 28 s) β L t := zT_τ hT (pk_un (by decide))
    rw [pk_us, hs]
    refine c4_eof k1 hT1 (most := 160) (by omega) (tP k1 (q := 29) (by omega) (fun M2 k2 => tI k2 (q := 29) (by omega) (tP k2 (q := 30) (by omega) (fun M3 k3 => tI k3 (q := 29) (by omega) (tI k3 (q := 28) (by omega) ?_)))))
    rw [← hfe] at k2 k3
    rw [hs] at k3
    obtain ⟨τ3, hτ3⟩ : ∃ τ3, τ3 = upd (upd (upd τ 28 (nI (zfs L t))) 29 (nI (zfe L t))) 30 (upd (upd τ 28 (nI (zfs L t))) 29 (nI (zfe L t)) 29) := ⟨_, rfl⟩
    have t28 : τ3 28 = nI (zfs L t) := by rw [hτ3]; rfl
    have t29 : τ3 29 = nI (zfe L t) := by rw [hτ3]; rfl
    have t30 : τ3 30 = nI (zfe L t) := by rw [hτ3]; rfl
    have to : ∀ q, q < 28 ∨ 30 < q → τ3 q = τ q := fun q hq => by rw [hτ3, pk_un (by omega), pk_un (by omega), pk_un (by omega)]
    rw [hs, ← hfe, ← hτ3, t28, t29]
    rw [← hτ3] at k3
    have hT3 : zT τ3 β L t := zT_τ hT (to 27 (by decide))
    refine ⟨fun y => tI k3 (q := 29) (by omega) ⟨zC_to k3, ?_⟩, fun y => tI k3 (q := 28) (by omega) ?_⟩
    · have hne : zfe L t ≠ zfs L t := fun c => y (by rw [c])
      rw [t29]
      -- a mark: how many figures may stand behind it
      have mk : ∀ most : Nat, most ≤ 160 → (zfk L t = 47 ∨ zfk L t = 46) → zfl L t = zef L t most (zfe L t + 1) → pX4_findFault_104 G post (B + 158) (nI most) M3 := by
        intro most hmost hk hfl
        unfold pX4_findFault_104
        refine tI k3 (q := 29) (by omega) ⟨zC_to k3, ?_⟩
        rw [t29, nI_1]
        obtain ⟨g1, g2, g3, g4⟩ := zef_le L t most (zfe L t + 1)
        refine c4_eof k3 hT3 (by omega) (tP k3 (q := 30) (by omega) (fun M4 k4 => tI k4 (q := 30) (by omega) (tI k4 (q := 29) (by omega) ?_)))
        rw [← hfl] at k4 g1 g2 g3 g4 ⊢
        have u28 : upd τ3 30 (nI (zfl L t)) 28 = nI (zfs L t) := t28
        have u29 : upd τ3 30 (nI (zfl L t)) 29 = nI (zfe L t) := t29
        have u30 : upd τ3 30 (nI (zfl L t)) 30 = nI (zfl L t) := pk_us
        have uo : ∀ q, q < 28 ∨ 30 < q → upd τ3 30 (nI (zfl L t)) q = τ q := fun q hq => by rw [pk_un (by omega)]; exact to q hq
        rw [u30, u29, nI_1]
        refine ⟨fun z => ?_, fun z => tI k4 (q := 30) (by omega) ?_⟩
        · have z' : zfl L t ≠ zfe L t + 1 := fun c => z (by rw [c])
          exact c4_ff138 k4 (zT_τ hT (uo 27 (by decide))) u28 u29 u30 uo hne (fun c => z' c.2) (by omega) hp
        · have z' : zfl L t = zfe L t + 1 := (nI_eq (by omega) (by omega)).mp z
          rw [u30]
          refine (hp M4 _ k4 ⟨u28, u29, u30, uo⟩).2 _ ?_
          unfold zff
          rw [if_neg hne, if_pos ⟨hk, z'⟩]
      refine c4_at k3 hT3 (zfe L t) (by omega) (fun c => ?_) (fun c => ?_)
      · have hkk : zfk L t = t (zfe L t) := if_pos c
        have htb := (hT.2.2 _ c).1
        have q47 : nI (t (zfe L t)) = (47 : Int32) ↔ t (zfe L t) = 47 := nI_eq (b := 47) (by omega) (by decide)
        have q46 : nI (t (zfe L t)) = (46 : Int32) ↔ t (zfe L t) = 46 := nI_eq (b := 46) (by omega) (by decide)
        refine ⟨fun z => ?_, fun z => ⟨fun z2 => ?_, fun z2 => ?_⟩⟩
        · have z' := q47.mp z
          unfold pX4_findFault_79
          refine ⟨fun z3 => absurd z z3, fun _ => mk 160 (by decide) (Or.inl (hkk.trans z')) ?_⟩
          unfold zfl
          rw [if_neg hne, if_pos (hkk.trans z')]
        · have z47 : zfk L t ≠ 47 := fun c => z (q47.mpr (hkk.symm.trans c))
          have z46 : zfk L t ≠ 46 := fun c => z2 (q46.mpr (hkk.symm.trans c))
          have hfl : zfl L t = zfe L t := by unfold zfl; rw [if_neg hne, if_neg z47, if_neg z46]
          exact c4_ff138 k3 hT3 t28 t29 (by rw [hfl]; exact t30) to hne (by omega) (by omega) hp
        · have z' := q46.mp z2
          have z47 : zfk L t ≠ 47 := fun c => z (q47.mpr (hkk.symm.trans c))
          unfold pX4_findFault_79
          refine ⟨fun _ => tI k3 (q := 29) (by omega) (tI k3 (q := 28) (by omega) ?_), fun z3 => absurd z3 z⟩
          rw [t29, t28, pk_sub e1]
          have e160 : (160 : Int32) - nI (zfe L t - zfs L t) = nI (160 - (zfe L t - zfs L t)) := pk_sub (a := 160) (by omega)
          rw [e160]
          refine mk _ (by omega) (Or.inr (hkk.trans z')) ?_
          unfold zfl
          rw [if_neg hne, if_neg z47, if_pos (hkk.trans z')]
      · have hkk : zfk L t = 256 := if_neg (by omega)
        have hfl : zfl L t = zfe L t := by unfold zfl; rw [if_neg hne, if_neg (by omega), if_neg (by omega)]
        refine ⟨fun z => absurd z (by decide), fun _ => ⟨fun _ => ?_, fun z => absurd z (by decide)⟩⟩
        exact c4_ff138 k3 hT3 t28 t29 (by rw [hfl]; exact t30) to hne (by omega) (by omega) hp
    · have he : zfe L t = zfs L t := (nI_eq (by omega) (by omega)).mp y
      have hfl : zfl L t = zfe L t := by unfold zfl; rw [if_pos he]
      rw [t28]
      refine (hp M3 _ k3 ⟨t28, t29, by rw [hfl]; exact t30, to⟩).2 _ ?_
      unfold zff
      rw [if_pos he]
  unfold pX4_findFault
  refine ⟨zC_to h, c4_at h hT 0 (by decide) (fun c => ?_) (fun c => ?_)⟩
  · have htb := (hT.2.2 0 c).1
    have q45 : nI (t 0) = (45 : Int32) ↔ t 0 = 45 := nI_eq (b := 45) (by omega) (by decide)
    refine ⟨fun z => main 0 ?_, fun z => main 1 ?_⟩
    · unfold zfs
      rw [if_neg (fun q => z (q45.mpr q.2))]
      rfl
    · unfold zfs
      rw [if_pos ⟨c, q45.mp z⟩]
      rfl
  · refine ⟨fun z => main 0 ?_, fun z => absurd z (by decide)⟩
    unfold zfs
    rw [if_neg (fun q => absurd q.1 (by omega))]
    rfl
theorem c4_figL {post : zm_M → Prop} {σ0 : Nat → Nat} {i to : Nat} (hi : i = 48 ∨ i = 49) (hto : to ≤ 400) (hT : zT τ β L t) {v : Nat} (hv : v < 10 ^ 170) (hp : ∀ (M' : zm_M) (σ' : Nat → Nat), zC G B M0 M' σ' τ π β → σ' i = v → (∀ l, l ≠ i → σ' l = σ0 l) → post M') : ∀ (n fr : Nat) (M : zm_M) (σ : Nat → Nat), fr + n = to → zC G B M0 M σ τ π β → (∀ j, fr ≤ j → j < to → zfg L t j) → zdv t n fr (σ i) = v → (∀ l, l ≠ i → σ l = σ0 l) → pX4_addFigures_3 G post (n + 1) (B + 158) (B + zo_w i) (nI to) (nI fr) M
  | 0, fr, M, σ, hn, h, hf, he, hs => by
    rw [pX4_addFigures_3]
    exact ⟨fun _ => hp M σ h he hs, fun y => absurd ((nI_leI (by omega) (by omega)).mpr (by omega)) y⟩
  | n + 1, fr, M, σ, hn, h, hf, he, hs => by
    rw [pX4_addFigures_3]
    have hfr := hf fr (Nat.le_refl _) (by omega)
    have hc : zo_c i = 36 := zo_c36 (by omega)
    refine ⟨fun y => absurd ((nI_leI (by omega) (by omega)).mp y) (by omega), fun _ => ⟨zC_to h, c4_at h hT fr (by omega) (fun c => ⟨zC_o h i (by omega), ?_⟩) (fun c => absurd hfr.1 (by omega))⟩⟩
    have e48 : nI (t fr) - (48 : Int32) = nI (t fr - 48) := pk_sub (b := 48) hfr.2.1
    have hfr2 := hfr.2.2
    -- the number only grows
    have grow : ∀ (n i v : Nat), v ≤ zdv t n i v := by
      intro n
      induction n with
      | zero => intro i v; exact Nat.le_refl _
      | succ n ih =>
        intro i v
        have := ih (i + 1) (v * 10 + (t i - 48))
        show v ≤ zdv t n (i + 1) (v * 10 + (t i - 48))
        omega
    have hle : σ i * 10 + (t fr - 48) ≤ v := by
      rw [← he]
      exact grow n (fr + 1) _
    have hpow : 10 ^ 170 < 4294967296 ^ 36 := by decide
    rw [e48]
    refine c5_timesPlus h i (by omega) (q := 10) (by decide) (by omega) (by rw [hc]; omega) (fun M1 k1 x4 e4 => ?_)
    rw [e4, nI_1]
    refine c4_figL hi hto hT hv hp n (fr + 1) M1 _ (by omega) k1 (fun j j1 j2 => hf j (by omega) j2) ?_ (fun l hl => ?_)
    · rw [ux_s]
      exact he
    · rw [ux_n hl]
      exact hs l hl
theorem c4_fig {post : zm_M → Prop} (h : zC G B M0 M σ τ π β) (hT : zT τ β L t) {i fr to : Nat} (hi : i = 48 ∨ i = 49) (hft : fr ≤ to) (hto : to ≤ 400) (hf : ∀ j, fr ≤ j → j < to → zfg L t j) (hv : zdv t (to - fr) fr (σ i) < 10 ^ 170) (hp : ∀ (M' : zm_M) (σ' : Nat → Nat), zC G B M0 M' σ' τ π β → σ' i = zdv t (to - fr) fr (σ i) → (∀ l, l ≠ i → σ' l = σ l) → post M') : pX4_addFigures G (B + 158) (B + zo_w i) (nI fr) (nI to) post M := by
  unfold pX4_addFigures
  exact ⟨to - fr + 1, c4_figL (σ0 := σ) hi hto hT hv hp (to - fr) fr M σ (by omega) h hf rfl (fun _ _ => rfl)⟩
end C42
