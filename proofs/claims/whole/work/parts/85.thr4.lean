/-! ===== THE REFERENCE'S CALLS: read ===== -/
abbrev zcl (S : zS) : zS := (sT S, sS S, sN S, sD S, (0, st S), sO S)
def zo_read (S : zS) : Option Int32 × zS := match zff (sL S) (st S) with
  | some k => (some ((-10 : Int32) - nI k), zcl S)
  | none => if zF S < 24 then if ztD (sL S) (st S) = 0 then (none, zcl S) else zsm (zkp (zcl S) (if zfs (sL S) (st S) = 1 then -1 else 1) (ztN (sL S) (st S)) (ztD (sL S) (st S))) else (some (-3), S)
theorem zp10 {k : Nat} (h : k ≤ 161) : (10 : Nat) ^ k < 4294967296 ^ 71 := by
  have h1 : (10 : Nat) ^ k ≤ 10 ^ 161 := Nat.pow_le_pow_right (by decide) h
  have h2 : (10 : Nat) ^ 161 ≤ 16 ^ 161 := Nat.pow_le_pow_left (by decide) _
  have h3 : (16 : Nat) ^ 161 = 2 ^ 644 := by rw [show (16 : Nat) = 2 ^ 4 by decide, ← Nat.pow_mul]
  rw [zB2]
  have h4 : (2 : Nat) ^ 644 < 2 ^ (32 * 71) := Nat.pow_lt_pow_right (by decide) (by decide)
  omega
section R86
variable {G : Nat → ClassId} {Bm : Nat} {M0 M : zm_M} {ι : Nat → Int32} {α : Nat → Nat → Int32} {K : Nat → Int64} {ρ : Nat → Nat} {S : zS} {t : Int32} {post : Int32 → zm_M → Prop}
theorem zRn_cl (r : zRn ι α K S) : zRn (upd ι 6 0) α K (zcl S) := ⟨r.1, r.2.1, ⟨pk_us, Nat.zero_le _, fun j hj => absurd hj (Nat.not_lt_zero j)⟩, ⟨(pk_un (by decide)).trans r.2.2.2.1.1, r.2.2.2.1.2⟩, r.2.2.2.2⟩
theorem r7_isFigure (h : zP G Bm M0 M ι α K ρ) (r : zRn ι α K S) {p : Int32} {j : Nat} (hp0 : p = nI j) (hj : j < 2 ^ 30) (h1 : zfg (sL S) (st S) j → post 1 M) (h0 : ¬ zfg (sL S) (st S) j → post 0 M) : pX7_isFigure G Bm p post M := by
  obtain ⟨e6, l6, t6⟩ := r.2.2.1
  subst hp0
  unfold pX7_isFigure
  refine r7_g6 h ?_
  rw [e6]
  refine ⟨fun y => ⟨zb_0, h0 (fun q => ?_)⟩, fun y => ?_⟩
  · have y' := (nI_leI (by omega) (by omega)).mp y
    have := q.1
    omega
  · have y' : j < sL S := by
      rcases Nat.lt_or_ge j (sL S) with c | c
      · exact c
      · exact absurd ((nI_leI (by omega) (by omega)).mpr c) y
    obtain ⟨t1, t2⟩ := t6 j y'
    refine r7_tape h rfl (by omega) ?_
    rw [t1]
    refine ⟨fun z => ⟨zb_0, h0 (fun q => ?_)⟩, fun z => r7_tape h rfl (by omega) ?_⟩
    · have z' := (nI_ltI (b := 48) (by omega) (by decide)).mp z
      have := q.2.1
      omega
    · rw [t1]
      have z' : ¬ st S j < 48 := fun c => z ((nI_ltI (b := 48) (by omega) (by decide)).mpr c)
      refine ⟨fun w => ⟨zb_0, h0 (fun q => ?_)⟩, fun w => ⟨zb_1, h1 ⟨y', by omega, ?_⟩⟩⟩
      · have w' := (nI_ltI (a := 57) (by decide) (by omega)).mp w
        have := q.2.2
        omega
      · rcases Nat.lt_or_ge 57 (st S j) with c | c
        · exact absurd ((nI_ltI (a := 57) (by decide) (by omega)).mpr c) w
        · exact c
theorem r7_Rtape (h : zP G Bm M0 M ι α K ρ) {i : Int32} {a : Nat} (e : i = nI a) (ha : a < 400) {P : Int32 → Prop} (hp : P (α 5 a)) : zw_li (G 0) M (Bm + 5) i P := by
  obtain ⟨g, n, k, hv⟩ := h
  subst e
  exact ⟨_, _, k.2.2.2.2.2.2.1, vp_in_nI ha (by decide), by rw [nI_clamp (by omega)]; exact hp⟩
theorem r7_tfC {k70 : Nat → Int32 → zm_M → Prop} {q : Nat} (hq : q < 24) {fr : Int32} {e v c : Nat} {i0 : Int32} {ρ0 : Nat → Nat} (he : e ≤ 800) (hk : ∀ (M' : zm_M) (ι' : Nat → Int32) (ρ' : Nat → Nat) (m' : Nat), zP G Bm M0 M' ι' α K ρ' → zRn ι' α K S → ι' 11 = nI e → m' ≤ 160 → m' + e = c → ι' 12 = nI (160 - m') → ρ' q = v → ρ' q < 10 ^ (160 - m') → (∀ j, j ≠ q → ρ' j = ρ0 j) → ι' 0 = i0 → k70 Bm fr M') : ∀ (m i : Nat) (M : zm_M) (ι : Nat → Int32) (ρ : Nat → Nat), m ≤ 160 → m + i = c → i ≤ 800 → zP G Bm M0 M ι α K ρ → zRn ι α K S → ι 11 = nI i → ι 12 = nI (160 - m) → ρ q < 10 ^ (160 - m) → zef (sL S) (st S) m i = e → zdv (st S) (e - i) i (ρ q) = v → (∀ j, j ≠ q → ρ j = ρ0 j) → ι 0 = i0 → pX7_takeFigures_5 G post k70 (m + 1) Bm (nI q) fr M := by
  intro m
  induction m with
  | zero =>
    intro i M ι ρ hm hc hi h r e11 e12 hl hz hv hf h0
    rw [pX7_takeFigures_5]
    have ei : i = e := hz
    subst ei
    rw [Nat.sub_self] at hv
    have done : k70 Bm fr M := hk M ι ρ 0 h r e11 (by decide) hc e12 hv hl hf h0
    refine r7_g11 h ⟨zP_o h, r7_isFigure h r e11 (by omega) (fun c => ⟨fun y => absurd y (by decide), fun _ => r7_g12 h ?_⟩) (fun c => ⟨fun _ => done, fun y => absurd rfl y⟩)⟩
    rw [e12]
    exact ⟨fun _ => done, fun y => absurd (by decide) y⟩
  | succ m ih =>
    intro i M ι ρ hm hc hi h r e11 e12 hl hz hv hf h0
    rw [pX7_takeFigures_5]
    unfold zef at hz
    refine r7_g11 h ⟨zP_o h, r7_isFigure h r e11 (by omega) (fun c => ⟨fun y => absurd y (by decide), fun _ => r7_g12 h ?_⟩) (fun c => ⟨fun _ => ?_, fun y => absurd rfl y⟩)⟩
    · have c' : i < sL S ∧ 48 ≤ st S i ∧ st S i ≤ 57 := c
      rw [if_pos c'] at hz
      rw [e12]
      have hle2 := zef_le (sL S) (st S) m (i + 1)
      rw [hz] at hle2
      obtain ⟨t1, t2⟩ := r.2.2.1.2.2 i c.1
      have hL4 := r.2.2.1.2.1
      have hiL := c.1
      have h57 := c.2.2
      refine ⟨fun y => absurd ((nI_leI (a := 160) (by decide) (by omega)).mp y) (by omega), fun _ => r7_ga h 5 (b := 5) (by decide) (r7_g11 h (r7_Rtape h e11 (by omega) ⟨zP_o h, ?_⟩))⟩
      rw [t1, show nI (st S i) - (48 : Int32) = nI (st S i - 48) from pk_sub (b := 48) c.2.1, nI_l64 (by omega)]
      refine r7_timesSmall h q 10 (st S i - 48) (by decide) (by omega) (Nat.lt_trans hl (zp10 (by omega))) (fun M2 k2 => r7_g12 k2 (r7_p12 k2 (fun M3 k3 => r7_g11 k3 (r7_p11 k3 (fun M4 k4 => ?_))))) hq
      refine ih (i + 1) M4 _ _ (by omega) (by omega) (by omega) k4 (zRn_ι r ?_ ?_) ?_ ?_ ?_ hz ?_ (fun j hj => by rw [rgu_n hj]; exact hf j hj) ?_
      · rw [pk_un (by decide), pk_un (by decide)]
      · rw [pk_un (by decide), pk_un (by decide)]
      · rw [pk_us, pk_un (by decide), e11, nI_1]
      · rw [pk_un (by decide), pk_us, e12, nI_1]
        congr 1
        omega
      · rw [rgu_s, show 160 - m = 160 - (m + 1) + 1 by omega, Nat.pow_succ]
        omega
      · rw [rgu_s]
        obtain ⟨d, hd⟩ : ∃ d, e - i = d + 1 := ⟨e - i - 1, by omega⟩
        rw [hd] at hv
        rw [show e - (i + 1) = d by omega]
        exact hv
      · rw [pk_un (by decide), pk_un (by decide)]
        exact h0
    · have c' : ¬ (i < sL S ∧ 48 ≤ st S i ∧ st S i ≤ 57) := c
      rw [if_neg c'] at hz
      subst hz
      rw [Nat.sub_self] at hv
      exact hk M ι ρ (m + 1) h r e11 hm hc e12 hv hl hf h0
theorem r7_tf (h : zP G Bm M0 M ι α K ρ) (r : zRn ι α K S) (q : Nat) {i m : Nat} (hm : m ≤ 160) (hi : i ≤ 402) (e11 : ι 11 = nI i) (e12 : ι 12 = nI (160 - m)) (hl : ρ q < 10 ^ (160 - m)) (hp : ∀ (M' : zm_M) (ι' : Nat → Int32) (ρ' : Nat → Nat) (m' : Nat), zP G Bm M0 M' ι' α K ρ' → zRn ι' α K S → ι' 11 = nI (zef (sL S) (st S) m i) → m' ≤ 160 → ι' 12 = nI (160 - m') → 160 - m' = 160 - m + (zef (sL S) (st S) m i - i) → ρ' q = zdv (st S) (zef (sL S) (st S) m i - i) i (ρ q) → ρ' q < 10 ^ (160 - m') → (∀ j, j ≠ q → ρ' j = ρ j) → ι' 0 = ι 0 → post (if zef (sL S) (st S) m i ≠ i ∧ ¬ (zef (sL S) (st S) m i < sL S ∧ 48 ≤ st S (zef (sL S) (st S) m i) ∧ st S (zef (sL S) (st S) m i) ≤ 57) then 1 else 0) M') (hq : q < 24 := by decide) : pX7_takeFigures G Bm (nI q) post M := by
  obtain ⟨z1, z2, z3, z4⟩ := zef_le (sL S) (st S) m i
  unfold pX7_takeFigures
  refine r7_g11 h ⟨m + 1, ?_⟩
  rw [e11]
  refine r7_tfC (S := S) (e := zef (sL S) (st S) m i) (v := zdv (st S) (zef (sL S) (st S) m i - i) i (ρ q)) (c := m + i) (i0 := ι 0) (ρ0 := ρ) hq (by omega) (fun M1 ι1 ρ1 m1 k1 r1 a11 a1 ac a12 a4 a5 a6 a7 => ?_) m i M ι ρ hm rfl (by omega) h r e11 e12 hl rfl rfl (fun _ _ => rfl) rfl
  · have hp' := hp M1 ι1 ρ1 m1 k1 r1 a11 a1 a12 (by omega) a4 a5 a6 a7
    show pX7_takeFigures_70 G post Bm (nI i) M1
    unfold pX7_takeFigures_70
    refine r7_g11 k1 ?_
    rw [a11]
    refine ⟨fun y => ⟨zb_0, ?_⟩, fun y => r7_g11 k1 ⟨zP_o k1, r7_isFigure k1 r1 a11 (by omega) (fun c => ⟨fun _ => ⟨zb_0, ?_⟩, fun w => absurd w (by decide)⟩) (fun c => ⟨fun w => absurd rfl w, fun _ => ⟨zb_1, ?_⟩⟩)⟩⟩
    · have y' := (nI_leI (by omega) (by omega)).mp y
      rw [if_neg (by omega)] at hp'
      exact hp'
    · rw [if_neg (fun w => w.2 c)] at hp'
      exact hp'
    · have y' : ¬ zef (sL S) (st S) m i ≤ i := fun w => y ((nI_leI (by omega) (by omega)).mpr w)
      rw [if_pos ⟨by omega, c⟩] at hp'
      exact hp'
/-- once the figures are taken: full, a fault, thrown, kept -/
theorem r7_rd206 (h : zP G Bm M0 M ι α K ρ) (r : zRn ι α K S) (h0 : ι 0 = 0) {p : Nat} (e11 : ι 11 = nI p) (hp2 : p < 2 ^ 30) {v1 v2 : Int32} (hv1 : v1 = 0 ∧ ¬ zfs (sL S) (st S) = 1 ∨ ¬ v1 = 0 ∧ zfs (sL S) (st S) = 1) (hg1 : ¬ v2 = 0 → p = sL S → zff (sL S) (st S) = none) (hg2 : v2 = 0 ∨ p ≠ sL S → zff (sL S) (st S) = some p) (hN : zff (sL S) (st S) = none → ρ 0 = ztN (sL S) (st S) ∧ ρ 1 = ztD (sL S) (st S)) (l0 : ρ 0 < 4294967296 ^ 71) (l1 : ρ 1 < 4294967296 ^ 71) (hp : ∀ M', zRM G Bm M0 M' (zo_read S).2 (zth (zo_read S).1) → post ((zo_read S).1.getD 0) M') : pX7_read_206 G post Bm v1 v2 M := by
  obtain ⟨e6, l6, t6⟩ := r.2.2.1
  unfold zo_read at hp
  have bad : zff (sL S) (st S) = some p → pX7_read_225 G post Bm v1 M := by
    intro hf
    rw [hf] at hp
    unfold pX7_read_225 pX7_read_226
    refine ⟨fun _ => ?_, fun y => absurd rfl y⟩
    unfold pX7_read_243
    refine r7_p6 h (fun M1 k1 => ⟨fun y => absurd rfl y, fun _ => r7_g11 k1 ?_⟩)
    rw [pk_un (by decide), e11]
    exact hp M1 ⟨_, _, _, _, k1, zRn_cl r, (pk_un (by decide)).trans h0⟩
  unfold pX7_read_206
  refine ⟨fun y => bad (hg2 (Or.inl y)), fun y => r7_g11 h (r7_g6 h ?_)⟩
  rw [e11, e6]
  have ei : nI p = nI (sL S) ↔ p = sL S := nI_eq (by omega) (by omega)
  refine ⟨fun z => bad (hg2 (Or.inr (fun q => z (ei.mpr q)))), fun z => ?_⟩
  have hf := hg1 y (ei.mp z)
  obtain ⟨n0, n1⟩ := hN hf
  rw [hf] at hp
  simp only at hp
  unfold pX7_read_226
  refine ⟨fun w => absurd w (by decide), fun _ => ⟨zP_o h, r7_isFull h r (fun c => ?_) (fun c => ?_)⟩⟩
  · rw [if_pos c] at hp
    unfold pX7_read_243
    refine r7_p6 h (fun M1 k1 => ⟨fun _ => r7_nz' k1 1 (fun w => ?_) (fun w => ?_), fun w => absurd w (by decide)⟩)
    · rw [n1] at w
      rw [if_pos w] at hp
      exact r7_thr k1 (fun M2 k2 => hp M2 ⟨_, _, _, _, k2, zRn_ι (zRn_cl r) (pk_un (by decide)) (pk_un (by decide)), pk_us⟩)
    · have w' : ztD (sL S) (st S) ≠ 0 := by rw [← n1]; exact w
      rw [if_neg w'] at hp
      have kl : ∀ s : Int32, (s = 1 ∨ s = -1) → s = (if zfs (sL S) (st S) = 1 then -1 else 1) → pX7_read_286 G post Bm s M1 := by
        intro s hs hs2
        unfold pX7_read_286
        refine ⟨zP_o k1, r7_keepLeast (S := zcl S) k1 (zRn_cl r) c w l0 l1 (fun _ => hs) ((pk_un (by decide)).trans h0) ?_⟩
        rw [n0, n1, hs2]
        exact hp
      refine ⟨fun q => kl 1 (Or.inl rfl) ?_, fun q => kl (-1) (Or.inr rfl) ?_⟩
      · rcases hv1 with ⟨_, q2⟩ | ⟨q2, _⟩
        · rw [if_neg q2]
        · exact absurd q q2
      · rcases hv1 with ⟨q2, _⟩ | ⟨_, q2⟩
        · exact absurd q2 q
        · rw [if_pos q2]
  · rw [if_neg c] at hp
    exact hp M ⟨_, _, _, _, h, r, h0⟩
theorem r7_tenL {k206 : Nat → Int32 → Int32 → zm_M → Prop} {v1 v2 : Int32} {to v : Nat} (hto : to ≤ 160) (hv : v ≤ 10 ^ 160) {ρ0 : Nat → Nat} (e12 : ι 12 = nI to) (hk : ∀ (M' : zm_M) (ρ' : Nat → Nat), zP G Bm M0 M' ι α K ρ' → ρ' 1 = v → (∀ j, j ≠ 1 → ρ' j = ρ0 j) → k206 Bm v1 v2 M') : ∀ (n fr : Nat) (M : zm_M) (ρ : Nat → Nat), fr + n = to → zP G Bm M0 M ι α K ρ → ρ 1 * 10 ^ n = v → (∀ j, j ≠ 1 → ρ j = ρ0 j) → pX7_read_182 G post k206 (n + 1) Bm v1 v2 (nI fr) M
  | 0, fr, M, ρ, hf, h, h1, ho => by
    rw [pX7_read_182]
    refine r7_g12 h ?_
    rw [e12]
    rw [Nat.pow_zero, Nat.mul_one] at h1
    exact ⟨fun _ => hk M ρ h h1 ho, fun y => absurd ((nI_leI (by omega) (by omega)).mpr (by omega)) y⟩
  | n + 1, fr, M, ρ, hf, h, h1, ho => by
    rw [pX7_read_182]
    refine r7_g12 h ?_
    rw [e12]
    have hl : ρ 1 ≤ v := by
      rw [← h1]
      exact Nat.le_mul_of_pos_right _ (Nat.pow_pos (by decide))
    refine ⟨fun y => absurd ((nI_leI (by omega) (by omega)).mp y) (by omega), fun _ => ⟨zP_o h, r7_timesSmall h 1 10 0 (by decide) (by decide) (Nat.lt_of_le_of_lt (Nat.le_trans hl hv) (zp10 (by decide))) (fun M1 k1 x e => ?_)⟩⟩
    rw [e, nI_1]
    refine r7_tenL hto hv e12 hk n (fr + 1) M1 _ (by omega) k1 ?_ (fun j hj => by rw [rgu_n hj]; exact ho j hj)
    rw [rgu_s, Nat.add_zero, Nat.mul_assoc, ← Nat.pow_succ']
    exact h1
theorem r7_rd44 (h : zP G Bm M0 M ι α K ρ) (r : zRn ι α K S) (h0 : ι 0 = 0) {v1 s1 : Int32} (hs1 : s1 = nI (zfs (sL S) (st S))) (hv1 : v1 = 0 ∧ ¬ zfs (sL S) (st S) = 1 ∨ ¬ v1 = 0 ∧ zfs (sL S) (st S) = 1) (hp : ∀ M', zRM G Bm M0 M' (zo_read S).2 (zth (zo_read S).1) → post ((zo_read S).1.getD 0) M') : pX7_read_44 G post Bm v1 Bm s1 M := by
  obtain ⟨e6, l6, t6⟩ := r.2.2.1
  obtain ⟨q1, q2, q3, q4, q5⟩ := zT_end (L := sL S) (t := st S) l6
  unfold pX7_read_44
  refine r7_p11 h (fun M1 k1 => ⟨zP_o k1, r7_small k1 0 (fun M2 k2 => ⟨zP_o k2, r7_small k2 1 (fun M3 k3 => r7_p12 k3 (fun M4 k4 => ⟨zP_o k4, ?_⟩))⟩)⟩)
  have r4 : zRn (upd (upd ι 11 s1) 12 0) α K S := zRn_ι r (by rw [pk_un (by decide), pk_un (by decide)]) (by rw [pk_un (by decide), pk_un (by decide)])
  have z4 : upd (upd ι 11 s1) 12 0 0 = 0 := by rw [pk_un (by decide), pk_un (by decide)]; exact h0
  refine r7_tf k4 r4 0 (i := zfs (sL S) (st S)) (m := 160) (by decide) (by omega) (by rw [pk_un (by decide), pk_us, hs1]) pk_us (by show (0 : Nat) < 10 ^ 0; decide) (fun M5 ι5 ρ5 m5 k5 r5 a11 am a12 ac a0 al af az => ?_)
  have hze : zef (sL S) (st S) 160 (zfs (sL S) (st S)) = zfe (sL S) (st S) := rfl
  rw [hze] at a11 ac a0 ⊢
  have a0' : ρ5 0 = zdv (st S) (zfe (sL S) (st S) - zfs (sL S) (st S)) (zfs (sL S) (st S)) 0 := a0
  have a1' : ρ5 1 = 1 := af 1 (by decide)
  have z5 : ι5 0 = 0 := az.trans z4
  have l50 : ρ5 0 < 4294967296 ^ 71 := Nat.lt_trans al (zp10 (by omega))
  have l51 : ρ5 1 < 4294967296 ^ 71 := by rw [a1']; exact Nat.one_lt_pow (by decide) (by decide)
  obtain ⟨e6', l6', t6'⟩ := r5.2.2.1
  by_cases cg : zfe (sL S) (st S) ≠ zfs (sL S) (st S) ∧ ¬ (zfe (sL S) (st S) < sL S ∧ 48 ≤ st S (zfe (sL S) (st S)) ∧ st S (zfe (sL S) (st S)) ≤ 57)
  · rw [if_pos cg]
    refine ⟨fun y => absurd y (by decide), fun _ => r7_g11 k5 (r7_g6 k5 ?_)⟩
    rw [a11, e6']
    -- neither stroke nor point
    have plain : ¬ (zfk (sL S) (st S) = 47 ∨ zfk (sL S) (st S) = 46) → pX7_read_206 G post Bm v1 1 M5 := by
      intro hk
      have hl : zfl (sL S) (st S) = zfe (sL S) (st S) := by
        unfold zfl
        rw [if_neg cg.1, if_neg (fun q => hk (Or.inl q)), if_neg (fun q => hk (Or.inr q))]
      have hff : zff (sL S) (st S) = if zfe (sL S) (st S) < sL S then some (zfe (sL S) (st S)) else none := by
        unfold zff
        rw [if_neg cg.1, if_neg (fun q => hk q.1), hl]
      refine r7_rd206 k5 r5 z5 a11 (by omega) hv1 (fun _ q => ?_) (fun q => ?_) (fun _ => ?_) l50 l51 hp
      · rw [hff, if_neg (by omega)]
      · rw [hff, if_pos]
        rcases q with q | q
        · exact absurd q (by decide)
        · omega
      · unfold ztN ztD
        rw [if_neg (fun q => hk (Or.inr q)), if_neg (fun q => hk (Or.inl q)), if_neg (fun q => hk (Or.inr q))]
        exact ⟨a0', a1'⟩
    have p129 : ¬ zfk (sL S) (st S) = 47 → pX7_read_129 G post Bm v1 1 M5 := by
      intro h47
      unfold pX7_read_129
      refine ⟨fun y => absurd y (by decide), fun _ => r7_g11 k5 (r7_g6 k5 ?_)⟩
      rw [a11, e6']
      refine ⟨fun y => plain (fun q => ?_), fun y => ?_⟩
      · have y' := (nI_leI (by omega) (by omega)).mp y
        unfold zfk at q
        rw [if_neg (by omega)] at q
        omega
      · have y' : zfe (sL S) (st S) < sL S := by
          rcases Nat.lt_or_ge (zfe (sL S) (st S)) (sL S) with c | c
          · exact c
          · exact absurd ((nI_leI (by omega) (by omega)).mpr c) y
        have ek : zfk (sL S) (st S) = st S (zfe (sL S) (st S)) := if_pos y'
        obtain ⟨t1, t2⟩ := t6' _ y'
        refine r7_ga k5 5 (b := 5) (by decide) (r7_g11 k5 (r7_Rtape k5 a11 (by omega) ?_))
        rw [t1]
        have e46 : nI (st S (zfe (sL S) (st S))) = (46 : Int32) ↔ st S (zfe (sL S) (st S)) = 46 := nI_eq (b := 46) (by omega) (by decide)
        refine ⟨fun z => plain (fun q => ?_), fun z => r7_g11 k5 (r7_p11 k5 (fun M6 k6 => r7_g12 k6 ⟨zP_o k6, ?_⟩))⟩
        · rcases q with q | q
          · exact h47 q
          · rw [ek] at q
            exact z (e46.mpr q)
        · have h46 : zfk (sL S) (st S) = 46 := by rw [ek]; exact e46.mp z
          have hl : zfl (sL S) (st S) = zef (sL S) (st S) (160 - (zfe (sL S) (st S) - zfs (sL S) (st S))) (zfe (sL S) (st S) + 1) := by
            unfold zfl
            rw [if_neg cg.1, if_neg h47, if_pos h46]
          have r6 : zRn (upd ι5 11 (ι5 11 + 1)) α K S := zRn_ι r5 (pk_un (by decide)) (pk_un (by decide))
          refine r7_tf k6 r6 0 (i := zfe (sL S) (st S) + 1) (m := 160 - (zfe (sL S) (st S) - zfs (sL S) (st S))) (by omega) (by omega) (by rw [pk_us, a11, nI_1]) (by rw [pk_un (by decide), a12]; congr 1; omega) (by rw [show 160 - (160 - (zfe (sL S) (st S) - zfs (sL S) (st S))) = 160 - m5 by omega]; exact al) (fun M7 ι7 ρ7 m7 k7 r7 b11 bm b12 bc b0 bl bf bz => ?_)
          rw [← hl] at b11 bc b0 ⊢
          obtain ⟨w1, w2, w3, w4⟩ := zT_last (L := sL S) (t := st S) l6 cg.1 (Or.inr h46)
          rw [pk_un (by decide), a12]
          have b1' : ρ7 1 = 1 := (bf 1 (by decide)).trans a1'
          have z7 : ι7 0 = 0 := by rw [bz, pk_un (by decide)]; exact z5
          refine ⟨zfl (sL S) (st S) - (zfe (sL S) (st S) + 1) + 1, ?_⟩
          refine r7_tenL (to := 160 - m7) (v := 10 ^ (zfl (sL S) (st S) - (zfe (sL S) (st S) + 1))) (ρ0 := ρ7) (by omega) (Nat.pow_le_pow_right (by decide) (by omega)) b12 (fun M8 ρ8 k8 c1 co => ?_) _ (160 - m5) M7 ρ7 (by omega) k7 (by rw [b1', Nat.one_mul]) (fun _ _ => rfl)
          have hff : zff (sL S) (st S) = if zfl (sL S) (st S) = zfe (sL S) (st S) + 1 then some (zfl (sL S) (st S)) else if zfl (sL S) (st S) < sL S then some (zfl (sL S) (st S)) else none := by
            unfold zff
            rw [if_neg cg.1]
            by_cases q : zfl (sL S) (st S) = zfe (sL S) (st S) + 1
            · rw [if_pos ⟨Or.inr h46, q⟩, if_pos q]
            · rw [if_neg (fun w => q w.2), if_neg q]
          refine r7_rd206 k8 r7 z7 b11 (by omega) hv1 (fun q q' => ?_) (fun q => ?_) (fun _ => ?_) ?_ ?_ hp
          · have q2 : zfl (sL S) (st S) ≠ zfe (sL S) (st S) + 1 := fun w => q (if_neg (fun w2 => w2.1 w))
            rw [hff, if_neg q2, if_neg (by omega)]
          · rw [hff]
            by_cases q2 : zfl (sL S) (st S) = zfe (sL S) (st S) + 1
            · rw [if_pos q2]
            · rw [if_neg q2, if_pos]
              rcases q with q | q
              · by_cases q3 : zfl (sL S) (st S) < sL S
                · exact q3
                · rw [if_pos ⟨q2, fun w => q3 w.1⟩] at q
                  exact absurd q (by decide)
              · omega
          · unfold ztN ztD
            rw [if_pos h46, if_neg h47, if_pos h46]
            refine ⟨?_, c1⟩
            rw [co 0 (by decide), b0, a0']
          · rw [co 0 (by decide)]
            exact Nat.lt_trans bl (zp10 (by omega))
          · rw [c1]
            exact zp10 (by omega)
    refine ⟨fun y => p129 (fun q => ?_), fun y => ?_⟩
    · have y' := (nI_leI (by omega) (by omega)).mp y
      unfold zfk at q
      rw [if_neg (by omega)] at q
      omega
    · have y' : zfe (sL S) (st S) < sL S := by
        rcases Nat.lt_or_ge (zfe (sL S) (st S)) (sL S) with c | c
        · exact c
        · exact absurd ((nI_leI (by omega) (by omega)).mpr c) y
      have ek : zfk (sL S) (st S) = st S (zfe (sL S) (st S)) := if_pos y'
      obtain ⟨t1, t2⟩ := t6' _ y'
      refine r7_ga k5 5 (b := 5) (by decide) (r7_g11 k5 (r7_Rtape k5 a11 (by omega) ?_))
      rw [t1]
      have e47 : nI (st S (zfe (sL S) (st S))) = (47 : Int32) ↔ st S (zfe (sL S) (st S)) = 47 := nI_eq (b := 47) (by omega) (by decide)
      refine ⟨fun z => p129 (fun q => z (e47.mpr (by rw [← ek]; exact q))), fun z => r7_g11 k5 (r7_p11 k5 (fun M6 k6 => ⟨zP_o k6, r7_small k6 1 (fun M7 k7 => r7_p12 k7 (fun M8 k8 => ⟨zP_o k8, ?_⟩))⟩))⟩
      have h47 : zfk (sL S) (st S) = 47 := by rw [ek]; exact e47.mp z
      have hl : zfl (sL S) (st S) = zef (sL S) (st S) 160 (zfe (sL S) (st S) + 1) := by
        unfold zfl
        rw [if_neg cg.1, if_pos h47]
      have r8 : zRn (upd (upd ι5 11 (ι5 11 + 1)) 12 0) α K S := zRn_ι r5 (by rw [pk_un (by decide), pk_un (by decide)]) (by rw [pk_un (by decide), pk_un (by decide)])
      refine r7_tf k8 r8 1 (i := zfe (sL S) (st S) + 1) (m := 160) (by decide) (by omega) (by rw [pk_un (by decide), pk_us, a11, nI_1]) pk_us (by show (0 : Nat) < 10 ^ 0; decide) (fun M9 ι9 ρ9 m9 k9 r9 b11 bm b12 bc b1 bl bf bz => ?_)
      rw [← hl] at b11 bc b1 ⊢
      obtain ⟨w1, w2, w3, w4⟩ := zT_last (L := sL S) (t := st S) l6 cg.1 (Or.inl h47)
      have z9 : ι9 0 = 0 := by rw [bz, pk_un (by decide), pk_un (by decide)]; exact z5
      have b0' : ρ9 0 = ρ5 0 := bf 0 (by decide)
      have hff : zff (sL S) (st S) = if zfl (sL S) (st S) = zfe (sL S) (st S) + 1 then some (zfl (sL S) (st S)) else if zfl (sL S) (st S) < sL S then some (zfl (sL S) (st S)) else none := by
        unfold zff
        rw [if_neg cg.1]
        by_cases q : zfl (sL S) (st S) = zfe (sL S) (st S) + 1
        · rw [if_pos ⟨Or.inl h47, q⟩, if_pos q]
        · rw [if_neg (fun w => q w.2), if_neg q]
      refine r7_rd206 k9 r9 z9 b11 (by omega) hv1 (fun q q' => ?_) (fun q => ?_) (fun _ => ?_) ?_ ?_ hp
      · have q2 : zfl (sL S) (st S) ≠ zfe (sL S) (st S) + 1 := fun w => q (if_neg (fun w2 => w2.1 w))
        rw [hff, if_neg q2, if_neg (by omega)]
      · rw [hff]
        by_cases q2 : zfl (sL S) (st S) = zfe (sL S) (st S) + 1
        · rw [if_pos q2]
        · rw [if_neg q2, if_pos]
          rcases q with q | q
          · by_cases q3 : zfl (sL S) (st S) < sL S
            · exact q3
            · rw [if_pos ⟨q2, fun w => q3 w.1⟩] at q
              exact absurd q (by decide)
          · omega
      · unfold ztN ztD
        rw [if_neg (by omega), if_pos h47]
        exact ⟨b0'.trans a0', b1⟩
      · rw [b0']
        exact l50
      · exact Nat.lt_trans bl (zp10 (by omega))
  · rw [if_neg cg]
    refine ⟨fun _ => ?_, fun y => absurd rfl y⟩
    have hff : zff (sL S) (st S) = some (zfe (sL S) (st S)) := by
      unfold zff
      by_cases q : zfe (sL S) (st S) = zfs (sL S) (st S)
      · rw [if_pos q, q]
      · have q2 : zfe (sL S) (st S) < sL S ∧ 48 ≤ st S (zfe (sL S) (st S)) ∧ st S (zfe (sL S) (st S)) ≤ 57 := by
          by_cases c : zfe (sL S) (st S) < sL S ∧ 48 ≤ st S (zfe (sL S) (st S)) ∧ st S (zfe (sL S) (st S)) ≤ 57
          · exact c
          · exact absurd ⟨q, c⟩ cg
        have ek : zfk (sL S) (st S) = st S (zfe (sL S) (st S)) := if_pos q2.1
        have hl : zfl (sL S) (st S) = zfe (sL S) (st S) := by
          unfold zfl
          rw [if_neg q, if_neg (by omega), if_neg (by omega)]
        rw [if_neg q, if_neg (fun w => by have := w.1; omega), hl, if_pos q2.1]
    unfold pX7_read_129
    refine ⟨fun _ => ?_, fun y => absurd rfl y⟩
    exact r7_rd206 k5 r5 z5 a11 (by omega) hv1 (fun q => absurd rfl q) (fun _ => hff) (fun q => by rw [hff] at q; cases q) l50 l51 hp
theorem m7_read (h : zRM G Bm M0 M S t) (hp : ∀ M', zRM G Bm M0 M' (zo_read S).2 (zth (zo_read S).1) → post ((zo_read S).1.getD 0) M') : pX7_read G Bm post M := by
  obtain ⟨ι, α, K, ρ, h, r, _⟩ := h
  unfold pX7_read
  refine r7_thr h (fun M1 k1 => r7_p11 k1 (fun M2 k2 => r7_g6 k2 ?_))
  have r2 : zRn (upd (upd ι 0 0) 11 0) α K S := zRn_ι r (by rw [pk_un (by decide), pk_un (by decide)]) (by rw [pk_un (by decide), pk_un (by decide)])
  have z2 : upd (upd ι 0 0) 11 0 0 = 0 := by rw [pk_un (by decide), pk_us]
  obtain ⟨e6, l6, t6⟩ := r2.2.2.1
  have plus : ¬ (0 < sL S ∧ st S 0 = 45) → pX7_read_32 G post Bm M2 := by
    intro c
    have hs : zfs (sL S) (st S) = 0 := if_neg c
    unfold pX7_read_32 pX7_read_33
    exact ⟨fun _ => r7_rd44 k2 r2 z2 (by rw [hs]; rfl) (Or.inl ⟨rfl, by omega⟩) hp, fun y => absurd rfl y⟩
  rw [e6]
  refine ⟨fun y => plus (fun q => ?_), fun y => ?_⟩
  · have y' := (nI_leI (b := 0) (by omega) (by decide)).mp y
    omega
  · have y' : 0 < sL S := by
      rcases Nat.lt_or_ge 0 (sL S) with c | c
      · exact c
      · exact absurd ((nI_leI (b := 0) (by omega) (by decide)).mpr c) y
    obtain ⟨t1, t2⟩ := t6 0 y'
    refine r7_tape k2 (a := 0) rfl (by decide) ?_
    rw [t1]
    have e45 : nI (st S 0) = (45 : Int32) ↔ st S 0 = 45 := nI_eq (b := 45) (by omega) (by decide)
    refine ⟨fun z => plus (fun q => z (e45.mpr q.2)), fun z => ?_⟩
    have hs : zfs (sL S) (st S) = 1 := if_pos ⟨y', e45.mp z⟩
    unfold pX7_read_33
    exact ⟨fun w => absurd w (by decide), fun _ => r7_rd44 k2 r2 z2 (by rw [hs]; rfl) (Or.inr ⟨by decide, hs⟩) hp⟩
end R86
