/-! ===== THE CLASS'S CALLS: of, terms, term, part, best ===== -/
/-- of the head and p / q: sign and size -/
def zmx (s : Int32) (h p q : Nat) : Int32 × Nat := zsum s (h * q) 1 p
def zo_part (S : zS) (x n : Int32) : Int32 × zS := match zfd S x with
  | none => (-1, S)
  | some a => if n < 1 then (-1, S) else match zga (n.toInt.toNat - 1) (sD S a) (zrs (sS S a) (sN S a) (sD S a)) 0 1 1 0 with
    | none => (-1, S)
    | some (p, q) => if zF S < 24 then zkp S (zmx (sS S a) (zhd (sS S a) (sN S a) (sD S a)) p q).1 (zmx (sS S a) (zhd (sS S a) (sN S a) (sD S a)) p q).2 q else (-3, S)
/-- the nearest fraction of a bound, in parts behind the head -/
def zbs (bd D r : Nat) : Nat × Nat := match zsn bd 1024 D r 0 1 1 0 with
  | none => (r, D)
  | some (p, q, p', q') => zch r D p q p' q'
def zo_best (S : zS) (x : Int32) (bound : Int64) : Int32 × zS := match zfd S x with
  | none => (-1, S)
  | some a => if 1 ≤ bound then if zF S < 24 then if sD S a ≤ uN bound then zkp S (sS S a) (sN S a) (sD S a) else zkp S (zmx (sS S a) (zhd (sS S a) (sN S a) (sD S a)) (zbs (uN bound) (sD S a) (zrs (sS S a) (sN S a) (sD S a))).1 (zbs (uN bound) (sD S a) (zrs (sS S a) (sN S a) (sD S a))).2).1 (zmx (sS S a) (zhd (sS S a) (sN S a) (sD S a)) (zbs (uN bound) (sD S a) (zrs (sS S a) (sN S a) (sD S a))).1 (zbs (uN bound) (sD S a) (zrs (sS S a) (sN S a) (sD S a))).2).2 (zbs (uN bound) (sD S a) (zrs (sS S a) (sN S a) (sD S a))).2 else (-3, S) else (-1, S)
theorem zrs_lt {s : Int32} {N D : Nat} (hD : D ≠ 0) : zrs s N D < D := by
  have := Nat.mod_lt N (show 0 < D by omega)
  unfold zrs
  split
  · rename_i c
    have := c.2
    omega
  · exact this
theorem zhd_le {s : Int32} {N D : Nat} : zhd s N D ≤ N + 1 := by
  have := Nat.div_le_self N D
  unfold zhd
  split <;> omega
theorem zsum_s {s : Int32} {T U : Nat} (hs : s = 0 → T = 0) (hs2 : s = 0 ∨ s = 1 ∨ s = -1) : (zsum s T 1 U).1 = 1 ∨ (zsum s T 1 U).1 = -1 := by
  unfold zsum
  by_cases c : T = 0
  · rw [if_pos c]; exact Or.inl rfl
  · rw [if_neg c]
    by_cases c2 : s = 1
    · rw [if_pos c2]; exact Or.inl c2
    · rw [if_neg c2]
      by_cases c3 : T < U
      · rw [if_pos c3]; exact Or.inl rfl
      · rw [if_neg c3]
        refine Or.inr ?_
        rcases hs2 with z | z | z
        · exact absurd (hs z) c
        · exact absurd z c2
        · exact z
section O2
variable {G : Nat → ClassId} {B : Nat} {M0 M : zm_M} {σ : Nat → Nat} {τ : Nat → Int32} {π : Nat → Nat} {β : Nat → Nat → Int32} {S : zS} {post : Int32 → zm_M → Prop}
theorem zRC_h (k : zH G B M0 M σ τ π β) (r : zRr σ τ β S) : zRC G B M0 M S := by
  obtain ⟨σp, hc, hs, -⟩ := zH_p k
  exact ⟨σp, τ, π, β, hc, zRr_k r (fun l hl => hs l (by omega) (by omega)) (fun _ _ => rfl)⟩
theorem hXC (k : zH G B M0 M σ τ π β) {K : Nat → Prop} (hk : K (B + 137)) : zw_ga M B 9 4 K := by
  obtain ⟨σp, hc, -⟩ := zH_p k
  exact xC hc hk
theorem hXB (k : zH G B M0 M σ τ π β) {K : Nat → Prop} (hk : K (B + zo_r 24)) : zw_ga M B 9 3 (fun b => zw_ga M b 3 0 K) := by
  obtain ⟨σp, hc, -⟩ := zH_p k
  exact xB hc (bR hc hk)
theorem h6_isFull (k : zH G B M0 M σ τ π β) (r : zRr σ τ β S) (h0 : zF S < 24 → post 0 M) (h1 : ¬ zF S < 24 → post 1 M) : pX6_isFull G B post M := by
  obtain ⟨σp, hc, hs, -⟩ := zH_p k
  exact c6_isFull hc (zRr_k r (fun l hl => hs l (by omega) (by omega)) (fun _ _ => rfl)) h0 h1
theorem c6_of (h : zRC G B M0 M S) {x w : Int32} (hp : ∀ M', zRC G B M0 M' (zo_of S x w).2 → post (zo_of S x w).1 M') : pX6_of G B x w post M := by
  obtain ⟨σ, τ, π, β, h, r⟩ := h
  have hR : zRC G B M0 M S := ⟨σ, τ, π, β, h, r⟩
  unfold zo_of at hp
  unfold pX6_of
  have q : ∀ k : Int32, w = k ↔ w.toInt = k.toInt := fun k => Int32.toInt_inj.symm
  have q0 : w = 0 ↔ w.toInt = 0 := q 0
  have q1 : w = 1 ↔ w.toInt = 1 := q 1
  have q2 : w = 2 ↔ w.toInt = 2 := q 2
  have q3 : w = 3 ↔ w.toInt = 3 := q 3
  refine ⟨zC_xo h, c6_find' h r (fun e => ?_) (fun a e ha ht hx => ?_)⟩
  · rw [e] at hp
    exact hp M hR
  · rw [e] at hp
    simp only at hp
    obtain ⟨t1, t2, t3, t4⟩ := zRr_a r ha ht
    refine ⟨fun y => ?_, fun y => gR h a (by omega) ?_, fun y => ⟨zC_ro h a (by omega), c2_isWhole h a (by omega) ?_⟩, fun y => gT h a (by omega) ⟨zC_o h _ (by omega), c5_bits h _ (by omega) ?_⟩, fun y => gB h a (by omega) ⟨zC_o h _ (by omega), c5_bits h _ (by omega) ?_⟩⟩
    · rw [if_neg (by rw [q0]; omega), if_neg (by rw [q1]; omega), if_neg (by rw [q2]; omega), if_neg (by rw [q3]; omega)] at hp
      exact hp M hR
    · rw [if_pos (q0.mpr y)] at hp
      rw [t1]
      exact hp M hR
    · rw [if_neg (by rw [q0]; omega), if_pos (q1.mpr y)] at hp
      rw [t3]
      by_cases c : sD S a = 1
      · rw [if_pos c] at hp ⊢
        exact ⟨fun z => absurd z (by decide), fun _ => hp M hR⟩
      · rw [if_neg c] at hp ⊢
        exact ⟨fun _ => hp M hR, fun z => absurd rfl z⟩
    · rw [if_neg (by rw [q0]; omega), if_neg (by rw [q1]; omega), if_pos (q2.mpr y)] at hp
      rw [t2]
      exact hp M hR
    · rw [if_neg (by rw [q0]; omega), if_neg (by rw [q1]; omega), if_neg (by rw [q2]; omega), if_pos (q3.mpr y)] at hp
      rw [t3]
      exact hp M hR
/-- the chain of a number begins -/
theorem c6_begin (h : zC G B M0 M σ τ π β) (r : zRr σ τ β S) {a : Nat} (ha : a < 24) (ht : sT S a = true) {post : zm_M → Prop} (hp : ∀ (M' : zm_M) (σ' : Nat → Nat) (τ' : Nat → Int32), zH G B M0 M' σ' τ' π β → zRr σ' τ' β S → σ' 54 = zhd (sS S a) (sN S a) (sD S a) → σ' 55 = zrs (sS S a) (sN S a) (sD S a) → σ' 57 = sD S a → σ' 58 = zrs (sS S a) (sN S a) (sD S a) → τ' 25 = sS S a → σ' (2 * a + 1) = sD S a → post M') : pX1_begin G (B + 137) (B + zo_r a) post M := by
  obtain ⟨t1, t2, t3, t4⟩ := zRr_a r ha ht
  obtain ⟨σh, hk, f⟩ : ∃ σh, zH G B M0 M σh τ π β ∧ ∀ l, l < 57 → σh l = σ l := ⟨_, zH_c h, fun l hl => by
    show σ (zφ π l) = σ l
    rw [zφ_n (Or.inl hl)]⟩
  refine c1_begin hk a ha (by rw [f _ (by omega), t3]; exact t4.1) (fun M' σ' k e1 e2 e3 e4 hs => ?_)
  rw [f _ (by omega), f _ (by omega), t1, t2, t3] at e1 e2 e4
  rw [f _ (by omega), t3] at e3
  refine hp M' σ' _ k (zRr_k r (fun l hl => (hs l (by omega)).trans (f l (by omega))) (fun q hq => pk_un (by omega))) e1 e2 e3 e4 (by rw [pk_us]; exact t1) ?_
  rw [hs _ (by omega), f _ (by omega), t3]
theorem c6_terms (h : zRC G B M0 M S) {x : Int32} (hp : ∀ M', zRC G B M0 M' (zo_terms S x).2 → post (zo_terms S x).1 M') : pX6_terms G B x post M := by
  obtain ⟨σ, τ, π, β, h, r⟩ := h
  unfold zo_terms at hp
  unfold pX6_terms
  refine ⟨zC_xo h, c6_find' h r (fun e => ?_) (fun a e ha ht hx => xC h ⟨zC_co h, c6_begin h r ha ht (fun M1 σ1 τ1 k1 r1 e54 e55 e57 e58 e25 e2a => hXC k1 ⟨zH_co k1, c1_length k1 ?_ (fun M2 σ2 π2 k2 s2 => ?_)⟩)⟩)⟩
  · rw [e] at hp
    exact hp M ⟨σ, τ, π, β, h, r⟩
  · obtain ⟨t1, t2, t3, t4⟩ := zRr_a r ha ht
    rw [e58, p512]
    exact Nat.lt_trans (zrs_lt t4.1) t4.2.2.2.2
  · rw [e] at hp
    simp only at hp
    rw [e57, e58]
    exact hp M2 (zRC_h k2 (zRr_k r1 (fun l hl => s2 l (by omega)) (fun _ _ => rfl)))
theorem zgo_L {d X Y L L' : Nat} (hd : d ≠ 0) : zgo d X Y L = zgo d X Y L' := by
  cases d with
  | zero => exact absurd rfl hd
  | succ d => rfl
theorem c6_keepW (h : zC G B M0 M σ τ π β) (r : zRr σ τ β S) (hf : zF S < 24) {j : Nat} (hj : j < 67) (hj48 : 48 ≤ j) {s : Int32} (hs : σ j ≠ 0 → s = 1 ∨ s = -1) (hp : ∀ M', zRC G B M0 M' (zkp S s (σ j) 1).2 → post (zkp S s (σ j) 1).1 M') : pX2_becomeWhole G (B + zo_r 24) s (B + zo_w j) (fun M1 => zw_ob M1 B 9 ∧ pX6_keep G B (fun a b => post a b) M1) M := by
  refine c2_becomeWhole h 24 j (by decide) hj ?_ (fun M2 k2 => ⟨zC_xo k2, c6_keep k2 (zRr_k r (fun l hl => ?_) (fun q hq => pk_un (by omega))) hf (fun c => ?_) (fun c => ?_) ?_⟩)
  · have := zC_lt h j hj
    rw [zo_c36 hj48] at this
    exact this
  · rw [ux_n (by omega), ux_n (by omega)]
  · have : (1 : Nat) = 0 := c
    omega
  · rw [pk_us]
    exact hs c
  · have e48 : ux (ux σ (2 * 24) (σ j)) (2 * 24 + 1) 1 48 = σ j := rfl
    have e49 : ux (ux σ (2 * 24) (σ j)) (2 * 24 + 1) 1 49 = 1 := rfl
    rw [pk_us, e48, e49]
    exact hp
theorem c6_term (h : zRC G B M0 M S) {x i : Int32} (hp : ∀ M', zRC G B M0 M' (zo_term S x i).2 → post (zo_term S x i).1 M') : pX6_term G B x i post M := by
  obtain ⟨σ, τ, π, β, h, r⟩ := h
  unfold zo_term at hp
  unfold pX6_term
  refine ⟨zC_xo h, c6_find' h r (fun e => ?_) (fun a e ha ht hx => xC h ⟨zC_co h, c6_begin h r ha ht (fun M1 σ1 τ1 k1 r1 e54 e55 e57 e58 e25 e2a => hXC k1 ⟨zH_co k1, ?_⟩)⟩)⟩
  · rw [e] at hp
    exact hp M ⟨σ, τ, π, β, h, r⟩
  · obtain ⟨t1, t2, t3, t4⟩ := zRr_a r ha ht
    rw [e] at hp
    simp only at hp
    have qi : i < 0 ↔ i.toInt < 0 := i32_lt
    have qz : i = 0 ↔ i.toInt = 0 := Int32.toInt_inj.symm
    have hzl : zrs (sS S a) (sN S a) (sD S a) < 2 ^ 512 := by rw [p512]; exact Nat.lt_trans (zrs_lt t4.1) t4.2.2.2.2
    -- what goTo finds
    have hgo : 0 ≤ i.toInt → ∀ v, (i.toInt ≠ 0 → zgo i.toInt.toNat (σ1 57) (σ1 58) (σ1 56) = v) → (i.toInt ≠ 0 → zgo i.toInt.toNat (sD S a) (zrs (sS S a) (sN S a) (sD S a)) (zhd (sS S a) (sN S a) (sD S a)) = v) := by
      intro h0 v hv hne
      rw [← hv hne, e57, e58]
      exact zgo_L (by omega)
    refine c1_goTo k1 (by rw [e58]; exact hzl) (fun c => ⟨fun z => absurd rfl z, fun _ => ?_⟩) (fun c M2 σ2 π2 k2 g2 s2 => ⟨fun _ => ⟨zH_xo k2, ?_⟩, fun z => absurd z (by decide)⟩) (fun c M2 σ2 π2 k2 g2 s2 => ⟨fun z => absurd rfl z, fun _ => ?_⟩)
    · rw [if_pos (qi.mpr c)] at hp
      exact hp M1 (zRC_h k1 r1)
    · rw [if_neg (fun z => absurd (qi.mp z) (by omega))] at hp
      have r2 : zRr σ2 τ1 β S := zRr_k r1 (fun l hl => s2 l (by omega)) (fun _ _ => rfl)
      refine h6_isFull k2 r2 (fun hf => ⟨fun _ => ⟨fun y => ?_, fun y => ?_⟩, fun z => absurd rfl z⟩) (fun hf => ⟨fun z => absurd z (by decide), fun _ => ?_⟩)
      · have hne : i.toInt ≠ 0 := fun z => y (qz.mpr z)
        rw [hgo c _ (fun _ => g2) hne] at hp
        simp only at hp
        rw [if_pos hf, if_neg y] at hp
        obtain ⟨σp, hc, hs, -⟩ := zH_p k2
        have e56 : σp 56 = σ2 56 := hs 56 (by decide) (by decide)
        rw [← e56] at hp
        refine xB hc (bR hc (xC hc ⟨_, _, zC_c hc, rfl, zC_ro hc 24 (by decide), ?_⟩))
        exact c6_keepW hc (zRr_k r2 (fun l hl => hs l (by omega) (by omega)) (fun _ _ => rfl)) hf (j := 56) (by decide) (by decide) (fun _ => Or.inl rfl) hp
      · have hz : i.toInt = 0 := qz.mp y
        rw [hz] at hp
        have hgz : zgo (Int.toNat 0) (sD S a) (zrs (sS S a) (sN S a) (sD S a)) (zhd (sS S a) (sN S a) (sD S a)) = some (zhd (sS S a) (sN S a) (sD S a)) := rfl
        rw [hgz] at hp
        simp only at hp
        rw [if_pos hf, if_pos y] at hp
        obtain ⟨σp, hc, hs, -⟩ := zH_p k2
        have e54' : σp 54 = zhd (sS S a) (sN S a) (sD S a) := by rw [hs 54 (by decide) (by decide), s2 54 (by decide)]; exact e54
        rw [← e54'] at hp
        refine xB hc (bR hc (xC hc ⟨_, _, zC_c hc, rfl, xC hc ⟨_, _, zC_c hc, rfl, zC_ro hc 24 (by decide), ?_⟩⟩))
        rw [e25]
        refine c6_keepW hc (zRr_k r2 (fun l hl => hs l (by omega) (by omega)) (fun _ _ => rfl)) hf (j := 54) (by decide) (by decide) (fun z => ?_) hp
        rcases t4.2.2.1 with c2 | c2
        · exfalso
          rw [e54', c2.1, c2.2] at z
          have h1 : ¬ ((0 : Int32) < 0 ∧ 0 % sD S a ≠ 0) := fun q => absurd q.1 (by decide)
          unfold zhd at z
          rw [if_neg h1, Nat.zero_div] at z
          exact z rfl
        · exact c2.1
      · have hfin : ∀ o, zgo i.toInt.toNat (sD S a) (zrs (sS S a) (sN S a) (sD S a)) (zhd (sS S a) (sN S a) (sD S a)) = some o → post (-3) M2 := by
          intro o ho
          rw [ho] at hp
          simp only at hp
          rw [if_neg hf] at hp
          exact hp M2 (zRC_h k2 r2)
        by_cases hne : i.toInt = 0
        · rw [hne] at hfin
          exact hfin _ rfl
        · exact hfin _ (hgo c _ (fun _ => g2) hne)
    · rw [if_neg (fun z => absurd (qi.mp z) (by omega))] at hp
      have hne : i.toInt ≠ 0 := fun z => by
        rw [z] at g2
        cases g2
      rw [hgo c _ (fun _ => g2) hne] at hp
      exact hp M2 (zRC_h k2 (zRr_k r1 (fun l hl => s2 l (by omega)) (fun _ _ => rfl)))
theorem zmx_s {s : Int32} {N D p q : Nat} (h : zgd s N D) : (zmx s (zhd s N D) p q).1 = 1 ∨ (zmx s (zhd s N D) p q).1 = -1 := by
  unfold zmx
  refine zsum_s (fun e => ?_) ?_
  · rcases h.2.2.1 with c | c
    · rw [c.1, c.2]
      have h1 : ¬ ((0 : Int32) < 0 ∧ 0 % D ≠ 0) := fun q => absurd q.1 (by decide)
      unfold zhd
      rw [if_neg h1, Nat.zero_div, Nat.zero_mul]
    · rcases c.1 with z | z <;> (rw [e] at z; exact absurd z (by decide))
  · rcases h.2.2.1 with c | c
    · exact Or.inl c.1
    · exact Or.inr c.1
/-- head and p / q, and the result is kept -/
theorem c6_tell (k : zH G B M0 M σ τ π β) (r : zRr σ τ β S) (hf : zF S < 24) {a : Nat} (hg : zgd (sS S a) (sN S a) (sD S a)) (e54 : σ 54 = zhd (sS S a) (sN S a) (sD S a)) (e25 : τ 25 = sS S a) (hq0 : σ 60 ≠ 0) (hq : σ 60 < 4294967296 ^ 16) (hpp : σ 59 < 4294967296 ^ 16) (hp : ∀ M', zRC G B M0 M' (zkp S (zmx (sS S a) (zhd (sS S a) (sN S a) (sD S a)) (σ 59) (σ 60)).1 (zmx (sS S a) (zhd (sS S a) (sN S a) (sD S a)) (σ 59) (σ 60)).2 (σ 60)).2 → post (zkp S (zmx (sS S a) (zhd (sS S a) (sN S a) (sD S a)) (σ 59) (σ 60)).1 (zmx (sS S a) (zhd (sS S a) (sN S a) (sD S a)) (σ 59) (σ 60)).2 (σ 60)).1 M') : pX1_tell G (B + 137) (B + zo_r 24) (fun M1 => zw_ob M1 B 9 ∧ pX6_keep G B (fun a b => post a b) M1) M := by
  have hh : σ 54 * σ 60 + σ 59 < 4294967296 ^ 36 := by
    have h1 : σ 54 ≤ 4294967296 ^ 16 := by
      rw [e54]
      have := zhd_le (s := sS S a) (N := sN S a) (D := sD S a)
      have := hg.2.2.2.1
      omega
    have h2 : σ 54 * σ 60 ≤ 4294967296 ^ 16 * 4294967296 ^ 16 := Nat.mul_le_mul h1 (Nat.le_of_lt hq)
    have h3 : 4294967296 ^ 16 * 4294967296 ^ 16 + 4294967296 ^ 16 < 4294967296 ^ 36 := by decide
    omega
  have hz := zmx_s (p := σ 59) (q := σ 60) hg
  refine c1_tell k hh (fun M' σ' k' f48 f49 s' => ⟨zC_xo k', c6_keep k' (zRr_k r s' (fun q hq => pk_un (by omega))) hf (by rw [f49]; exact hq0) (fun _ => ?_) ?_⟩)
  · rw [pk_us, e25, e54]
    exact hz
  · rw [pk_us, f48, f49, e25, e54]
    exact hp
/-- sizes of what d terms make -/
theorem zga_le : ∀ {d X Y p q p0 q0 P Q : Nat} {r : Nat × Nat}, p * X + p0 * Y = P → q * X + q0 * Y = Q → q ≠ 0 → Y < X → zga d X Y p q p0 q0 = some r → r.1 ≤ P ∧ r.2 ≤ Q ∧ r.2 ≠ 0
  | 0, X, Y, p, q, p0, q0, P, Q, r, h1, h2, h3, h4, he => by
    have : (p, q) = r := Option.some.inj he
    subst this
    have a1 : p * 1 ≤ p * X := Nat.mul_le_mul_left _ (by omega)
    have a2 : q * 1 ≤ q * X := Nat.mul_le_mul_left _ (by omega)
    exact ⟨by omega, by omega, h3⟩
  | d + 1, X, Y, p, q, p0, q0, P, Q, r, h1, h2, h3, h4, he => by
    unfold zga at he
    by_cases c : Y = 0
    · rw [if_pos c] at he; cases he
    · rw [if_neg c] at he
      have ht1 : 1 ≤ X / Y := (Nat.le_div_iff_mul_le (by omega)).mpr (by omega)
      have hq : 1 * q ≤ X / Y * q := Nat.mul_le_mul_right _ ht1
      exact zga_le (zga_b c h1).1 (zga_b c h2).1 (by omega) (Nat.mod_lt _ (by omega)) he
theorem c6_part (h : zRC G B M0 M S) {x n : Int32} (hp : ∀ M', zRC G B M0 M' (zo_part S x n).2 → post (zo_part S x n).1 M') : pX6_part G B x n post M := by
  obtain ⟨σ, τ, π, β, h, r⟩ := h
  unfold zo_part at hp
  unfold pX6_part
  refine ⟨zC_xo h, c6_find' h r (fun e => ?_) (fun a e ha ht hx => xC h ⟨zC_co h, c6_begin h r ha ht (fun M1 σ1 τ1 k1 r1 e54 e55 e57 e58 e25 e2a => hXC k1 ⟨zH_co k1, ?_⟩)⟩)⟩
  · rw [e] at hp
    exact hp M ⟨σ, τ, π, β, h, r⟩
  · obtain ⟨t1, t2, t3, t4⟩ := zRr_a r ha ht
    rw [e] at hp
    simp only at hp
    have qi : n < 1 ↔ n.toInt < 1 := Int32.lt_iff_toInt_lt
    have hzl := zrs_lt (s := sS S a) (N := sN S a) t4.1
    have hDl := t4.2.2.2.2
    refine c1_gather k1 (by rw [e57]; exact hDl) (by rw [e58]; omega) (fun c => ⟨fun z => absurd rfl z, fun _ => ?_⟩) (fun c M2 σ2 π2 k2 g2 s2 => ⟨fun _ => ⟨zH_xo k2, ?_⟩, fun z => absurd z (by decide)⟩) (fun c M2 σ2 π2 k2 g2 s2 => ⟨fun z => absurd rfl z, fun _ => ?_⟩)
    · rw [if_pos (qi.mpr c)] at hp
      exact hp M1 (zRC_h k1 r1)
    · rw [e57, e58] at g2
      have r2 : zRr σ2 τ1 β S := zRr_k r1 (fun l hl => s2 l (by omega)) (fun _ _ => rfl)
      rw [if_neg (fun z => absurd (qi.mp z) (by omega)), g2] at hp
      simp only at hp
      obtain ⟨b1, b2, b3⟩ := zga_le (P := zrs (sS S a) (sN S a) (sD S a)) (Q := sD S a) (by omega) (by omega) (by decide) hzl g2
      refine h6_isFull k2 r2 (fun hf => ⟨fun _ => hXC k2 (hXB k2 ⟨zH_co k2, ?_⟩), fun z => absurd rfl z⟩) (fun hf => ⟨fun z => absurd z (by decide), fun _ => ?_⟩)
      · rw [if_pos hf] at hp
        exact c6_tell k2 r2 hf t4 ((s2 54 (by decide)).trans e54) e25 b3 (Nat.lt_of_le_of_lt b2 hDl) (by show (σ2 59, σ2 60).1 < _; omega) hp
      · rw [if_neg hf] at hp
        exact hp M2 (zRC_h k2 r2)
    · rw [e57, e58] at g2
      rw [if_neg (fun z => absurd (qi.mp z) (by omega)), g2] at hp
      exact hp M2 (zRC_h k2 (zRr_k r1 (fun l hl => s2 l (by omega)) (fun _ _ => rfl)))
theorem zsn_le {bd D : Nat} : ∀ {m X Y p q p0 q0 : Nat} {r : Nat × Nat × Nat × Nat}, zsi bd D X Y p q p0 q0 → zsn bd m X Y p q p0 q0 = some r → r.1 ≤ bd ∧ r.2.1 ≤ bd ∧ r.2.1 ≠ 0 ∧ r.2.2.1 ≤ bd ∧ r.2.2.2 ≤ bd ∧ (r.2.2.2 = 0 → q0 = 0 ∧ (bd - q0) / q = 0)
  | 0, X, Y, p, q, p0, q0, r, h, he => by cases he
  | m + 1, X, Y, p, q, p0, q0, r, h, he => by
    unfold zsn at he
    obtain ⟨h1, h2, h3, h4, h5, h6, h7, h8⟩ := id h
    by_cases c : Y = 0
    · rw [if_pos c] at he; cases he
    · rw [if_neg c] at he
      by_cases c2 : (bd - q0) / q < X / Y
      · rw [if_pos c2] at he
        have := Option.some.inj he
        subst this
        obtain ⟨o1, o2⟩ := zsi_other h
        refine ⟨by show p ≤ bd; omega, h3, by show q ≠ 0; omega, o2, o1, fun z => ?_⟩
        have z : q0 + (bd - q0) / q * q = 0 := z
        have z2 : (bd - q0) / q * q = 0 := by omega
        rcases Nat.mul_eq_zero.mp z2 with y | y
        · exact ⟨by omega, y⟩
        · omega
      · rw [if_neg c2] at he
        obtain ⟨a1, a2, a3, a4, a5, a6⟩ := zsn_le (zsi_step h c (by omega)) he
        refine ⟨a1, a2, a3, a4, a5, fun z => ?_⟩
        have := (a6 z).1
        omega
end O2
