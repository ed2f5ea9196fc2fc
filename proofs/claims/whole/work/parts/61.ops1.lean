/-! ===== WHAT THE CALLS ANSWER, AND THE CLASS'S CALLS ===== -/
def zo_whole (S : zS) (v : Int64) : Int32 × zS := if zF S < 24 then zkp S (if 0 ≤ v then 1 else -1) (uN (if 0 ≤ v then v else -v)) 1 else (-3, S)
/-- the nearest whole number's size -/
def znr (s how : Int32) (N D : Nat) : Nat := if (how = 0 ∧ s < 0 ∧ N % D ≠ 0) ∨ (how = 1 ∧ 0 < s ∧ N % D ≠ 0) ∨ (how = 2 ∧ (D < 2 * (N % D) ∨ D = 2 * (N % D) ∧ N / D % 2 = 1)) then N / D + 1 else N / D
def zo_near (S : zS) (x how : Int32) : Int32 × zS := match zfd S x with
  | none => (-1, S)
  | some a => if 0 ≤ how ∧ how ≤ 3 then if zF S < 24 then zkp S (sS S a) (znr (sS S a) how (sN S a) (sD S a)) 1 else (-3, S) else (-1, S)
def zo_common (S : zS) (x y : Int32) : Int32 × zS := match zfd S x, zfd S y with
  | some a, some b => if sD S a = 1 ∧ sD S b = 1 then if zF S < 24 then zkp S 1 (Nat.gcd (sN S a) (sN S b)) 1 else (-3, S) else (-2, S)
  | _, _ => (-1, S)
def zdrop (S : zS) (a : Nat) : zS := (fun j => if j = a then false else sT S j, S.2)
def zo_drop (S : zS) (x : Int32) : Int32 × zS := match zfd S x with
  | none => (-1, S)
  | some a => (nI (zcn (sT (zdrop S a)) 24), zdrop S a)
def zo_count (S : zS) : Int32 × zS := (nI (zcn (sT S) 24), S)
def zo_compare (S : zS) (x y : Int32) : Int32 × zS := match zfd S x, zfd S y with
  | some a, some b => (if sS S a ≠ sS S b then if sS S a < sS S b then -1 else 1 else sS S a * (if sN S a * sD S b < sN S b * sD S a then -1 else if sN S a * sD S b = sN S b * sD S a then 0 else 1), S)
  | _, _ => (-1, S)
def zo_of (S : zS) (x what : Int32) : Int32 × zS := match zfd S x with
  | none => (-1, S)
  | some a => (if what = 0 then sS S a else if what = 1 then (if sD S a = 1 then 1 else 0) else if what = 2 then nI (zbl (sN S a)) else if what = 3 then nI (zbl (sD S a)) else -1, S)
def zo_terms (S : zS) (x : Int32) : Int32 × zS := match zfd S x with
  | none => (-1, S)
  | some a => (nI (1 + zsl 1024 (sD S a) (zrs (sS S a) (sN S a) (sD S a))), S)
def zo_term (S : zS) (x i : Int32) : Int32 × zS := match zfd S x with
  | none => (-1, S)
  | some a => if i < 0 then (-1, S) else match zgo i.toInt.toNat (sD S a) (zrs (sS S a) (sN S a) (sD S a)) (zhd (sS S a) (sN S a) (sD S a)) with
    | none => (-1, S)
    | some t => if zF S < 24 then zkp S (if i = 0 then sS S a else 1) t 1 else (-3, S)
section O1
variable {G : Nat → ClassId} {B : Nat} {M0 M : zm_M} {σ : Nat → Nat} {τ : Nat → Int32} {π : Nat → Nat} {β : Nat → Nat → Int32} {S : zS} {post : Int32 → zm_M → Prop}
theorem c6_find' (h : zC G B M0 M σ τ π β) (r : zRr σ τ β S) {x : Int32} {P : zm_M → Prop} {Q : Nat → zm_M → Prop} (h0 : zfd S x = none → P M) (h1 : ∀ a, zfd S x = some a → a < 24 → sT S a = true → x = nI a → Q (B + zo_r a) M) : pX6_find G B x (fun r2 M1 => (r2 = none → P M1) ∧ (∀ a3 : Nat, r2 = some a3 → Q a3 M1)) M := by
  refine c6_find h r (fun e => ⟨fun _ => h0 e, fun a q => (by cases q)⟩) (fun a e => ⟨fun q => (by cases q), fun a3 q => ?_⟩)
  cases q
  obtain ⟨q1, q2, q3⟩ := zfd_s e
  exact h1 a e q1 q2 q3
/-- what is known of a number that is there -/
theorem zRr_a (r : zRr σ τ β S) {a : Nat} (ha : a < 24) (ht : sT S a = true) : τ a = sS S a ∧ σ (2 * a) = sN S a ∧ σ (2 * a + 1) = sD S a ∧ zgd (sS S a) (sN S a) (sD S a) := by
  obtain ⟨z1, z2, z3⟩ := r.2.1 a ha ht
  exact ⟨z1, z2, z3, r.2.2.2.2.2 a ha ht⟩
theorem c6_whole (h : zRC G B M0 M S) {v : Int64} (hp : ∀ M', zRC G B M0 M' (zo_whole S v).2 → post (zo_whole S v).1 M') : pX6_whole G B v post M := by
  obtain ⟨σ, τ, π, β, h, r⟩ := h
  have fin : ∀ (s : Int32) (x : Int64), s = (if 0 ≤ v then 1 else -1) → x = (if 0 ≤ v then v else -v) → zF S < 24 → pX6_whole_40 G post B (B + zo_r 24) s x M := by
    intro s x hs hx hf
    unfold pX6_whole_40
    refine ⟨zC_ro h 24 (by decide), c2_become h 24 (by decide) rfl (fun M1 k1 => ⟨zC_xo k1, c6_keep k1 (zRr_k r (fun l hl => ?_) (fun q hq => pk_un (by omega))) hf (fun e => ?_) (fun _ => ?_) ?_⟩)⟩
    · rw [ux_n (by omega), ux_n (by omega)]
    · have : (1 : Nat) = 0 := e
      omega
    · rw [pk_us, hs]
      by_cases c : (0 : Int64) ≤ v
      · rw [if_pos c]; exact Or.inl rfl
      · rw [if_neg c]; exact Or.inr rfl
    · unfold zo_whole at hp
      rw [if_pos hf, ← hs, ← hx] at hp
      rw [pk_us]
      exact hp
  unfold pX6_whole
  refine ⟨zC_xo h, c6_isFull h r (fun hf => ⟨fun _ => xB h (bR h ⟨fun y => ?_, fun y => ?_⟩), fun y => absurd rfl y⟩) (fun hf => ⟨fun y => absurd y (by decide), fun _ => ?_⟩)⟩
  · unfold pX6_whole_28
    exact ⟨fun _ => fin 1 v (if_pos y).symm (if_pos y).symm hf, fun z => absurd y z⟩
  · unfold pX6_whole_28
    exact ⟨fun z => absurd z y, fun _ => fin (-1) (-v) (if_neg y).symm (if_neg y).symm hf⟩
  · unfold zo_whole at hp
    rw [if_neg hf] at hp
    exact hp M ⟨σ, τ, π, β, h, r⟩
theorem znr_0 {how : Int32} {D : Nat} (hD : D ≠ 0) : znr 0 how 0 D = 0 := by
  unfold znr
  rw [Nat.zero_mod, Nat.zero_div]
  rw [if_neg (fun c => by rcases c with c | c | c <;> omega)]
theorem c6_near (h : zRC G B M0 M S) {x how : Int32} (hp : ∀ M', zRC G B M0 M' (zo_near S x how).2 → post (zo_near S x how).1 M') : pX6_near G B x how post M := by
  obtain ⟨σ, τ, π, β, h, r⟩ := h
  have hR : zRC G B M0 M S := ⟨σ, τ, π, β, h, r⟩
  unfold zo_near at hp
  unfold pX6_near
  have q0 : (0 : Int32) ≤ how ↔ ¬ how < 0 := by rw [Int32.not_lt]
  refine ⟨zC_xo h, c6_find' h r (fun e => ?_) (fun a e ha ht hx => ?_)⟩
  · rw [e] at hp
    exact hp M hR
  · rw [e] at hp
    simp only at hp
    obtain ⟨t1, t2, t3, t4⟩ := zRr_a r ha ht
    refine ⟨fun y => ?_, fun y => ⟨fun z => ⟨zC_xo h, c6_isFull h r (fun hf => ⟨fun _ => xB h ⟨zC_bo h, c0_wholeNear h a ha (by rw [t3]; exact t4.1) (fun M1 σ1 k1 e1 e2 e3 hs1 => ⟨zC_xo k1, c6_keep k1 (zRr_k r (fun l hl => hs1 l (Or.inl hl)) (fun q hq => pk_un (by omega))) hf (by rw [e3]; decide) (fun c => ?_) ?_⟩)⟩, fun y => absurd rfl y⟩) (fun hf => ⟨fun y => absurd y (by decide), fun _ => ?_⟩)⟩, fun z => ?_⟩⟩
    · rw [if_neg (fun c => (q0.mp c.1) y)] at hp
      exact hp M hR
    · rw [pk_us, t1]
      rcases t4.2.2.1 with c2 | c2
      · exfalso
        have hz : ¬ zaw (τ a) how (σ (2 * a) / σ (2 * a + 1)) (σ (2 * a) % σ (2 * a + 1)) (σ (2 * a + 1)) := by
          rw [t1, t2, t3, c2.1, c2.2, Nat.zero_mod, Nat.zero_div]
          unfold zaw
          intro c3
          have := t4.1
          rcases c3 with c3 | c3 | c3 <;> omega
        rw [e2 hz, t2, c2.2, Nat.zero_div] at c
        exact c rfl
      · exact c2.1
    · rw [if_pos ⟨q0.mpr y, z⟩, if_pos hf] at hp
      have e48 : σ1 48 = znr (sS S a) how (sN S a) (sD S a) := by
        unfold znr
        rw [t1, t2, t3] at e1 e2
        unfold zaw at e1 e2
        split
        · rename_i c; exact e1 c
        · rename_i c; exact e2 c
      rw [pk_us, t1, e48, e3]
      exact hp
    · rw [if_pos ⟨q0.mpr y, z⟩, if_neg hf] at hp
      exact hp M hR
    · rw [if_neg (fun c => z c.2)] at hp
      exact hp M hR
theorem c6_common (h : zRC G B M0 M S) {x y : Int32} (hp : ∀ M', zRC G B M0 M' (zo_common S x y).2 → post (zo_common S x y).1 M') : pX6_common G B x y post M := by
  obtain ⟨σ, τ, π, β, h, r⟩ := h
  have hR : zRC G B M0 M S := ⟨σ, τ, π, β, h, r⟩
  unfold zo_common at hp
  unfold pX6_common
  refine ⟨zC_xo h, c6_find' h r (fun e => ⟨zC_xo h, c6_find' h r (fun e2 => ?_) (fun b e2 hb htb hxb => ?_)⟩) (fun a e ha ht hx => ⟨zC_xo h, c6_find' h r (fun e2 => ?_) (fun b e2 hb htb hxb => ?_)⟩)⟩
  · rw [e, e2] at hp; exact hp M hR
  · rw [e, e2] at hp; exact hp M hR
  · rw [e, e2] at hp; exact hp M hR
  · rw [e, e2] at hp
    simp only at hp
    obtain ⟨t1, t2, t3, t4⟩ := zRr_a r ha ht
    obtain ⟨u1, u2, u3, u4⟩ := zRr_a r hb htb
    refine ⟨zC_ro h a (by omega), c2_isWhole h a (by omega) ?_⟩
    rw [t3]
    by_cases c1 : sD S a = 1
    · rw [if_pos c1]
      refine ⟨fun q => absurd q (by decide), fun _ => ⟨zC_ro h b (by omega), c2_isWhole h b (by omega) ?_⟩⟩
      rw [u3]
      by_cases c2 : sD S b = 1
      · rw [if_pos c2]
        rw [if_pos ⟨c1, c2⟩] at hp
        refine ⟨fun _ => ⟨zC_xo h, c6_isFull h r (fun hf => ⟨fun _ => xB h (bR h (xB h (gT h a (by omega) (gT h b (by omega) ⟨zC_bo h, c0_gd h (2 * a) (2 * b) (by omega) (by omega) (by omega) (fun M1 σ1 i hi k1 hg hs1 => ⟨_, rfl, zC_ro k1 24 (by decide), c2_becomeWhole k1 24 i (by decide) (by omega) ?_ (fun M2 k2 => ⟨zC_xo k2, c6_keep k2 (zRr_k r (fun l hl => ?_) (fun q hq => pk_un (by omega))) hf (fun c => ?_) (fun _ => Or.inl pk_us) ?_⟩)⟩)⟩)))), fun q => absurd rfl q⟩) (fun hf => ⟨fun q => absurd q (by decide), fun _ => ?_⟩)⟩, fun q => absurd q (by decide)⟩
        · have := zC_lt k1 i (by omega)
          rw [zo_c36 (by omega)] at this
          exact this
        · rw [ux_n (by omega), ux_n (by omega), hs1 l (by omega) (by omega) (by omega)]
        · have : (1 : Nat) = 0 := c
          omega
        · rw [if_pos hf] at hp
          have e48 : ux (ux σ1 (2 * 24) (σ1 i)) (2 * 24 + 1) 1 48 = Nat.gcd (sN S a) (sN S b) := by
            show σ1 i = _
            rw [hg, t2, u2]
          have e49 : ux (ux σ1 (2 * 24) (σ1 i)) (2 * 24 + 1) 1 49 = 1 := rfl
          rw [pk_us, e48, e49]
          exact hp
        · rw [if_neg hf] at hp
          exact hp M hR
      · rw [if_neg c2]
        rw [if_neg (fun c => c2 c.2)] at hp
        exact ⟨fun q => absurd rfl q, fun _ => hp M hR⟩
    · rw [if_neg c1]
      rw [if_neg (fun c => c1 c.1)] at hp
      exact ⟨fun _ => hp M hR, fun q => absurd rfl q⟩
theorem c6_count (h : zRC G B M0 M S) (hp : ∀ M', zRC G B M0 M' (zo_count S).2 → post (zo_count S).1 M') : pX6_count G B post M := by
  obtain ⟨σ, τ, π, β, h, r⟩ := h
  unfold pX6_count
  refine ⟨_, _, zC_x h, rfl, ?_⟩
  rw [r.2.2.1]
  exact hp M ⟨σ, τ, π, β, h, r⟩
theorem c6_drop (h : zRC G B M0 M S) {x : Int32} (hp : ∀ M', zRC G B M0 M' (zo_drop S x).2 → post (zo_drop S x).1 M') : pX6_drop G B x post M := by
  obtain ⟨σ, τ, π, β, h, r⟩ := h
  have hR : zRC G B M0 M S := ⟨σ, τ, π, β, h, r⟩
  unfold zo_drop at hp
  unfold pX6_drop
  refine ⟨zC_xo h, c6_find' h r (fun e => ?_) (fun a e ha ht hx => ⟨_, _, zC_x h, rfl, _, _, zC_tk h, ?_, ?_⟩)⟩
  · rw [e] at hp
    exact hp M hR
  · rw [hx]
    exact vp_in_nI ha (by omega)
  · rw [e] at hp
    simp only at hp
    rw [hx, nI_clamp (by omega), show vp_nar .boolean (0 : Int32) = 0 from rfl]
    have k1 := zC_ptk h (upd (β 0) a 0)
    have k2 := zC_pheld k1 (τ 26 - 1)
    refine ⟨_, _, zC_x k1, rfl, _, zC_x k1, (show 2 < 7 by decide), _, _, zC_x k2, rfl, ?_⟩
    rw [pk_us]
    have hcs := zcn_set (sT S) a false 24
    rw [if_pos ⟨ha, ht⟩, if_neg (fun c => by cases c.2)] at hcs
    have hc1 : zcn (sT (zdrop S a)) 24 = zcn (fun j => if j = a then false else sT S j) 24 := rfl
    have e26 : τ 26 - 1 = nI (zcn (sT (zdrop S a)) 24) := by
      rw [r.2.2.1, hc1, show zcn (sT S) 24 = zcn (fun j => if j = a then false else sT S j) 24 + 1 by omega]
      exact nI_pred _
    rw [e26] at k2 ⊢
    refine hp _ ⟨_, _, _, _, k2, ?_⟩
    obtain ⟨q1, q2, q3, q4, q5, q6⟩ := r
    refine ⟨fun b hb => ?_, fun b hb hxb => ?_, pk_us, ?_, ?_, fun b hb hxb => ?_⟩
    · rw [ub_s]
      show upd (β 0) a 0 b = if (if b = a then false else sT S b) = true then 1 else 0
      by_cases c : b = a
      · rw [c, pk_us, if_pos rfl, if_neg (by decide)]
      · rw [pk_un c, if_neg c]
        exact q1 b hb
    · have hxb : (if b = a then false else sT S b) = true := hxb
      by_cases c : b = a
      · rw [if_pos c] at hxb; cases hxb
      · rw [if_neg c] at hxb
        rw [pk_un (by omega)]
        exact q2 b hb hxb
    · refine ⟨(pk_un (by decide)).trans q4.1, q4.2.1, fun j hj => ?_⟩
      rw [ub_n (by decide)]
      exact q4.2.2 j hj
    · refine ⟨(pk_un (by decide)).trans q5.1, q5.2.1, fun j b hj => ?_⟩
      rw [ub_n (by decide)]
      exact q5.2.2 j b hj
    · have hxb : (if b = a then false else sT S b) = true := hxb
      by_cases c : b = a
      · rw [if_pos c] at hxb; cases hxb
      · rw [if_neg c] at hxb
        exact q6 b hb hxb
theorem c6_compare (h : zRC G B M0 M S) {x y : Int32} (hp : ∀ M', zRC G B M0 M' (zo_compare S x y).2 → post (zo_compare S x y).1 M') : pX6_compare G B x y post M := by
  obtain ⟨σ, τ, π, β, h, r⟩ := h
  have hR : zRC G B M0 M S := ⟨σ, τ, π, β, h, r⟩
  unfold zo_compare at hp
  unfold pX6_compare
  refine ⟨zC_xo h, c6_find' h r (fun e => ⟨zC_xo h, c6_find' h r (fun e2 => ?_) (fun b e2 hb htb hxb => ?_)⟩) (fun a e ha ht hx => ⟨zC_xo h, c6_find' h r (fun e2 => ?_) (fun b e2 hb htb hxb => ?_)⟩)⟩
  · rw [e, e2] at hp; exact hp M hR
  · rw [e, e2] at hp; exact hp M hR
  · rw [e, e2] at hp; exact hp M hR
  · rw [e, e2] at hp
    simp only at hp
    obtain ⟨t1, t2, t3, t4⟩ := zRr_a r ha ht
    obtain ⟨u1, u2, u3, u4⟩ := zRr_a r hb htb
    refine xB h ⟨zC_bo h, c0_orderOf h a b ha hb (fun c => ?_) (fun c M1 σ1 k1 hs1 => ?_)⟩
    · rw [t1, u1] at c ⊢
      rw [if_pos c] at hp
      exact hp M hR
    · rw [t1, u1] at c
      rw [t1, t2, t3, u2, u3]
      rw [if_neg (fun z => z c)] at hp
      exact hp M1 ⟨_, _, _, _, k1, zRr_k r (fun l hl => hs1 l (Or.inl hl)) (fun _ _ => rfl)⟩
end O1
