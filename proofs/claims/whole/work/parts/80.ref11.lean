/-! ===== THE REFERENCE'S CALLS: feed, out, text, figures ===== -/
abbrev zso (S : zS) (ol : List Nat) : zS := (sT S, sS S, sN S, sD S, S.2.2.2.2.1, ol)
theorem lN_i32 {n : Nat} (h : n < 2 ^ 31) : (lN n).toInt32 = nI n := by
  apply uI_inj
  rw [uI_l, uN_lN (by omega), uI_nI (by omega)]
  exact Nat.mod_eq_of_lt (by omega)
section R81
variable {G : Nat → ClassId} {Bm : Nat} {M0 M : zm_M} {ι : Nat → Int32} {α : Nat → Nat → Int32} {K : Nat → Int64} {ρ : Nat → Nat} {S : zS} {t : Int32} {post : Int32 → zm_M → Prop}
theorem zRn_9 (r : zRn ι α K S) (f : Nat → Int32) : zRn ι (ub α 9 f) K S := r
theorem zRn_o0 (r : zRn ι α K S) : zRn (upd ι 8 0) α K (zso S []) := ⟨r.1, r.2.1, ⟨(pk_un (by decide)).trans r.2.2.1.1, r.2.2.1.2⟩, ⟨pk_us, (show 0 ≤ 800 by decide), fun j b hj => by
  have hj' : ([] : List Nat)[j]? = some b := hj
  rw [List.getElem?_nil] at hj'
  cases hj'⟩, r.2.2.2.2⟩
theorem r7_say {post : zm_M → Prop} (h : zP G Bm M0 M ι α K ρ) (r : zRn ι α K S) {c : Int32} {b : Nat} (hc : c = nI b) (hl : (sO S).length < 800) (hp : ∀ (M' : zm_M) (ι' : Nat → Int32) (α' : Nat → Nat → Int32), zP G Bm M0 M' ι' α' K ρ → zRn ι' α' K (zso S (sO S ++ [b])) → ι' 0 = ι 0 → α' 9 = α 9 → post M') : pX7_say G Bm c post M := by
  have e8 := r.2.2.2.1.1
  unfold pX7_say
  refine r7_ga h 7 (b := 6) (by decide) (r7_g8 h (r7_Wout h e8 hl (fun M1 k1 => r7_g8 k1 (r7_p8 k1 (fun M2 k2 => hp M2 _ _ k2 ?_ (pk_un (by decide)) rfl)))))
  refine ⟨r.1, r.2.1, ⟨(pk_un (by decide)).trans r.2.2.1.1, r.2.2.1.2⟩, ⟨?_, ?_, fun j b' hj => ?_⟩, r.2.2.2.2⟩
  · rw [pk_us, e8, nI_1]
    show nI _ = nI (sO S ++ [b]).length
    rw [List.length_append]
    rfl
  · show (sO S ++ [b]).length ≤ 800
    rw [List.length_append]
    show (sO S).length + 1 ≤ 800
    omega
  · show upd (α 6) (sO S).length c j = nI b'
    have hj' : (sO S ++ [b])[j]? = some b' := hj
    by_cases e : j = (sO S).length
    · rw [e, pk_us, hc]
      rw [e, List.getElem?_append_right (Nat.le_refl _), Nat.sub_self] at hj'
      have : some b = some b' := hj'
      rw [Option.some.inj this]
    · rw [pk_un e]
      rcases Nat.lt_or_ge j (sO S).length with w | w
      · rw [List.getElem?_append_left w] at hj'
        exact r.2.2.2.1.2.2 j b' hj'
      · rw [List.getElem?_append_right w] at hj'
        have : ([b] : List Nat)[j - (sO S).length]? = none := List.getElem?_eq_none (by show 1 ≤ _; omega)
        rw [this] at hj'
        cases hj'
theorem m7_feed (h : zRM G Bm M0 M S t) {b : Int32} (hp : ∀ M', zRM G Bm M0 M' (zo_feed S b).2 0 → post (zo_feed S b).1 M') : pX7_feed G Bm b post M := by
  obtain ⟨ι, α, K, ρ, h, r, _⟩ := h
  unfold zo_feed at hp
  unfold pX7_feed
  refine r7_thr h (fun M1 k1 => r7_in ?_)
  have r1 : zRn (upd ι 0 0) α K S := zRn_ι r (pk_un (by decide)) (pk_un (by decide))
  obtain ⟨e6, l6, t6⟩ := r1.2.2.1
  rw [i64_of32, show (0 : Int64).toInt = 0 from rfl, show (255 : Int64).toInt = 255 from rfl]
  by_cases c : 0 ≤ b.toInt ∧ b.toInt ≤ 255
  · rw [if_pos c]
    rw [if_pos ⟨i32_0.mpr c.1, i32_le.mpr c.2⟩] at hp
    refine ⟨fun _ => r7_g6 k1 ⟨fun y => ?_, fun y => ?_⟩, fun y => absurd y (by decide)⟩
    · rw [e6] at y
      have hl : sL S < 400 := by
        have : sL S ≠ 400 := fun q => y (by rw [q]; rfl)
        omega
      rw [if_pos hl] at hp
      refine r7_ga k1 5 (b := 5) (by decide) (r7_g6 k1 (r7_Wtape k1 e6 hl (fun M2 k2 => r7_g6 k2 (r7_p6 k2 (fun M3 k3 => r7_g6 k3 ?_)))))
      rw [pk_us, e6, nI_1]
      rw [e6, nI_1] at k3
      refine hp M3 ⟨_, _, _, _, k3, ⟨r1.1, r1.2.1, ⟨pk_us, by show sL S + 1 ≤ 400; omega, fun j hj => ?_⟩, ⟨(pk_un (by decide)).trans r1.2.2.2.1.1, r1.2.2.2.1.2⟩, r1.2.2.2.2⟩, (pk_un (by decide)).trans pk_us⟩
      show upd (α 5) (sL S) b j = nI (ux (st S) (sL S) b.toInt.toNat j) ∧ ux (st S) (sL S) b.toInt.toNat j < 256
      by_cases q : j = sL S
      · rw [q, pk_us, ux_s]
        exact ⟨i32_n c.1, by omega⟩
      · rw [pk_un q, ux_n q]
        have hj' : j < sL S + 1 := hj
        exact t6 j (by omega)
    · rw [e6] at y
      have hl : sL S = 400 := (nI_eq (b := 400) (by omega) (by decide)).mp y
      rw [if_neg (by omega)] at hp
      exact hp M1 ⟨_, _, _, _, k1, r1, pk_us⟩
  · rw [if_neg c]
    rw [if_neg (fun q => c ⟨i32_0.mp q.1, i32_le.mp q.2⟩)] at hp
    exact ⟨fun y => absurd rfl y, fun _ => hp M1 ⟨_, _, _, _, k1, r1, pk_us⟩⟩
theorem m7_out (h : zRM G Bm M0 M S t) {i : Int32} (hp : ∀ M', zRM G Bm M0 M' (zo_out S i).2 0 → post (zo_out S i).1 M') : pX7_out G Bm i post M := by
  obtain ⟨ι, α, K, ρ, h, r, _⟩ := h
  unfold zo_out at hp
  unfold pX7_out
  refine r7_thr h (fun M1 k1 => r7_g8 k1 (r7_in ?_))
  have r1 : zRn (upd ι 0 0) α K S := zRn_ι r (pk_un (by decide)) (pk_un (by decide))
  obtain ⟨e8, l8, t8⟩ := r1.2.2.2.1
  have hp' := hp M1 ⟨_, _, _, _, k1, r1, pk_us⟩
  have hm : (upd ι 0 0 8 - (1 : Int32)).toInt = ((sO S).length : Int) - 1 := i32_s (by rw [e8]; exact nI_toInt (by omega)) rfl (by omega) (by omega)
  rw [i64_of32, i64_of32, show (0 : Int64).toInt = 0 from rfl, hm]
  by_cases c : 0 ≤ i.toInt ∧ i.toInt ≤ ((sO S).length : Int) - 1
  · rw [if_pos c]
    rw [if_pos (i32_0.mpr c.1)] at hp'
    refine ⟨fun y => absurd y (by decide), fun _ => r7_out' k1 (i32_n c.1) (by omega) ?_⟩
    have hlt : i.toInt.toNat < (sO S).length := by omega
    rw [List.getElem?_eq_getElem hlt] at hp'
    rw [t8 _ _ (List.getElem?_eq_getElem hlt)]
    exact hp'
  · rw [if_neg c]
    refine ⟨fun _ => ?_, fun y => absurd rfl y⟩
    by_cases q : 0 ≤ i
    · rw [if_pos q] at hp'
      have q' := i32_0.mp q
      rw [List.getElem?_eq_none (by omega)] at hp'
      exact hp'
    · rw [if_neg q] at hp'
      exact hp'
/-! write -/
theorem r7_wrA {post : zm_M → Prop} {k32 : Nat → Int32 → zm_M → Prop} {q : Nat} (hq : q < 24) {ρ0 : Nat → Nat} {α0 : Nat → Nat → Int32} {L : List Nat} (hk : ∀ (M' : zm_M) (f : Nat → Int32) (ρ' : Nat → Nat), zP G Bm M0 M' ι (ub α0 9 f) K ρ' → (∀ j, j ≠ q → ρ' j = ρ0 j) → (∀ (i b : Nat), L[i]? = some b → f i = nI b) → k32 Bm (nI L.length) M') : ∀ (f : Nat) (M : zm_M) (F : Nat → Int32) (ρ : Nat → Nat) (pre : List Nat), zP G Bm M0 M ι (ub α0 9 F) K ρ → (∀ j, j ≠ q → ρ j = ρ0 j) → (∀ (i b : Nat), pre[i]? = some b → F i = nI b) → pre.length + f < 400 → ρ q / 10 < 10 ^ f → L = pre ++ (48 + ρ q % 10) :: zdd f (ρ q / 10) → pX7_write_2 G post k32 (f + 1) Bm (nI q) (nI pre.length) M
  | f, M, F, ρ, pre, h, hf, hF, hl, hv, hL => by
    rw [pX7_write_2]
    refine r7_ga h 13 (b := 9) (by decide) ⟨zP_o h, r7_bySmall h q 10 (by decide) (by decide) (fun M1 k1 => r7_Wfig k1 rfl (by omega) (fun M2 k2 x6 e6 => ?_)) hq⟩
    have hd := Nat.mod_lt (ρ q) (show 0 < 10 by decide)
    rw [lN_i32 (by omega), show (48 : Int32) + nI (ρ q % 10) = nI (48 + ρ q % 10) from nI_add 48 (ρ q % 10)] at k2
    have k2' : zP G Bm M0 M2 ι (ub α0 9 (upd F pre.length (nI (48 + ρ q % 10)))) K (rgu ρ q (ρ q / 10)) := by
      have e : ub (ub α0 9 F) 9 (upd (ub α0 9 F 9) pre.length (nI (48 + ρ q % 10))) = ub α0 9 (upd F pre.length (nI (48 + ρ q % 10))) := by
        funext j
        by_cases c : j = 9
        · subst c; rfl
        · rw [ub_n c, ub_n c, ub_n c]
      rw [e] at k2
      exact k2
    have hpre : ∀ (i b : Nat), (pre ++ [48 + ρ q % 10])[i]? = some b → upd F pre.length (nI (48 + ρ q % 10)) i = nI b := by
      intro i b hi
      by_cases e : i = pre.length
      · rw [e, pk_us]
        rw [e, List.getElem?_append_right (Nat.le_refl _), Nat.sub_self] at hi
        have : some (48 + ρ q % 10) = some b := hi
        rw [Option.some.inj this]
      · rw [pk_un e]
        rcases Nat.lt_or_ge i pre.length with w | w
        · rw [List.getElem?_append_left w] at hi
          exact hF i b hi
        · rw [List.getElem?_append_right w] at hi
          have : ([48 + ρ q % 10] : List Nat)[i - pre.length]? = none := List.getElem?_eq_none (by show 1 ≤ _; omega)
          rw [this] at hi
          cases hi
    have hlen : (pre ++ [48 + ρ q % 10]).length = pre.length + 1 := by rw [List.length_append]; rfl
    rw [nI_1] at e6
    refine r7_n k2' q (fun u hu hz => ⟨fun y => ?_, fun y => ?_⟩) hq
    · have y' := (nI_ltI (a := 0) (by decide) (by omega)).mp y
      have hne : ρ q / 10 ≠ 0 := fun c => by
        have := hz.mpr (by rw [rgu_s]; exact c)
        omega
      rw [e6]
      cases f with
      | zero =>
        rw [Nat.pow_zero] at hv
        omega
      | succ f =>
        unfold zdd at hL
        rw [if_neg hne] at hL
        have hw := r7_wrA (post := post) hq hk f M2 _ _ (pre ++ [48 + ρ q % 10]) k2' (fun j hj => by rw [rgu_n hj]; exact hf j hj) hpre (by rw [hlen]; omega) (by
          rw [rgu_s]
          rw [Nat.pow_succ] at hv
          exact (Nat.div_lt_iff_lt_mul (by decide)).mpr hv) (by
          rw [rgu_s, hL, List.append_assoc]
          rfl)
        rw [hlen] at hw
        exact hw
    · have y' : ¬ 0 < u := fun c => y ((nI_ltI (a := 0) (by decide) (by omega)).mpr c)
      have hz0 : ρ q / 10 = 0 := by
        have := hz.mp (by omega)
        rw [rgu_s] at this
        exact this
      have hnil : zdd f (ρ q / 10) = [] := by
        rw [hz0]
        cases f with
        | zero => rfl
        | succ f =>
          unfold zdd
          exact if_pos rfl
      rw [hnil] at hL
      rw [e6]
      have hk' := hk M2 _ _ k2' (fun j hj => by rw [rgu_n hj]; exact hf j hj) (by rw [hL]; exact hpre)
      rw [hL, hlen] at hk'
      exact hk'
theorem r7_wrB {post : zm_M → Prop} {L : List Nat} {ol : List Nat} {i0 : Int32} {f : Nat → Int32} (hL : ∀ (i b : Nat), L[i]? = some b → f i = nI b) (hll : ol.length + L.length ≤ 800) (hl4 : L.length ≤ 400) (hk : ∀ (M' : zm_M) (ι' : Nat → Int32) (α' : Nat → Nat → Int32), zP G Bm M0 M' ι' α' K ρ → zRn ι' α' K (zso S (ol ++ L.reverse)) → ι' 0 = i0 → post M') : ∀ (j : Nat) (M : zm_M) (ι : Nat → Int32) (α : Nat → Nat → Int32), j ≤ L.length → zP G Bm M0 M ι α K ρ → α 9 = f → zRn ι α K (zso S (ol ++ (L.drop j).reverse)) → ι 0 = i0 → pX7_write_36 G post (j + 1) Bm (nI j - 1) M
  | 0, M, ι, α, _, h, h9, r, h0 => by
    rw [pX7_write_36]
    exact ⟨fun _ => hk M ι α h r h0, fun y => absurd (by decide) y⟩
  | j + 1, M, ι, α, hj, h, h9, r, h0 => by
    rw [nI_pred, pX7_write_36]
    refine ⟨fun y => absurd (i32_lt.mp y) (by rw [nI_toInt (by omega)]; omega), fun _ => r7_fig h rfl (by omega) ⟨zP_o h, ?_⟩⟩
    have hjl : j < L.length := by omega
    rw [h9, hL j _ (List.getElem?_eq_getElem hjl)]
    refine r7_say (S := zso S (ol ++ (L.drop (j + 1)).reverse)) h r rfl ?_ (fun M1 ι1 α1 k1 r1 e0 e9 x e => ?_)
    · show (ol ++ (L.drop (j + 1)).reverse).length < 800
      rw [List.length_append, List.length_reverse, List.length_drop]
      omega
    · rw [e, nI_m1']
      refine r7_wrB hL hll hl4 hk j M1 ι1 α1 (by omega) k1 (e9.trans h9) ?_ (e0.trans h0)
      have ed : L.drop j = L[j] :: L.drop (j + 1) := List.drop_eq_getElem_cons hjl
      rw [ed, List.reverse_cons, ← List.append_assoc]
      exact r1
theorem r7_write {post : zm_M → Prop} (h : zP G Bm M0 M ι α K ρ) (r : zRn ι α K S) (q : Nat) (hv : ρ q < 4294967296 ^ 16) (hl : (sO S).length ≤ 400) (hp : ∀ (M' : zm_M) (ι' : Nat → Int32) (α' : Nat → Nat → Int32) (ρ' : Nat → Nat), zP G Bm M0 M' ι' α' K ρ' → zRn ι' α' K (zso S (sO S ++ ztx (ρ q))) → ι' 0 = ι 0 → (∀ j, j ≠ q → ρ' j = ρ j) → post M') (hq : q < 24 := by decide) : pX7_write G Bm (nI q) post M := by
  have hlen := ztx_len hv
  unfold pX7_write
  refine fun x1 e1 => ⟨201, ?_⟩
  rw [e1]
  have hL : ztx (ρ q) = ((48 + ρ q % 10) :: zdd 200 (ρ q / 10)).reverse := rfl
  have h10 : ρ q / 10 < 10 ^ 200 := by
    have h1 : (4294967296 : Nat) ^ 16 ≤ 10 ^ 200 := by decide
    have h2 := Nat.div_le_self (ρ q) 10
    exact Nat.lt_of_le_of_lt h2 (Nat.lt_of_lt_of_le hv h1)
  have hself : ub α 9 (α 9) = α := by
    funext j
    by_cases c : j = 9
    · rw [c, ub_s]
    · rw [ub_n c]
  rw [hL, List.length_reverse] at hlen
  refine r7_wrA (q := q) (ρ0 := ρ) (α0 := α) (L := (48 + ρ q % 10) :: zdd 200 (ρ q / 10)) hq (fun M2 f2 ρ2 k2 g2 l2 x12 e12 => ⟨((48 + ρ q % 10) :: zdd 200 (ρ q / 10)).length + 1, ?_⟩) 200 M (α 9) ρ [] (by rw [hself]; exact h) (fun _ _ => rfl) (fun i b hi => absurd hi (by simp)) (by decide) h10 rfl
  rw [e12]
  refine r7_wrB (S := S) (ol := sO S) (i0 := ι 0) (f := f2) l2 (by omega) (by omega) (fun M3 ι3 α3 k3 r3 e3 => hp M3 ι3 α3 ρ2 k3 (by rw [hL]; exact r3) e3 g2) _ M2 ι _ (Nat.le_refl _) k2 ub_s ?_ rfl
  rw [List.drop_length, List.reverse_nil, List.append_nil]
  exact zRn_9 r f2
theorem r7_text35 (h : zP G Bm M0 M ι α K ρ) {ol : List Nat} (r : zRn ι α K (zso S ol)) (h0 : ι 0 = 0) {a : Nat} (ha : a < 24) (ht : sT S a = true) (hol : ol.length ≤ 1) (hp : ∀ M', zRM G Bm M0 M' (zso S (ol ++ ztx (sN S a) ++ (if sD S a = 1 then [] else 47 :: ztx (sD S a)))) 0 → post (nI (ol ++ ztx (sN S a) ++ (if sD S a = 1 then [] else 47 :: ztx (sD S a))).length) M') : pX7_text_35 G post Bm (nI a) M := by
  obtain ⟨a1, a2, a3, ga⟩ := zRn_a r ha ht
  have l1 : (ztx (sN S a)).length ≤ 155 := ztx_len ga.2.2.2.1
  unfold pX7_text_35
  refine ⟨zP_o h, r7_takeN h r 2 a ha ht (fun M1 k1 => ⟨zP_o k1, r7_write k1 r 2 ga.2.2.2.1 (by show ol.length ≤ 400; omega) (fun M2 ι2 α2 ρ2 k2 r2 z2 f2 => ⟨zP_o k2, r7_isWhole k2 r2 ha ht ?_⟩)⟩)⟩
  have r2' : zRn ι2 α2 K (zso S (ol ++ ztx (sN S a))) := r2
  by_cases c : sD S a = 1
  · have c' : sD (zso S (ol ++ ztx (sN S a))) a = 1 := c
    rw [if_pos c, List.append_nil] at hp
    refine ⟨fun _ => r7_g8 k2 ?_, fun y => ?_⟩
    · rw [r2'.2.2.2.1.1]
      exact hp M2 ⟨_, _, _, _, k2, r2', z2.trans h0⟩
    · have y' : (if sD S a = 1 then (1 : Int32) else 0) = 0 := y
      rw [if_pos c] at y'
      exact absurd y' (by decide)
  · rw [if_neg c] at hp
    refine ⟨fun y => ?_, fun _ => ⟨zP_o k2, r7_say k2 r2' rfl ?_ (fun M3 ι3 α3 k3 r3 z3 _ => ⟨zP_o k3, r7_takeD k3 r3 2 a ha ht (fun M4 k4 => ⟨zP_o k4, r7_write k4 r3 2 ga.2.2.2.2 ?_ (fun M5 ι5 α5 ρ5 k5 r5 z5 f5 => r7_g8 k5 ?_)⟩)⟩)⟩⟩
    · have y' : ¬ (if sD S a = 1 then (1 : Int32) else 0) = 0 := y
      rw [if_neg c] at y'
      exact absurd rfl y'
    · show (ol ++ ztx (sN S a)).length < 800
      rw [List.length_append]
      omega
    · show (ol ++ ztx (sN S a) ++ [47]).length ≤ 400
      rw [List.length_append, List.length_append]
      show ol.length + (ztx (sN S a)).length + 1 ≤ 400
      omega
    · have r5' : zRn ι5 α5 K (zso S (ol ++ ztx (sN S a) ++ [47] ++ ztx (sD S a))) := r5
      rw [List.append_assoc (ol ++ ztx (sN S a)) [47]] at r5'
      rw [r5'.2.2.2.1.1]
      exact hp M5 ⟨_, _, _, _, k5, r5', (z5.trans z3).trans (z2.trans h0)⟩
theorem zsg_p {s : Int32} (h : 0 ≤ s) : zsg s = [] := by
  unfold zsg
  exact if_neg (fun c => by have := i32_lt.mp c; have := i32_0.mp h; omega)
theorem zsg_n {s : Int32} (h : ¬ 0 ≤ s) : zsg s = [45] := by
  unfold zsg
  refine if_pos (i32_lt.mpr ?_)
  rcases Int.lt_or_le s.toInt 0 with c | c
  · exact c
  · exact absurd (i32_0.mpr c) h
theorem m7_text (h : zRM G Bm M0 M S t) {x : Int32} (hp : ∀ M', zRM G Bm M0 M' (zo_text S x).2 0 → post (zo_text S x).1 M') : pX7_text G Bm x post M := by
  obtain ⟨ι, α, K, ρ, h, r, _⟩ := h
  unfold zo_text at hp
  unfold pX7_text
  refine r7_thr h (fun M1 k1 => ?_)
  have r1 : zRn (upd ι 0 0) α K S := zRn_ι r (pk_un (by decide)) (pk_un (by decide))
  refine ⟨zP_o k1, r7_isNumber k1 r1 (fun e => ⟨fun y => absurd rfl y, fun _ => ?_⟩) (fun a e ha ht hx => ⟨fun _ => r7_p8 k1 (fun M2 k2 => ?_), fun y => absurd y (by decide)⟩)⟩
  · rw [e] at hp
    exact hp M1 ⟨_, _, _, _, k1, r1, pk_us⟩
  · rw [e] at hp
    simp only at hp
    subst hx
    unfold zout at hp
    have r2 : zRn (upd (upd ι 0 0) 8 0) α K (zso S []) := zRn_o0 r1
    obtain ⟨a1, a2, a3, ga⟩ := zRn_a r1 ha ht
    have z2 : upd (upd ι 0 0) 8 0 0 = 0 := (pk_un (by decide)).trans pk_us
    refine r7_sign k2 rfl ha ?_
    rw [a1]
    refine ⟨fun y => ?_, fun y => ⟨zP_o k2, r7_say k2 r2 (b := 45) rfl (by show 0 < 800; decide) (fun M3 ι3 α3 k3 r3 z3 _ => ?_)⟩⟩
    · rw [zsg_p y] at hp
      exact r7_text35 k2 r2 z2 ha ht (by decide) hp
    · rw [zsg_n y] at hp
      exact r7_text35 (ol := [45]) k3 r3 (z3.trans z2) ha ht (by decide) hp
theorem r7_figL {D n : Nat} (hD0 : D ≠ 0) (hD : D < 4294967296 ^ 16) (hn : n ≤ 100) {i0 : Int32} {res : List Nat} (hk : ∀ (M' : zm_M) (ι' : Nat → Int32) (α' : Nat → Nat → Int32) (ρ' : Nat → Nat), zP G Bm M0 M' ι' α' K ρ' → zRn ι' α' K (zso S res) → ι' 0 = i0 → post (nI res.length) M') : ∀ (d k : Nat) (M : zm_M) (ι : Nat → Int32) (α : Nat → Nat → Int32) (ρ : Nat → Nat) (ol : List Nat), k + d = n → zP G Bm M0 M ι α K ρ → zRn ι α K (zso S ol) → ι 0 = i0 → ρ 3 = D → ρ 5 < D → ol.length ≤ 400 + k → res = ol ++ zcd D d (ρ 5) → pX7_figures_86 G post (d + 1) Bm (nI n) (nI k) M
  | 0, k, M, ι, α, ρ, ol, hk0, h, r, h0, h3, h5, hol, hres => by
    rw [pX7_figures_86]
    have e : k = n := by omega
    subst e
    refine ⟨fun _ => r7_g8 h ?_, fun y => absurd ((nI_leI (by omega) (by omega)).mpr (Nat.le_refl _)) y⟩
    have hr : res = ol := by rw [hres]; exact List.append_nil _
    rw [← hr] at r
    rw [r.2.2.2.1.1]
    exact hk M ι α ρ h r h0
  | d + 1, k, M, ι, α, ρ, ol, hk0, h, r, h0, h3, h5, hol, hres => by
    rw [pX7_figures_86]
    have hbig : (4294967296 : Nat) ^ 16 * 10 ≤ 4294967296 ^ 71 := Nat.le_trans (Nat.mul_le_mul_left _ (show 10 ≤ 4294967296 ^ 1 by decide)) (by rw [← Nat.pow_add]; exact Nat.pow_le_pow_right (by decide) (by decide))
    have hq10 : ρ 5 * 10 / D < 10 := (Nat.div_lt_iff_lt_mul (Nat.pos_of_ne_zero hD0)).mpr (by omega)
    refine ⟨fun y => absurd ((nI_leI (by omega) (by omega)).mp y) (by omega), fun _ => ⟨zP_o h, r7_timesSmall h 5 10 0 (by decide) (by decide) (zl71 (by omega)) (fun M1 k1 => ⟨zP_o k1, r7_divide k1 4 6 5 3 (by show 0 < ρ 3; omega) (zl71 (by show ρ 3 < _; omega)) (fun M2 k2 => ⟨zP_o k2, r7_asLong k2 4 ?_ ⟨zP_o k2, ?_⟩⟩)⟩)⟩⟩
    · show (ρ 5 * 10 + 0) / ρ 3 < _
      rw [h3, Nat.add_zero]
      omega
    · have v4 : rgu (rgu (rgu ρ 5 (ρ 5 * 10 + 0)) 4 (rgu ρ 5 (ρ 5 * 10 + 0) 5 / rgu ρ 5 (ρ 5 * 10 + 0) 3)) 6 (rgu ρ 5 (ρ 5 * 10 + 0) 5 % rgu ρ 5 (ρ 5 * 10 + 0) 3) 4 = ρ 5 * 10 / D := by
        show (ρ 5 * 10 + 0) / ρ 3 = _
        rw [h3, Nat.add_zero]
      rw [v4, lN_i32 (by omega), show (48 : Int32) + nI (ρ 5 * 10 / D) = nI (48 + ρ 5 * 10 / D) from nI_add 48 _]
      refine r7_say k2 r rfl (by show ol.length < 800; omega) (fun M3 ι3 α3 k3 r3 z3 _ => ⟨zP_o k3, r7_copy k3 5 6 (fun M4 k4 x21 e21 => ?_)⟩)
      rw [e21, nI_1]
      have v5 : ∀ ρ', ρ' = rgu (rgu (rgu (rgu ρ 5 (ρ 5 * 10 + 0)) 4 (rgu ρ 5 (ρ 5 * 10 + 0) 5 / rgu ρ 5 (ρ 5 * 10 + 0) 3)) 6 (rgu ρ 5 (ρ 5 * 10 + 0) 5 % rgu ρ 5 (ρ 5 * 10 + 0) 3)) 5 (rgu (rgu (rgu ρ 5 (ρ 5 * 10 + 0)) 4 (rgu ρ 5 (ρ 5 * 10 + 0) 5 / rgu ρ 5 (ρ 5 * 10 + 0) 3)) 6 (rgu ρ 5 (ρ 5 * 10 + 0) 5 % rgu ρ 5 (ρ 5 * 10 + 0) 3) 6) → ρ' 5 = ρ 5 * 10 % D ∧ ρ' 3 = D := by
        intro ρ' e
        subst e
        refine ⟨?_, h3⟩
        show (ρ 5 * 10 + 0) % ρ 3 = _
        rw [h3, Nat.add_zero]
      obtain ⟨w5, w3⟩ := v5 _ rfl
      refine r7_figL hD0 hD hn hk d (k + 1) M4 ι3 α3 _ (ol ++ [48 + ρ 5 * 10 / D]) (by omega) k4 r3 (z3.trans h0) w3 (by rw [w5]; exact Nat.mod_lt _ (Nat.pos_of_ne_zero hD0)) ?_ ?_
      · rw [List.length_append]
        show ol.length + 1 ≤ _
        omega
      · rw [w5, hres, List.append_assoc]
        rfl
theorem r7_fig47 (h : zP G Bm M0 M ι α K ρ) {ol : List Nat} (r : zRn ι α K (zso S ol)) (h0 : ι 0 = 0) {a n : Nat} (ha : a < 24) (ht : sT S a = true) (hn : n ≤ 100) (hol : ol.length ≤ 1) (hp : ∀ M', zRM G Bm M0 M' (zso S (ol ++ zct (sN S a) (sD S a) n)) 0 → post (nI (ol ++ zct (sN S a) (sD S a) n).length) M') : pX7_figures_47 G post Bm (nI a) (nI n) M := by
  obtain ⟨a1, a2, a3, ga⟩ := zRn_a r ha ht
  have ga' : zgd (sS S a) (sN S a) (sD S a) := ga
  have hD : 0 < sD S a := Nat.pos_of_ne_zero ga'.1
  have hql : sN S a / sD S a < 4294967296 ^ 16 := Nat.lt_of_le_of_lt (Nat.div_le_self _ _) ga'.2.2.2.1
  have l1 := ztx_len hql
  unfold pX7_figures_47
  refine ⟨zP_o h, r7_takeN h r 2 a ha ht (fun M1 k1 => ⟨zP_o k1, r7_takeD k1 r 3 a ha ht (fun M2 k2 => ⟨zP_o k2, r7_divide k2 4 5 2 3 hD (zl71 ga'.2.2.2.2) (fun M3 k3 => ⟨zP_o k3, r7_write k3 r 4 hql (by show ol.length ≤ 400; omega) (fun M4 ι4 α4 ρ4 k4 r4 z4 f4 => ?_)⟩)⟩)⟩)⟩
  have r4' : zRn ι4 α4 K (zso S (ol ++ ztx (sN S a / sD S a))) := r4
  have w3 : ρ4 3 = sD S a := f4 3 (by decide)
  have w5 : ρ4 5 = sN S a % sD S a := f4 5 (by decide)
  have hm := Nat.mod_lt (sN S a) hD
  refine ⟨fun y x13 e13 => ⟨1, ?_⟩, fun y => ⟨zP_o k4, r7_say k4 r4' (b := 46) rfl ?_ (fun M5 ι5 α5 k5 r5 z5 _ x23 e23 => ⟨n + 1, ?_⟩)⟩⟩
  · have y' := (nI_leI (b := 0) (by omega) (by decide)).mp y
    have hn0 : n = 0 := by omega
    subst hn0
    rw [e13]
    refine r7_figL (S := S) (D := sD S a) (n := 0) (i0 := 0) (res := ol ++ zct (sN S a) (sD S a) 0) ga'.1 ga'.2.2.2.2 (by decide) (fun M6 ι6 α6 ρ6 k6 r6 z6 => hp M6 ⟨_, _, _, _, k6, r6, z6⟩) 0 0 M4 ι4 α4 ρ4 (ol ++ ztx (sN S a / sD S a)) rfl k4 r4' (z4.trans h0) w3 (by rw [w5]; exact hm) ?_ ?_
    · rw [List.length_append]; omega
    · unfold zct
      rw [if_pos rfl, List.append_nil]
      exact (List.append_nil _).symm
  · show (ol ++ ztx (sN S a / sD S a)).length < 800
    rw [List.length_append]
    omega
  · have hn0 : n ≠ 0 := fun c => y ((nI_leI (b := 0) (by omega) (by decide)).mpr (by omega))
    rw [e23]
    refine r7_figL (S := S) (D := sD S a) (n := n) (i0 := 0) (res := ol ++ zct (sN S a) (sD S a) n) ga'.1 ga'.2.2.2.2 hn (fun M6 ι6 α6 ρ6 k6 r6 z6 => hp M6 ⟨_, _, _, _, k6, r6, z6⟩) n 0 M5 ι5 α5 ρ4 (ol ++ ztx (sN S a / sD S a) ++ [46]) (by omega) k5 r5 (z5.trans (z4.trans h0)) w3 (by rw [w5]; exact hm) ?_ ?_
    · rw [List.length_append, List.length_append]
      show ol.length + (ztx (sN S a / sD S a)).length + 1 ≤ _
      omega
    · unfold zct
      rw [if_neg hn0, w5, List.append_assoc, List.append_assoc]
      rfl
theorem m7_figures (h : zRM G Bm M0 M S t) {x n : Int32} (hp : ∀ M', zRM G Bm M0 M' (zo_figures S x n).2 0 → post (zo_figures S x n).1 M') : pX7_figures G Bm x n post M := by
  obtain ⟨ι, α, K, ρ, h, r, _⟩ := h
  unfold zo_figures at hp
  unfold pX7_figures
  refine r7_thr h (fun M1 k1 => ?_)
  have r1 : zRn (upd ι 0 0) α K S := zRn_ι r (pk_un (by decide)) (pk_un (by decide))
  refine ⟨zP_o k1, r7_isNumber k1 r1 (fun e => ⟨fun _ => ?_, fun y => absurd rfl y⟩) (fun a e ha ht hx => ⟨fun y => absurd y (by decide), fun _ => r7_in ?_⟩)⟩
  · rw [e] at hp
    exact hp M1 ⟨_, _, _, _, k1, r1, pk_us⟩
  · rw [e] at hp
    simp only at hp
    subst hx
    rw [i64_of32, show (0 : Int64).toInt = 0 from rfl, show (100 : Int64).toInt = 100 from rfl]
    by_cases c : 0 ≤ n.toInt ∧ n.toInt ≤ 100
    · rw [if_pos c]
      rw [if_pos ⟨i32_0.mpr c.1, i32_le.mpr c.2⟩] at hp
      refine ⟨fun _ => r7_p8 k1 (fun M2 k2 => ?_), fun y => absurd y (by decide)⟩
      unfold zout at hp
      have r2 : zRn (upd (upd ι 0 0) 8 0) α K (zso S []) := zRn_o0 r1
      obtain ⟨a1, a2, a3, ga⟩ := zRn_a r1 ha ht
      have z2 : upd (upd ι 0 0) 8 0 0 = 0 := (pk_un (by decide)).trans pk_us
      refine r7_sign k2 rfl ha ?_
      rw [a1]
      have hin := i32_n c.1
      refine ⟨fun y => ?_, fun y => ⟨zP_o k2, r7_say k2 r2 (b := 45) rfl (by show 0 < 800; decide) (fun M3 ι3 α3 k3 r3 z3 _ => ?_)⟩⟩
      · rw [zsg_p y] at hp
        rw [hin]
        exact r7_fig47 k2 r2 z2 ha ht (by omega) (by decide) hp
      · rw [zsg_n y] at hp
        rw [hin]
        exact r7_fig47 (ol := [45]) k3 r3 (z3.trans z2) ha ht (by omega) (by decide) hp
    · rw [if_neg c]
      rw [if_neg (fun q => c ⟨i32_0.mp q.1, i32_le.mp q.2⟩)] at hp
      exact ⟨fun y => absurd rfl y, fun _ => hp M1 ⟨_, _, _, _, k1, r1, pk_us⟩⟩
end R81
