/-! THE LAW'S START: what the tables and the given start say, in the forms that the contracts ask for -/
theorem z_choose {s : State} {cl : List vw_C} (h : ∀ (c : Nat) (q : vw_C), cl[c]? = some q → ∃ (cC : ClassId) (iS : Nat → Nat), u_Kn s q.1 q.2.1 q.2.2 cC iS) : ∃ D : va_G, ∀ (c : Nat) (q : vw_C), cl[c]? = some q → u_Kn s q.1 q.2.1 q.2.2 (D.1 c) (D.2 c) := by
  have h1 : ∀ c : Nat, ∃ z : ClassId × (Nat → Nat), ∀ q, cl[c]? = some q → u_Kn s q.1 q.2.1 q.2.2 z.1 z.2 := by
    intro c
    cases hc : cl[c]? with
    | none => exact ⟨(0, fun _ => 0), fun q hq => nomatch hq⟩
    | some q =>
      obtain ⟨cC, iS, h⟩ := h c q hc
      exact ⟨(cC, iS), fun q' hq' => by cases Option.some.inj hq'; exact h⟩
  obtain ⟨F, hF⟩ := Classical.axiomOfChoice h1
  exact ⟨(fun c => (F c).1, fun c => (F c).2), fun c q hq => hF c q hq⟩
theorem zj_0 : ∀ w ∈ u_ws RJ0 TJ0 2, w ∈ lw_tbl := by decide +kernel
theorem zj_1 : ∀ w ∈ u_ws RJx00060 TJx00060 6, w ∈ lw_tbl := by decide +kernel
theorem zj_2 : ∀ w ∈ u_ws RJxde1cd TJxde1cd 6, w ∈ lw_tbl := by decide +kernel
theorem zj_i : ∀ w ∈ [Cond.instantiable RJ0 4, Cond.instantiable RJx00060 6, Cond.instantiable RJxde1cd 6, Cond.instantiable RX0 5, Cond.instantiable RX1 11, Cond.instantiable RX2 3, Cond.instantiable RX3 5, Cond.instantiable RX4 5, Cond.instantiable RX5 2, Cond.instantiable RX6 7, Cond.instantiable RX7 14, Cond.arrayClass .int, Cond.arrayClass .boolean, Cond.arrayClass .byte, Cond.arrayClass .long, Cond.arrayOver (.object "LeastTerms$Ratio")], w ∈ lw_tbl := by decide +kernel
theorem zj_f : ∀ x ∈ zNF, Cond.fieldLinkNest x.1 x.2.1 x.2.2.1 x.2.2.2.1 x.2.2.2.2.1 x.2.2.2.2.2 ∈ lw_tbl := by decide +kernel
theorem zj_m : ∀ x ∈ zNM, Cond.methodLinkNest x.1 x.2.1 x.2.2.1 x.2.2.2 ∈ lw_tbl := by decide +kernel
theorem zj_s : ∀ x ∈ zxS, Cond.stringRef RX6 x.1 x.2 ∈ lw_tbl := by decide +kernel
theorem zj_c : ∀ E ∈ zxC, Cond.castable E E ∈ lw_tbl := by decide +kernel
theorem zj_d : ∀ y ∈ zxD, Cond.declares y ∈ lw_tbl := by decide +kernel
theorem zj_n : Cond.fieldLinkNest "LeastTerms" 144 "LeastTerms$Wide" "used" "I" "LeastTerms" ∈ lw_tbl := by decide +kernel
theorem zj_l : ∀ w ∈ [Cond.laysStatic Bundle.tN "UNASSIGNED_STACK" Bundle.steD, Cond.laysStatic Bundle.tN "SUPPRESSED_SENTINEL" Bundle.listD, Cond.laysStatic RX6 "LANE_LEAST" "[J", Cond.laysStatic RX6 "LANE_GREATEST" "[J", Cond.initialized Bundle.tN, Cond.initialized RX6], w ∈ lw_tbl := by decide +kernel
theorem zk_start {s : State} {args : Array Value} (hts : ∀ w ∈ lw_tbl, w.before args s = true) : ∃ g : zg, zk_K zNF zNM g s := by
  have hi : ∀ w ∈ [Cond.instantiable RJ0 4, Cond.instantiable RJx00060 6, Cond.instantiable RJxde1cd 6, Cond.instantiable RX0 5, Cond.instantiable RX1 11, Cond.instantiable RX2 3, Cond.instantiable RX3 5, Cond.instantiable RX4 5, Cond.instantiable RX5 2, Cond.instantiable RX6 7, Cond.instantiable RX7 14, Cond.arrayClass .int, Cond.arrayClass .boolean, Cond.arrayClass .byte, Cond.arrayClass .long, Cond.arrayOver (.object "LeastTerms$Ratio")], w.before args s = true := fun w hw => hts w (zj_i w hw)
  have hz : ∀ {C : String} {T : u_T} {N : Nat}, (∀ w ∈ u_ws C T N, w ∈ zU) → ∀ w ∈ u_ws C T N, w ∈ lw_tbl := fun h w hw => (List.mem_filter.mp (h w hw)).1
  obtain ⟨D, hD⟩ := z_choose (s := s) (cl := vwCl) (fun c q hq => by
    match c, hq with
    | 0, hq => cases hq; exact u_known hts zj_0 (hi (Cond.instantiable RJ0 4) (by simp))
    | 1, hq => cases hq; exact u_known hts zj_1 (hi (Cond.instantiable RJx00060 6) (by simp))
    | 2, hq => cases hq; exact u_known hts zj_2 (hi (Cond.instantiable RJxde1cd 6) (by simp))
    | 3, hq => cases hq; exact u_known hts (hz zi_X0) (hi (Cond.instantiable RX0 5) (by simp))
    | 4, hq => cases hq; exact u_known hts (hz zi_X1) (hi (Cond.instantiable RX1 11) (by simp))
    | 5, hq => cases hq; exact u_known hts (hz zi_X2) (hi (Cond.instantiable RX2 3) (by simp))
    | 6, hq => cases hq; exact u_known hts (hz zi_X3) (hi (Cond.instantiable RX3 5) (by simp))
    | 7, hq => cases hq; exact u_known hts (hz zi_X4) (hi (Cond.instantiable RX4 5) (by simp))
    | 8, hq => cases hq; exact u_known hts (hz zi_X5) (hi (Cond.instantiable RX5 2) (by simp))
    | 9, hq => cases hq; exact u_known hts (hz zi_X6) (hi (Cond.instantiable RX6 7) (by simp))
    | 10, hq => cases hq; exact u_known hts (hz zi_X7) (hi (Cond.instantiable RX7 14) (by simp))
    | c + 11, hq => exact absurd hq (by simp))
  obtain ⟨c0, k0, p0, f0, h0, d0⟩ := Cond.arrayClass_spec (hi (Cond.arrayClass .int) (by simp))
  obtain ⟨c1, k1, p1, f1, h1, d1⟩ := Cond.arrayClass_spec (hi (Cond.arrayClass .boolean) (by simp))
  obtain ⟨c2, k2, p2, f2, h2, d2⟩ := Cond.arrayClass_spec (hi (Cond.arrayClass .byte) (by simp))
  obtain ⟨c3, k3, p3, f3, h3, d3⟩ := Cond.arrayClass_spec (hi (Cond.arrayClass .long) (by simp))
  obtain ⟨p4, c4, k4, a1, a2, a3, a4, a5⟩ := Cond.arrayOver_spec (hi (Cond.arrayOver (.object "LeastTerms$Ratio")) (by simp))
  refine ⟨(D, fun k => if k = 0 then c0 else if k = 1 then c1 else if k = 2 then c2 else if k = 3 then c3 else c4), ⟨hD, fun k q hk => ?_⟩, fun x hx => va_Nw.of rfl (hts _ (zj_f x hx)), fun x hx => va_Nw.of rfl (hts _ (zj_m x hx)), va_AO.of (hi (Cond.arrayOver (.object "LeastTerms$Ratio")) (by simp))⟩
  match k, hk with
  | 0, hk => cases hk; exact ⟨fun N z => ⟨(fun k h => by cases h), k0, h0, p0, d0⟩, f0⟩
  | 1, hk => cases hk; exact ⟨fun N z => ⟨(fun k h => by cases h), k1, h1, p1, d1⟩, f1⟩
  | 2, hk => cases hk; exact ⟨fun N z => ⟨(fun k h => by cases h), k2, h2, p2, d2⟩, f2⟩
  | 3, hk => cases hk; exact ⟨fun N z => ⟨(fun k h => by cases h), k3, h3, p3, d3⟩, f3⟩
  | 4, hk => cases hk; exact ⟨fun N z => ⟨(fun k h => by cases h), k4, a3, p4, a4⟩, k4, p4, a3, a4, a1, a5⟩
  | k + 5, hk => exact absurd hk (by simp [zg_t])
theorem zx_start {s : State} {args : Array Value} (g : zg) (hts : ∀ w ∈ lw_tbl, w.before args s = true) (hgv : (Jvm.Cond.and given_1 narrow_1).before args s = true) : zx_K s.heap.size g s s.heap := by
  have hs := flat_of_before _ hgv
  have hl : ∀ w ∈ [Cond.laysStatic Bundle.tN "UNASSIGNED_STACK" Bundle.steD, Cond.laysStatic Bundle.tN "SUPPRESSED_SENTINEL" Bundle.listD, Cond.laysStatic RX6 "LANE_LEAST" "[J", Cond.laysStatic RX6 "LANE_GREATEST" "[J", Cond.initialized Bundle.tN, Cond.initialized RX6], w.before args s = true := fun w hw => hts w (zj_l w hw)
  have hA : ∀ a : Nat, a < s.heap.size → ¬ zA s.heap.size a := fun a h9 => Nat.not_le.mpr h9
  have e1 : (Cond.isRef (.static Bundle.tN "UNASSIGNED_STACK" Bundle.steD)).before args s = true := hs _ (by decide +kernel)
  have e2 : (Cond.isRef (.static Bundle.tN "SUPPRESSED_SENTINEL" Bundle.listD)).before args s = true := hs _ (by decide +kernel)
  have lane : ∀ (n : String) (f : Nat → Int64), (Cond.laysStatic RX6 n "[J").before args s = true → (Cond.arrayOf (.static RX6 n "[J") .long).before args s = true → (Cond.eq (.length (.static RX6 n "[J")) (.int 5)).before args s = true → (∀ j : Nat, j < 5 → (Cond.eq (.elem (.static RX6 n "[J") (.int (Int32.ofNat j))) (.long (f j))).before args s = true) → ∃ t, zx_A s.heap.size g n f t s s.heap := by
    intro n f h1 h2 h3 h4
    obtain ⟨t, ht, hT⟩ := va_Tof (N := 5) (f := fun j => .long (f j)) (A := zA s.heap.size) (by decide) h2 (va_eqt h3) (fun j hj => va_eqtl (h4 j hj)) hA
    exact ⟨t, va_Zref h1 (hl (Cond.initialized RX6) (by simp)) ht hA, hT⟩
  refine ⟨fun x hx => ?_, fun E hE => va_Nw.of rfl (hts _ (zj_c E hE)), fun y hy => va_Nw.of rfl (hts _ (zj_d y hy)), vx_Zqof (hl _ (by simp)) (hl (Cond.initialized Bundle.tN) (by simp)) e1 hA, vx_Zqof (hl _ (by simp)) (hl (Cond.initialized Bundle.tN) (by simp)) e2 hA, lane "LANE_LEAST" zLl (hl _ (by simp)) (hs _ (by decide +kernel)) (hs _ (by decide +kernel)) (fun j hj => ?_), lane "LANE_GREATEST" zLg (hl _ (by simp)) (hs _ (by decide +kernel)) (hs _ (by decide +kernel)) (fun j hj => ?_), va_Nw.of rfl (hts _ zj_n)⟩
  · have h1 := hts _ (zj_s x hx)
    have h2 : (Cond.exactly (.string RX6 x.1) "java/lang/String").before args s = true := by
      rcases List.mem_cons.mp hx with rfl | hx
      · exact hs _ (by decide +kernel)
      rcases List.mem_cons.mp hx with rfl | hx
      · exact hs _ (by decide +kernel)
      rcases List.mem_cons.mp hx with rfl | hx
      · exact hs _ (by decide +kernel)
      rcases List.mem_cons.mp hx with rfl | hx
      · exact hs _ (by decide +kernel)
      rcases List.mem_cons.mp hx with rfl | hx
      · exact hs _ (by decide +kernel)
      rcases List.mem_cons.mp hx with rfl | hx
      · exact hs _ (by decide +kernel)
      rcases List.mem_cons.mp hx with rfl | hx
      · exact hs _ (by decide +kernel)
      rcases List.mem_cons.mp hx with rfl | hx
      · exact hs _ (by decide +kernel)
      rcases List.mem_cons.mp hx with rfl | hx
      · exact hs _ (by decide +kernel)
      cases hx
    obtain ⟨a, c, cell, k, q1, -⟩ := Cond.exactly_spec h2
    exact ⟨a, vk_R.of h1 q1⟩
  · match j, hj with
    | 0, _ => exact hs _ (by decide +kernel)
    | 1, _ => exact hs _ (by decide +kernel)
    | 2, _ => exact hs _ (by decide +kernel)
    | 3, _ => exact hs _ (by decide +kernel)
    | 4, _ => exact hs _ (by decide +kernel)
    | j + 5, hj => exact absurd hj (by omega)
  · match j, hj with
    | 0, _ => exact hs _ (by decide +kernel)
    | 1, _ => exact hs _ (by decide +kernel)
    | 2, _ => exact hs _ (by decide +kernel)
    | 3, _ => exact hs _ (by decide +kernel)
    | 4, _ => exact hs _ (by decide +kernel)
    | j + 5, hj => exact absurd hj (by omega)
