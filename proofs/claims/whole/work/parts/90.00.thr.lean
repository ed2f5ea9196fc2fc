/-! CALLS THAT MAY THROW: what is known of the start beside the memory (texts, statics, the lanes' rows); the rows of a throw -/
abbrev zxE1 : String := "java/lang/ArithmeticException"
abbrev zxE2 : String := "java/lang/NegativeArraySizeException"
abbrev zxE3 : String := "java/lang/ArrayIndexOutOfBoundsException"
abbrev zxN1 : List String := ["java/lang/RuntimeException", "java/lang/Exception"]
abbrev zxN3 : List String := ["java/lang/IndexOutOfBoundsException", "java/lang/RuntimeException", "java/lang/Exception"]
def zxS : List (Nat × String) := [(72, "a row of less than no limbs"), (95, "the divisor is 0"), (102, "a rest by 0"), (114, "0 to a power below 0"), (149, "no such limb"), (205, "it is no whole number of a lane"), (211, "it has no room in the lane"), (225, "an infinite double, or none"), (252, "0 is behind the stroke")]
def zxC : List String := [zxE1, zxE2, zxE3]
def zxI (c : String) : MethodName := ⟨c, "<init>", "(Ljava/lang/String;)V"⟩
def zxD : List MethodName := [zxI "java/lang/RuntimeException", zxI "java/lang/Exception", zxI "java/lang/Throwable", zxI "java/lang/IndexOutOfBoundsException"]
def zLl : Nat → Int64 := fun i => if i = 0 then -128 else if i = 1 then -32768 else if i = 2 then 0 else if i = 3 then -2147483648 else -9223372036854775808
def zLg : Nat → Int64 := fun i => if i = 0 then 127 else if i = 1 then 32767 else if i = 2 then 65535 else if i = 3 then 2147483647 else 9223372036854775807
def zx_A (lo : Nat) (g : zg) (n : String) (f : Nat → Int64) (t : Nat) (U : State) (H : Heap) : Prop := va_Z RX6 n "[J" (.ref t) (zA lo) U H ∧ va_T .long t 5 (fun j => .long (f j)) (zA lo) U H
def zx_K (lo : Nat) (g : zg) (U : State) (H : Heap) : Prop := (∀ x ∈ zxS, ∃ sa, vk_R RX6 x.1 x.2 sa U) ∧ (∀ E ∈ zxC, va_Nw (.castable E E) U) ∧ (∀ y ∈ zxD, va_Nw (.declares y) U) ∧ vx_Zq Bundle.tN "UNASSIGNED_STACK" Bundle.steD (zA lo) U H ∧ vx_Zq Bundle.tN "SUPPRESSED_SENTINEL" Bundle.listD (zA lo) U H ∧ (∃ t, zx_A lo g "LANE_LEAST" zLl t U H) ∧ (∃ t, zx_A lo g "LANE_GREATEST" zLg t U H) ∧ va_Nw (.fieldLinkNest "LeastTerms" 144 "LeastTerms$Wide" "used" "I" "LeastTerms") U
theorem zx_A.at {lo : Nat} {g : zg} {n : String} {f : Nat → Int64} {t : Nat} {s U : State} {H H1 : Heap} (h : zx_A lo g n f t s H) (hq : ∀ q : Nat, q < H.size → ¬ zA lo q → H1[q]? = H[q]?) (hW : s.vm.Alike U.vm) : zx_A lo g n f t U H1 := ⟨va_Z.moved hW (h.1.kept hq), va_T.moved hW (h.2.kept hq)⟩
theorem zx_K.at {lo : Nat} {g : zg} {s U : State} {H H1 : Heap} (h : zx_K lo g s H) (hq : ∀ q : Nat, q < H.size → ¬ zA lo q → H1[q]? = H[q]?) (hW : s.WarmedH U.vm) : zx_K lo g U H1 := by
  obtain ⟨h1, h2, h3, h4, h5, ⟨t6, h6⟩, ⟨t7, h7⟩, h8⟩ := h
  refine ⟨fun x hx => ?_, fun E hE => va_Nw.warmC hW (h2 E hE), fun y hy => va_Nw.warmD hW (h3 y hy), vx_Zq.moved hW.alike (h4.kept hq), vx_Zq.moved hW.alike (h5.kept hq), ⟨t6, h6.at hq hW.alike⟩, ⟨t7, h7.at hq hW.alike⟩, va_Nw.warmF hW h8⟩
  obtain ⟨sa, hs⟩ := h1 x hx
  exact ⟨sa, vk_R.warm hW hs⟩
theorem zx_K.same {lo : Nat} {g : zg} {s U : State} {H : Heap} (h : zx_K lo g s H) (hv : s.vm = U.vm) : zx_K lo g U H := by
  have ha : s.vm.Alike U.vm := by rw [hv]; exact Vm.Alike.refl U.vm
  obtain ⟨h1, h2, h3, h4, h5, ⟨t6, h6⟩, ⟨t7, h7⟩, h8⟩ := h
  refine ⟨fun x hx => ?_, fun E hE => va_Nw.same rfl hv (h2 E hE), fun y hy => va_Nw.same rfl hv (h3 y hy), vx_Zq.moved ha h4, vx_Zq.moved ha h5, ⟨t6, h6.at (fun _ _ _ => rfl) ha⟩, ⟨t7, h7.at (fun _ _ _ => rfl) ha⟩, va_Nw.same rfl hv h8⟩
  obtain ⟨sa, hs⟩ := h1 x hx
  exact ⟨sa, vk_R.same hv.symm hs⟩
def zx_P (NF : List zn_T) (NM : List (String × Nat × MethodName × String)) (lo : Nat) (g : zg) (M : zm_M) (av : List Value) : Array Value → State → Prop := va_Pc av (fun U => zm_R lo g U.heap M ∧ zk_K NF NM g U ∧ zx_K lo g U U.heap)
theorem zx_blind {NF : List zn_T} {NM : List (String × Nat × MethodName × String)} {lo : Nat} {g : zg} {M : zm_M} {av : List Value} : FrameBlind (zx_P NF NM lo g M av) := fun a U f mk q => ⟨q.1, q.2.1, q.2.2.1.same (s := U) rfl, q.2.2.2.same (s := U) rfl⟩
def zx_B (lo : Nat) (g : zg) (E0 : String) : String → zm_M → State → Prop := fun E u t => E = E0 ∧ u.1 ≤ t.heap.size ∧ zm_R lo g t.heap (t.heap.size, u.2)
theorem zm_R.up {lo : Nat} {g : zg} {H H1 : Heap} {M : zm_M} (h : zm_R lo g H M) (hz : H.size ≤ H1.size) (hq : ∀ q : Nat, q < H.size → H1[q]? = H[q]?) : zm_R lo g H1 (H1.size, M.2) := ⟨rfl, by show lo ≤ H1.size; have := h.2.1; have := h.1; omega, fun a e ha => ⟨(h.2.2 a e ha).1, (h.2.2 a e ha).2.kept (hq a (h.2.2 a e ha).2.lt)⟩⟩
theorem zx_w1 : ∀ w ∈ (vx_atS RX6 97 zxE1 zxN1).filter goodWord, w ∈ lw_tbl := by decide +kernel
theorem zx_w2 : ∀ w ∈ (vx_atS RX6 74 zxE2 zxN1).filter goodWord, w ∈ lw_tbl := by decide +kernel
theorem zx_w3 : ∀ w ∈ (vx_atS RX6 151 zxE3 zxN3).filter goodWord, w ∈ lw_tbl := by decide +kernel
theorem zx_N {lo : Nat} {g : zg} {s : State} {H : Heap} {NF : List zn_T} {NM : List (String × Nat × MethodName × String)} (hK : zk_K NF NM g s) (hX : zx_K lo g s H) : zk_K (("LeastTerms", 144, "LeastTerms$Wide", "used", "I", "LeastTerms") :: NF) NM g s := ⟨hK.1, fun x hx => (List.mem_cons.mp hx).elim (fun e => by rw [e]; exact hX.2.2.2.2.2.2.2) (hK.2.1 x), hK.2.2⟩
