/-! ===== THE REFERENCE'S CALLS: ofReal ===== -/
def zrf (bits : Int64) : Nat := uN bits / 2 ^ 52 % 2048
def zrp (bits : Int64) : Nat := uN bits % 2 ^ 52
def zrz (bits : Int64) : Nat := if zrf bits = 0 then zrp bits else zrp bits + 2 ^ 52
def zre (bits : Int64) : Int := (if zrf bits = 0 then 1 else (zrf bits : Int)) - 1075
def zo_ofReal (S : zS) (bits : Int64) : Option Int32 × zS := if zrf bits = 2047 then (none, S) else if zF S < 24 then zsm (zkp S (if 0 ≤ bits then 1 else -1) (zrz bits * 2 ^ (zre bits).toNat) (2 ^ (-(zre bits)).toNat)) else (some (-3), S)
theorem zkp_k {S : zS} {s : Int32} {c T D : Nat} (hc : 0 < c) : zkp S s (c * T) (c * D) = zkp S s T D := by
  unfold zkp
  rw [Nat.gcd_mul_left, Nat.mul_div_mul_left _ _ hc, Nat.mul_div_mul_left _ _ hc]
  have h : c * T = 0 ↔ T = 0 := by
    constructor
    · intro h
      rcases Nat.mul_eq_zero.mp h with w | w
      · omega
      · exact w
    · intro h; rw [h, Nat.mul_zero]
  simp only [h]
theorem uN_mask (x : Int64) {k : Nat} (hk : k < 64) : uN (x &&& lN (2 ^ k - 1)) = uN x % 2 ^ k := by
  have hp : (2 : Nat) ^ k ≤ 2 ^ 63 := Nat.pow_le_pow_right (by decide) (by omega)
  show (x.toUInt64 &&& (lN (2 ^ k - 1)).toUInt64).toNat = _
  rw [UInt64.toNat_and]
  show uN x &&& uN (lN (2 ^ k - 1)) = _
  rw [uN_lN (by omega)]
  exact Nat.and_two_pow_sub_one_eq_mod _ _
theorem uN_md (y : Int64) : (uN y : Int) % 2048 = y.toInt % 2048 := by
  have h := uN_int y
  split at h <;> omega
theorem zrf_x (bits : Int64) : ((bits >>> ((52 : Int32).toInt64 &&& 63)) &&& (2047 : Int64)).toInt32 = nI (zrf bits) := by
  have e1 : uN ((bits >>> ((52 : Int32).toInt64 &&& 63)) &&& (2047 : Int64)) = uN (bits >>> ((52 : Int32).toInt64 &&& 63)) % 2048 := uN_mask _ (k := 11) (by decide)
  have e2 : (bits >>> ((52 : Int32).toInt64 &&& 63)).toInt = bits.toInt / 4503599627370496 := by
    have := sar_t bits (k := 52) (by decide)
    rw [show (nI 52).toInt64 = ((52 : Int32).toInt64) from rfl] at this
    rw [this, Int.shiftRight_eq_div_pow]
    rfl
  have e3 := uN_md (bits >>> ((52 : Int32).toInt64 &&& 63))
  rw [e2] at e3
  have e4 := uN_int bits
  have e5 := uN_lt bits
  have e6 : uN (bits >>> ((52 : Int32).toInt64 &&& 63)) % 2048 = zrf bits := by
    unfold zrf
    have e7 : (2 : Nat) ^ 52 = 4503599627370496 := by decide
    rw [e7]
    split at e4 <;> omega
  have hl : zrf bits < 2048 := Nat.mod_lt _ (by decide)
  apply uI_inj
  rw [uI_l, e1, e6, uI_nI (by omega)]
  exact Nat.mod_eq_of_lt (by omega)
section R85
variable {G : Nat → ClassId} {Bm : Nat} {M0 M : zm_M} {ι : Nat → Int32} {α : Nat → Nat → Int32} {K : Nat → Int64} {ρ : Nat → Nat} {S : zS} {t : Int32} {post : Int32 → zm_M → Prop}
theorem r7_halfL {k128 : Nat → Int64 → Int32 → zm_M → Prop} {bits : Int64} {Z : Nat} {E : Int} (hE : -1100 ≤ E) (hE2 : E ≤ 1000) (hk : ∀ (M' : zm_M) (ρ' : Nat → Nat) (by' : Int32) (k : Nat), zP G Bm M0 M' ι α K ρ' → Z = ρ' 0 * 2 ^ k → ρ' 1 = 1 → by'.toInt = E + k → (k = 0 ∨ E + k ≤ 0) → (0 ≤ E + (k : Int) ∨ ρ' 0 = 0 ∨ ρ' 0 % 2 = 1) → k128 Bm bits by' M') : ∀ (d k : Nat) (M : zm_M) (ρ : Nat → Nat) (by' : Int32), d + k = 1200 → zP G Bm M0 M ι α K ρ → Z = ρ 0 * 2 ^ k → ρ 1 = 1 → by'.toInt = E + k → (k = 0 ∨ E + k ≤ 0) → pX7_ofReal_95 G post k128 (d + 1) Bm bits by' M
  | 0, k, M, ρ, by', hd, h, hz, h1, hb, hk0 => by
    omega
  | d + 1, k, M, ρ, by', hd, h, hz, h1, hb, hk0 => by
    rw [pX7_ofReal_95]
    refine ⟨fun y => hk M ρ by' k h hz h1 hb hk0 (Or.inl (by have := i32_0.mp y; omega)), fun y => r7_np h 0 (fun z => hk M ρ by' k h hz h1 hb hk0 (Or.inr (Or.inl z))) (fun z => ⟨zP_o h, r7_isOdd h 0 ?_⟩)⟩
    by_cases c : ρ 0 % 2 = 1
    · rw [if_pos c]
      exact ⟨fun _ => hk M ρ by' k h hz h1 hb hk0 (Or.inr (Or.inr c)), fun w => absurd w (by decide)⟩
    · rw [if_neg c]
      refine ⟨fun w => absurd rfl w, fun _ => ⟨zP_o h, r7_half h 0 (fun M1 k1 x e => ?_)⟩⟩
      have hneg : by'.toInt < 0 := by
        rcases Int.lt_or_le by'.toInt 0 with q | q
        · exact q
        · exact absurd (i32_0.mpr q) y
      refine r7_halfL hE hE2 hk d (k + 1) M1 _ x (by omega) k1 ?_ h1 ?_ (Or.inr (by omega))
      · rw [rgu_s, Nat.pow_succ, Nat.mul_comm (2 ^ k) 2, ← Nat.mul_assoc, show ρ 0 / 2 * 2 = ρ 0 by omega]
        exact hz
      · rw [e]
        have := i32_a hb (show (1 : Int32).toInt = 1 from rfl) (by omega) (by omega)
        omega
theorem m7_ofReal (h : zRM G Bm M0 M S t) {bits : Int64} (hp : ∀ M', zRM G Bm M0 M' (zo_ofReal S bits).2 (zth (zo_ofReal S bits).1) → post ((zo_ofReal S bits).1.getD 0) M') : pX7_ofReal G Bm bits post M := by
  obtain ⟨ι, α, K, ρ, h, r, _⟩ := h
  unfold zo_ofReal at hp
  unfold pX7_ofReal
  intro x1 e1 x2 e2
  rw [zrf_x] at e1
  have hfl : zrf bits < 2048 := Nat.mod_lt _ (by decide)
  have hpl : zrp bits < 2 ^ 52 := Nat.mod_lt _ (by decide)
  have e2' : x2 = lN (zrp bits) := by
    rw [e2]
    exact lN_of (uN_mask bits (k := 52) (by decide))
  have ef : x1 = (2047 : Int32) ↔ zrf bits = 2047 := by
    rw [e1]
    exact nI_eq (b := 2047) (by omega) (by decide)
  have ez : x1 = (0 : Int32) ↔ zrf bits = 0 := by
    rw [e1]
    exact nI_eq (b := 0) (by omega) (by decide)
  refine ⟨fun y => ?_, fun y => ?_⟩
  · have y' : zrf bits ≠ 2047 := fun q => y (ef.mpr q)
    rw [if_neg y'] at hp
    unfold pX7_ofReal_30
    refine r7_thr h (fun M1 k1 => ⟨fun _ => ⟨zP_o k1, ?_⟩, fun z => absurd z y⟩)
    have r1 : zRn (upd ι 0 0) α K S := zRn_ι r (pk_un (by decide)) (pk_un (by decide))
    refine r7_isFull k1 r1 (fun c => ?_) (fun c => ?_)
    · rw [if_pos c] at hp
      have hp' : ∀ M', zRM G Bm M0 M' (zkp S (if 0 ≤ bits then 1 else -1) (zrz bits * 2 ^ (zre bits).toNat) (2 ^ (-(zre bits)).toNat)).2 0 → post (zkp S (if 0 ≤ bits then 1 else -1) (zrz bits * 2 ^ (zre bits).toNat) (2 ^ (-(zre bits)).toNat)).1 M' := hp
      have hE : -1100 ≤ zre bits ∧ zre bits ≤ 1000 := by
        unfold zre
        split <;> omega
      have hZ : zrz bits < 2 ^ 53 := by
        unfold zrz
        split <;> omega
      -- from the two small ones on
      have go : ∀ (sz : Int64) (by' : Int32) (M2 : zm_M) (ρ2 : Nat → Nat), zP G Bm M0 M2 (upd ι 0 0) α K ρ2 → ρ2 0 = zrz bits → ρ2 1 = 1 → by'.toInt = zre bits → ∃ n95 : Nat, pX7_ofReal_95 G post (fun w15 w16 w17 M18 => pX7_ofReal_128 G post w15 w16 w17 M18) n95 Bm bits by' M2 := by
        intro sz by' M2 ρ2 k2 q0 q1 qb
        refine ⟨1201, r7_halfL (Z := zrz bits) hE.1 hE.2 (fun M3 ρ3 b3 k k3 z3 o3 e3 g3 w3 => ?_) 1200 0 M2 ρ2 by' rfl k2 (by rw [q0, Nat.pow_zero, Nat.mul_one]) q1 (by rw [qb]; omega) (Or.inl rfl)⟩
        show pX7_ofReal_128 G post Bm bits b3 M3
        -- the end
        have fin : ∀ (M4 : zm_M) (ρ4 : Nat → Nat), zP G Bm M0 M4 (upd ι 0 0) α K ρ4 → Nat.gcd (ρ4 0) (ρ4 1) = 1 → ρ4 1 ≠ 0 → zkp S (if 0 ≤ bits then 1 else -1) (zrz bits * 2 ^ (zre bits).toNat) (2 ^ (-(zre bits)).toNat) = zkp S (if 0 ≤ bits then 1 else -1) (ρ4 0) (ρ4 1) → pX7_ofReal_164 G post Bm bits M4 := by
          intro M4 ρ4 k4 hg hn0 heq
          rw [heq] at hp'
          unfold pX7_ofReal_164 pX7_ofReal_176
          refine ⟨fun z => ⟨zP_o k4, ?_⟩, fun z => ⟨zP_o k4, ?_⟩⟩
          · rw [if_pos z] at hp'
            exact r7_keep (s := 1) k4 r1 c hg hn0 (fun _ => Or.inl rfl) pk_us hp'
          · rw [if_neg z] at hp'
            exact r7_keep (s := -1) k4 r1 c hg hn0 (fun _ => Or.inr rfl) pk_us hp'
        unfold pX7_ofReal_128
        refine r7_np k3 0 (fun z => fin M3 ρ3 k3 (by rw [o3]; exact Nat.gcd_one_right _) (by rw [o3]; decide) ?_) (fun z => ⟨fun w => ?_, fun w => ?_⟩)
        · rw [z3, z, o3, Nat.zero_mul, Nat.zero_mul]
          have := zkp_k (S := S) (s := if 0 ≤ bits then 1 else -1) (c := 2 ^ (-(zre bits)).toNat) (T := 0) (D := 1) (Nat.two_pow_pos _)
          rw [Nat.mul_zero, Nat.mul_one] at this
          exact this
        · have w' := i32_0.mp w
          rw [e3] at w'
          obtain ⟨b, hb⟩ : ∃ b : Nat, (b : Int) = zre bits + k := ⟨(zre bits + k).toNat, by omega⟩
          have en : b3 = nI b := by
            have := i32_n (x := b3) (by omega)
            rw [this, show b3.toInt.toNat = b by omega]
          unfold pX7_ofReal_148 pX7_ofReal_161
          refine ⟨fun _ => ⟨zP_o k3, ?_⟩, fun q => absurd w q⟩
          rw [en]
          have hT : ρ3 0 ≤ zrz bits := by
            rw [z3]
            exact Nat.le_mul_of_pos_right _ (Nat.two_pow_pos k)
          refine r7_up k3 0 b (Nat.pos_of_ne_zero z) (by omega) ?_ (fun M4 k4 => fin M4 _ k4 ?_ ?_ ?_)
          · have h1 : ρ3 0 * 2 ^ b ≤ 2 ^ 53 * 2 ^ 1000 := Nat.mul_le_mul (by omega) (Nat.pow_le_pow_right (by decide) (by omega))
            rw [← Nat.pow_add] at h1
            rw [zB2]
            exact Nat.lt_of_le_of_lt h1 (Nat.pow_lt_pow_right (by decide) (by decide))
          · show Nat.gcd _ (ρ3 1) = 1
            rw [o3]
            exact Nat.gcd_one_right _
          · show ρ3 1 ≠ 0
            rw [o3]
            decide
          · show _ = zkp S _ (ρ3 0 * 2 ^ b) (ρ3 1)
            rw [o3, z3]
            rcases g3 with q | q
            · subst q
              rw [Nat.pow_zero, Nat.mul_one, show (zre bits).toNat = b by omega, show (-(zre bits)).toNat = 0 by omega, Nat.pow_zero]
            · have hb0 : b = 0 := by omega
              rw [hb0, Nat.pow_zero, Nat.mul_one, show (zre bits).toNat = 0 by omega, show (-(zre bits)).toNat = k by omega, Nat.pow_zero, Nat.mul_one]
              have := zkp_k (S := S) (s := if 0 ≤ bits then 1 else -1) (c := 2 ^ k) (T := ρ3 0) (D := 1) (Nat.two_pow_pos _)
              rw [Nat.mul_one, Nat.mul_comm] at this
              exact this
        · have w' : ¬ 0 ≤ zre bits + (k : Int) := fun q => w (i32_0.mpr (by omega))
          obtain ⟨b, hb⟩ : ∃ b : Nat, (b : Int) = -(zre bits + k) := ⟨(-(zre bits + k)).toNat, by omega⟩
          have en : -b3 = nI b := by
            have h8 : (0 - b3 : Int32).toInt = 0 - (zre bits + k) := i32_s rfl e3 (by omega) (by omega)
            rw [Int32.zero_sub] at h8
            have := i32_n (x := -b3) (by omega)
            rw [this, show (-b3).toInt.toNat = b by omega]
          have hodd : ρ3 0 % 2 = 1 := by
            rcases w3 with q | q | q
            · exact absurd q w'
            · exact absurd q z
            · exact q
          unfold pX7_ofReal_148 pX7_ofReal_161
          refine ⟨fun q => absurd q w, fun _ => ⟨zP_o k3, ?_⟩⟩
          rw [en]
          refine r7_up k3 1 b (by rw [o3]; decide) (by omega) ?_ (fun M4 k4 => fin M4 _ k4 ?_ ?_ ?_)
          · rw [o3, Nat.one_mul, zB2]
            exact Nat.pow_lt_pow_right (by decide) (by omega)
          · show Nat.gcd (ρ3 0) (ρ3 1 * 2 ^ b) = 1
            rw [o3, Nat.one_mul]
            have h2 : Nat.gcd (ρ3 0) 2 = 1 := by
              rw [Nat.gcd_comm, Nat.gcd_rec, hodd]
              exact Nat.gcd_one_left _
            have := zcopow h2 1 b
            rw [Nat.pow_one] at this
            exact this
          · show ρ3 1 * 2 ^ b ≠ 0
            rw [o3, Nat.one_mul]
            exact Nat.ne_of_gt (Nat.two_pow_pos b)
          · show _ = zkp S _ (ρ3 0) (ρ3 1 * 2 ^ b)
            rw [o3, Nat.one_mul, z3, show (zre bits).toNat = 0 by omega, show (-(zre bits)).toNat = k + b by omega, Nat.pow_zero, Nat.mul_one, Nat.pow_add]
            have := zkp_k (S := S) (s := if 0 ≤ bits then 1 else -1) (c := 2 ^ k) (T := ρ3 0) (D := 2 ^ b) (Nat.two_pow_pos _)
            rw [Nat.mul_comm (2 ^ k) (ρ3 0)] at this
            exact this
      have o71 : ∀ sz : Int64, uN sz = zrz bits → pX7_ofReal_71 G post Bm bits x1 Bm (0 : Int32) sz M1 := by
        intro sz hsz
        unfold pX7_ofReal_71
        refine ⟨zP_o k1, r7_small k1 0 (fun M2 k2 => ⟨zP_o k2, r7_small k2 1 (fun M3 k3 => ⟨fun z x8 e8 => go sz x8 M3 _ k3 hsz rfl ?_, fun z x24 e24 => go sz x24 M3 _ k3 hsz rfl ?_⟩)⟩)⟩
        · have z' : zrf bits ≠ 0 := fun q => z (ez.mpr q)
          rw [e8, e1]
          unfold zre
          rw [if_neg z']
          exact i32_s (nI_toInt (by omega)) rfl (by omega) (by omega)
        · have z' : zrf bits = 0 := ez.mp z
          rw [e24]
          unfold zre
          rw [if_pos z']
          rfl
      refine ⟨fun z => o71 _ ?_, fun z => o71 _ ?_⟩
      · have z' : zrf bits ≠ 0 := fun q => z (ez.mpr q)
        unfold zrz
        rw [if_neg z', e2']
        have hor : uN (lN (zrp bits) ||| (4503599627370496 : Int64)) = zrp bits ||| 2 ^ 52 := by
          show ((lN (zrp bits)).toUInt64 ||| (4503599627370496 : Int64).toUInt64).toNat = _
          rw [UInt64.toNat_or]
          show uN (lN (zrp bits)) ||| uN (4503599627370496 : Int64) = _
          rw [uN_lN (by omega), show uN (4503599627370496 : Int64) = 2 ^ 52 by decide]
        rw [hor, Nat.or_comm, zor_add (Nat.dvd_refl _) hpl, Nat.add_comm]
      · have z' : zrf bits = 0 := ez.mp z
        unfold zrz
        rw [if_pos z', e2']
        exact uN_lN (by omega)
    · rw [if_neg c] at hp
      exact hp M1 ⟨_, _, _, _, k1, r1, pk_us⟩
  · rw [if_pos (ef.mp y)] at hp
    unfold pX7_ofReal_30
    refine r7_thr h (fun M1 k1 => ⟨fun z => absurd y z, fun _ => ?_⟩)
    have r1 : zRn (upd ι 0 1) α K S := zRn_ι r (pk_un (by decide)) (pk_un (by decide))
    exact hp M1 ⟨_, _, _, _, k1, r1, pk_us⟩
end R85
