/-! ===== TAPE ===== -/
/-- the tape holds L bytes t -/
def zT (τ : Nat → Int32) (β : Nat → Nat → Int32) (L : Nat) (t : Nat → Nat) : Prop := τ 27 = nI L ∧ L ≤ 400 ∧ ∀ j, j < L → t j < 256 ∧ β 1 j &&& 255 = nI (t j)
def zfg (L : Nat) (t : Nat → Nat) (j : Nat) : Prop := j < L ∧ 48 ≤ t j ∧ t j ≤ 57
theorem zfg_dec (L : Nat) (t : Nat → Nat) (j : Nat) : zfg L t j ∨ ¬ zfg L t j := by
  unfold zfg
  omega
/-- where at most so many figures end, from i on -/
def zef (L : Nat) (t : Nat → Nat) : Nat → Nat → Nat
  | 0, i => i
  | m + 1, i => if i < L ∧ 48 ≤ t i ∧ t i ≤ 57 then zef L t m (i + 1) else i
theorem zef_le (L : Nat) (t : Nat → Nat) : ∀ (m i : Nat), i ≤ zef L t m i ∧ zef L t m i ≤ i + m ∧ (i ≤ L → zef L t m i ≤ L) ∧ (∀ j, i ≤ j → j < zef L t m i → zfg L t j)
  | 0, i => ⟨Nat.le_refl _, Nat.le_refl _, fun h => h, fun j h1 h2 => absurd h2 (by show ¬ j < i; omega)⟩
  | m + 1, i => by
    unfold zef
    by_cases c : i < L ∧ 48 ≤ t i ∧ t i ≤ 57
    · rw [if_pos c]
      obtain ⟨h1, h2, h3, h4⟩ := zef_le L t m (i + 1)
      refine ⟨by omega, by omega, fun _ => h3 (by omega), fun j j1 j2 => ?_⟩
      by_cases e : j = i
      · rw [e]; exact c
      · exact h4 j (by omega) j2
    · rw [if_neg c]
      exact ⟨Nat.le_refl _, by omega, fun h => h, fun j h1 h2 => absurd h2 (by omega)⟩
/-- the number that figures make, behind v -/
def zdv (t : Nat → Nat) : Nat → Nat → Nat → Nat
  | 0, _, v => v
  | n + 1, i, v => zdv t n (i + 1) (v * 10 + (t i - 48))
theorem zdv_lt (t : Nat → Nat) : ∀ (n i v : Nat), (∀ j, i ≤ j → j < i + n → t j ≤ 57) → zdv t n i v < (v + 1) * 10 ^ n
  | 0, i, v, _ => by
    show v < (v + 1) * 10 ^ 0
    omega
  | n + 1, i, v, h => by
    have h1 := zdv_lt t n (i + 1) (v * 10 + (t i - 48)) (fun j j1 j2 => h j (by omega) (by omega))
    have h2 := h i (Nat.le_refl _) (by omega)
    show zdv t n (i + 1) (v * 10 + (t i - 48)) < (v + 1) * 10 ^ (n + 1)
    have h3 : (v * 10 + (t i - 48) + 1) * 10 ^ n ≤ ((v + 1) * 10) * 10 ^ n := Nat.mul_le_mul_right _ (by omega)
    rw [Nat.pow_succ, Nat.mul_comm (10 ^ n), ← Nat.mul_assoc]
    omega
theorem zdv_add (t : Nat → Nat) : ∀ (n k i v : Nat), zdv t (n + k) i v = zdv t k (i + n) (zdv t n i v)
  | 0, k, i, v => by rw [Nat.zero_add]; rfl
  | n + 1, k, i, v => by
    rw [show n + 1 + k = n + k + 1 by omega]
    show zdv t (n + k) (i + 1) (v * 10 + (t i - 48)) = zdv t k (i + (n + 1)) (zdv t n (i + 1) (v * 10 + (t i - 48)))
    rw [zdv_add t n k (i + 1), show i + 1 + n = i + (n + 1) by omega]
/-- the start, the end, the last end, and the first fault of what the tape holds -/
def zfs (L : Nat) (t : Nat → Nat) : Nat := if 0 < L ∧ t 0 = 45 then 1 else 0
def zfe (L : Nat) (t : Nat → Nat) : Nat := zef L t 160 (zfs L t)
def zfk (L : Nat) (t : Nat → Nat) : Nat := if zfe L t < L then t (zfe L t) else 256
def zfl (L : Nat) (t : Nat → Nat) : Nat := if zfe L t = zfs L t then zfe L t else if zfk L t = 47 then zef L t 160 (zfe L t + 1) else if zfk L t = 46 then zef L t (160 - (zfe L t - zfs L t)) (zfe L t + 1) else zfe L t
def zff (L : Nat) (t : Nat → Nat) : Option Nat := if zfe L t = zfs L t then some (zfs L t) else if (zfk L t = 47 ∨ zfk L t = 46) ∧ zfl L t = zfe L t + 1 then some (zfl L t) else if zfl L t < L then some (zfl L t) else none
section C4
variable {G : Nat → ClassId} {B : Nat} {M0 M : zm_M} {σ : Nat → Nat} {τ : Nat → Int32} {π : Nat → Nat} {β : Nat → Nat → Int32} {L : Nat} {t : Nat → Nat}
theorem zT_τ {τ' : Nat → Int32} (h : zT τ β L t) (e : τ' 27 = τ 27) : zT τ' β L t := ⟨e.trans h.1, h.2⟩
theorem c4_at {post : Int32 → zm_M → Prop} (h : zC G B M0 M σ τ π β) (hT : zT τ β L t) (j : Nat) (hj : j < 2 ^ 31) (h1 : j < L → post (nI (t j)) M) (h2 : L ≤ j → post (-1) M) : pX4_at G (B + 158) (nI j) post M := by
  obtain ⟨e27, hL, hb⟩ := hT
  unfold pX4_at
  refine ⟨fun y => absurd (i32_lt.mp y) (by rw [nI_toInt hj]; omega), fun _ => ⟨_, _, zC_t h, rfl, fun y => ?_, fun y => ⟨_, _, zC_t h, rfl, _, _, zC_tb h, ?_, ?_⟩⟩⟩
  · rw [e27] at y
    exact h2 ((nI_leI (by omega) hj).mp y)
  · rw [e27] at y
    have : ¬ L ≤ j := fun c => y ((nI_leI (by omega) hj).mpr c)
    exact vp_in_nI (by omega) (by omega)
  · rw [e27] at y
    have : ¬ L ≤ j := fun c => y ((nI_leI (by omega) hj).mpr c)
    rw [nI_clamp (by omega)]
    show post (β 1 j &&& 255) M
    rw [(hb j (by omega)).2]
    exact h1 (by omega)
theorem c4_add {post : Int32 → zm_M → Prop} (h : zC G B M0 M σ τ π β) (hT : zT τ β L t) (b : Nat) (hb : b < 256) (h0 : ¬ L < 400 → post 0 M) (h1 : L < 400 → ∀ (M' : zm_M) (β' : Nat → Nat → Int32), zC G B M0 M' σ (upd τ 27 (nI (L + 1))) π β' → zT (upd τ 27 (nI (L + 1))) β' (L + 1) (ux t L b) → β' 0 = β 0 → β' 2 = β 2 → post 1 M') : pX4_add G (B + 158) (nI b) post M := by
  obtain ⟨e27, hL, hbb⟩ := hT
  unfold pX4_add
  refine ⟨_, _, zC_t h, rfl, fun y => ?_, fun y => ⟨zb_0, h0 (fun c => y ?_)⟩⟩
  · rw [e27] at y
    have y' : L < 400 := (nI_ltI (b := 400) (by omega) (by decide)).mp y
    have h1 := h1 y'
    refine ⟨_, _, zC_t h, rfl, _, _, zC_t h, rfl, _, _, zC_tb h, ?_, ?_⟩
    · rw [e27]
      exact vp_in_nI y' (by omega)
    · rw [e27, nI_clamp (by omega)]
      obtain ⟨x, hx⟩ : ∃ x, x = vp_nar .byte (nI b).toInt8.toInt32 := ⟨_, rfl⟩
      rw [← hx]
      have hx2 : x &&& 255 = nI b := by
        rw [hx]
        have h8 := sc_k8 b hb
        rw [pk_vb (nI b)]
        exact h8
      have k1 := zC_ptb h (upd (β 1) L x)
      refine ⟨_, _, zC_t k1, rfl, _, zC_t k1, (show 1 < 5 by decide), zb_1, ?_⟩
      rw [e27, nI_1]
      have k2 := zC_ptape k1 27 (by decide) (nI (L + 1))
      refine h1 _ _ k2 ⟨pk_us, by omega, fun j hj => ?_⟩ (ub_n (by decide)) (ub_n (by decide))
      rw [ub_s]
      by_cases e : j = L
      · rw [e, pk_us]
        exact ⟨by rw [ux_s]; exact hb, by rw [ux_s]; exact hx2⟩
      · rw [pk_un e, ux_n e]
        exact hbb j (by omega)
  · rw [e27]
    exact (nI_ltI (b := 400) (by omega) (by decide)).mpr c
theorem c4_clear {post : zm_M → Prop} (h : zC G B M0 M σ τ π β) (hp : ∀ M', zC G B M0 M' σ (upd τ 27 0) π β → post M') : pX4_clear G (B + 158) post M := by
  unfold pX4_clear
  exact ⟨_, zC_t h, (show 1 < 5 by decide), hp _ (zC_ptape h 27 (by decide) 0)⟩
theorem c4_isFigure {post : Int32 → zm_M → Prop} (h : zC G B M0 M σ τ π β) (hT : zT τ β L t) (j : Nat) (hj : j < 2 ^ 31) (h1 : zfg L t j → post 1 M) (h2 : ¬ zfg L t j → post 0 M) : pX4_isFigure G (B + 158) (nI j) post M := by
  have hb := hT.2.2 j
  unfold pX4_isFigure
  refine ⟨zC_to h, c4_at h hT j hj (fun y => ?_) (fun y => ?_)⟩
  · have hb := hb y
    refine ⟨fun z => ⟨zb_0, h2 (fun c => ?_)⟩, fun z => ⟨zC_to h, c4_at h hT j hj (fun _ => ⟨fun x => ⟨zb_0, h2 (fun c => ?_)⟩, fun x => ⟨zb_1, h1 ⟨y, ?_, ?_⟩⟩⟩) (fun c => absurd y (by omega))⟩⟩
    · have := (nI_ltI (b := 48) (by omega) (by decide)).mp z
      have := c.2.1
      omega
    · have := (nI_ltI (a := 57) (by decide) (by omega)).mp x
      have := c.2.2
      omega
    · have : ¬ t j < 48 := fun c => z ((nI_ltI (b := 48) (by omega) (by decide)).mpr c)
      omega
    · have : ¬ 57 < t j := fun c => x ((nI_ltI (a := 57) (by decide) (by omega)).mpr c)
      omega
  · exact ⟨fun _ => ⟨zb_0, h2 (fun c => absurd c.1 (by omega))⟩, fun z => absurd (by decide) z⟩
theorem c4_eofL {post : Int32 → zm_M → Prop} {fr most : Nat} (h : zC G B M0 M σ τ π β) (hT : zT τ β L t) (hfr : fr + most < 2 ^ 30) : ∀ (m i : Nat), fr ≤ i → i + m = fr + most → post (nI (zef L t m i)) M → pX4_endOfFigures_2 G post (m + 1) (B + 158) (nI fr) (nI most) (nI i) M
  | 0, i, hi, he, hp => by
    rw [pX4_endOfFigures_2]
    refine ⟨fun _ => hp, fun y => absurd ?_ y⟩
    rw [pk_sub hi]
    exact (nI_leI (by omega) (by omega)).mpr (by omega)
  | m + 1, i, hi, he, hp => by
    rw [pX4_endOfFigures_2]
    refine ⟨fun y => ?_, fun _ => ⟨zC_to h, c4_isFigure h hT i (by omega) (fun c => ⟨fun y => absurd y (by decide), fun _ x3 e3 => ?_⟩) (fun c => ⟨fun _ => ?_, fun y => absurd rfl y⟩)⟩⟩
    · rw [pk_sub hi] at y
      have := (nI_leI (by omega) (by omega)).mp y
      omega
    · rw [e3, nI_1]
      refine c4_eofL h hT hfr m (i + 1) (by omega) (by omega) ?_
      unfold zef at hp
      rw [if_pos (show i < L ∧ 48 ≤ t i ∧ t i ≤ 57 from c)] at hp
      exact hp
    · unfold zef at hp
      rw [if_neg (show ¬ (i < L ∧ 48 ≤ t i ∧ t i ≤ 57) from c)] at hp
      exact hp
theorem c4_eof {post : Int32 → zm_M → Prop} {fr most : Nat} (h : zC G B M0 M σ τ π β) (hT : zT τ β L t) (hfr : fr + most < 2 ^ 30) (hp : post (nI (zef L t most fr)) M) : pX4_endOfFigures G (B + 158) (nI fr) (nI most) post M := by
  unfold pX4_endOfFigures
  exact ⟨most + 1, c4_eofL h hT hfr most fr (Nat.le_refl _) rfl hp⟩
end C4
