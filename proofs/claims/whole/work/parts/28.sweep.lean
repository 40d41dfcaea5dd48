/-! ===== pure: the class's sweep finds the values of all states ===== -/
def BG : Int := 10000000
/-- the Outlook's cells: what a sweep reads -/
def OL (σ : qSt) (m R : Nat) (cap : Nat → Int) (pc : Nat → Nat → Int) (bs : Int) : Prop := σ 6 0 = nI m ∧ σ 6 1 = nI R ∧ σ 6 4 = iI bs ∧ (∀ k, 1 ≤ k → k ≤ R → σ 7 k = iI (cap k)) ∧ ∀ r g, r < 3 → g ≤ ln m R r → σ 8 (9 * r + g) = iI (pc r g)
def prS (pc : Nat → Nat → Int) (bs : Int) (t : Nat) : Int := bs + pc 0 (gn t 0) + pc 1 (gn t 1) + pc 2 (gn t 2)
def okm (m R : Nat) : Prop := (m = 2 ∨ m = 3) ∧ 1 ≤ R ∧ R ≤ 8
def tt (a b c : Nat) : Nat := a + 9 * b + 81 * c
section SW
variable {m R : Nat} {cap : Nat → Int} {pc : Nat → Nat → Int} {bs : Int} {σ : qSt}
theorem dD_bd {pr : Nat → Int} (hR : R ≤ 8) (hc : ∀ k, 1 ≤ k → k ≤ R → 0 ≤ cap k ∧ cap k ≤ BG) (hp : ∀ t, vst m R t → 0 ≤ pr t ∧ pr t ≤ 10000) : ∀ n t, vst m R t → mu m R t ≤ n → -BG - 80000 * n ≤ dD m R cap pr BG t ∧ dD m R cap pr BG t ≤ BG := by
  intro n
  have hB : BG = 10000000 := rfl
  induction n with
  | zero =>
    intro t hv hm
    rw [dD_eq hR hv]
    unfold dst
    by_cases hl : t = lst m R
    · rw [if_pos hl]; omega
    · rw [if_neg hl]
      have e : ∀ r, r < 3 → thr m R cap pr BG (dD m R cap pr BG) t r = -BG := by
        intro r hr
        unfold thr
        rw [if_neg]
        have := hv.2 r hr
        unfold mu at hm
        rcases (show r = 0 ∨ r = 1 ∨ r = 2 by omega) with rfl | rfl | rfl <;> omega
      rw [e 0 (by omega), e 1 (by omega), e 2 (by omega)]
      omega
  | succ n ih =>
    intro t hv hm
    rw [dD_eq hR hv]
    unfold dst
    by_cases hl : t = lst m R
    · rw [if_pos hl]; omega
    · rw [if_neg hl]
      have e : ∀ r, r < 3 → -BG - 80000 * ((n + 1 : Nat) : Int) ≤ thr m R cap pr BG (dD m R cap pr BG) t r ∧ thr m R cap pr BG (dD m R cap pr BG) t r ≤ BG := by
        intro r hr
        unfold thr
        by_cases hg : gn t r < ln m R r
        · rw [if_pos hg]
          have hl1 := ln_le (m := m) (R := R) (r := r)
          have hck := hc (gn t r + 1) (by omega) (by omega)
          have ha := aft_gn hR hv hr (s := gn t r + 1) (by omega) (by omega)
          have h1 := ih _ ha.1 (by omega)
          have h2 := hp _ ha.1
          have h3 : -BG - 80000 * ((n + 1 : Nat) : Int) ≤ tv pr (dD m R cap pr BG) t r (gn t r + 1) := by
            unfold tv
            have h5 : ((gn t r + 1 : Nat) : Int) * pr (aft t r (gn t r + 1)) ≤ 8 * 10000 := Int.mul_le_mul (by omega) h2.2 h2.1 (by omega)
            omega
          have h4 : -BG - 80000 * ((n + 1 : Nat) : Int) ≤ mxx (tv pr (dD m R cap pr BG) t r) (ln m R r - gn t r - 1) (gn t r + 1) := (le_mxx _ _).mpr ⟨gn t r + 1, Nat.le_refl _, by omega, h3⟩
          constructor
          · rw [Int.le_min]; omega
          · exact Int.le_trans (Int.min_le_left _ _) hck.2
        · rw [if_neg hg]; omega
      have e0 := e 0 (by omega)
      have e1 := e 1 (by omega)
      have e2 := e 2 (by omega)
      omega
theorem mu_le (hR : R ≤ 8) (t : Nat) : mu m R t ≤ 24 := by
  have l0 := ln_le (m := m) (R := R) (r := 0)
  have l1 := ln_le (m := m) (R := R) (r := 1)
  have l2 := ln_le (m := m) (R := R) (r := 2)
  unfold mu
  omega
theorem dD_b {pr : Nat → Int} (hR : R ≤ 8) (hc : ∀ k, 1 ≤ k → k ≤ R → 0 ≤ cap k ∧ cap k ≤ BG) (hp : ∀ t, vst m R t → 0 ≤ pr t ∧ pr t ≤ 10000) {t : Nat} (hv : vst m R t) : -12000000 ≤ dD m R cap pr BG t ∧ dD m R cap pr BG t ≤ 10000000 := by
  have h := dD_bd hR hc hp 24 t hv (mu_le hR t)
  have hB : BG = 10000000 := rfl
  omega
theorem tt_gn {a b c : Nat} (ha : a ≤ 8) (hb : b ≤ 8) (hc : c ≤ 8) : gn (tt a b c) 0 = a ∧ gn (tt a b c) 1 = b ∧ gn (tt a b c) 2 = c := by
  rw [gn0, gn1, gn2]
  unfold tt
  omega
theorem tt_v {a b c : Nat} (hR : R ≤ 8) (ha : a ≤ ln m R 0) (hb : b ≤ ln m R 1) (hc : c ≤ ln m R 2) : vst m R (tt a b c) := by
  have l0 := ln_le (m := m) (R := R) (r := 0)
  have l1 := ln_le (m := m) (R := R) (r := 1)
  have l2 := ln_le (m := m) (R := R) (r := 2)
  have h := tt_gn (a := a) (b := b) (c := c) (by omega) (by omega) (by omega)
  refine ⟨by unfold tt; omega, fun r hr => ?_⟩
  rcases (show r = 0 ∨ r = 1 ∨ r = 2 by omega) with rfl | rfl | rfl
  · rw [h.1]; exact ha
  · rw [h.2.1]; exact hb
  · rw [h.2.2]; exact hc
theorem tt_aft {a b c s : Nat} (ha : a ≤ 8) (hb : b ≤ 8) (hc : c ≤ 8) : (a ≤ s → aft (tt a b c) 0 s = tt s b c) ∧ (b ≤ s → aft (tt a b c) 1 s = tt a s c) ∧ (c ≤ s → aft (tt a b c) 2 s = tt a b s) := by
  have h := tt_gn ha hb hc
  rw [gn0, gn1, gn2] at h
  rw [aft0, aft1, aft2, h.1, h.2.1, h.2.2]
  unfold tt
  omega
/-- a trip's value behind it -/
def vA (D pr : Nat → Int) (b c s : Nat) : Int := D (tt s b c) - s * pr (tt s b c)
def vB (D pr : Nat → Int) (a c s : Nat) : Int := D (tt a s c) - s * pr (tt a s c)
def vC (D pr : Nat → Int) (a b s : Nat) : Int := D (tt a b s) - s * pr (tt a b s)
theorem thr_A {D pr : Nat → Int} {a b c : Nat} (hR : R ≤ 8) (ha : a ≤ ln m R 0) (hb : b ≤ ln m R 1) (hc : c ≤ ln m R 2) : thr m R cap pr BG D (tt a b c) 0 = if a < ln m R 0 then min (cap (a + 1)) (mxx (vA D pr b c) (ln m R 0 - (a + 1)) (a + 1)) else -BG := by
  have l0 := ln_le (m := m) (R := R) (r := 0)
  have l1 := ln_le (m := m) (R := R) (r := 1)
  have l2 := ln_le (m := m) (R := R) (r := 2)
  unfold thr
  rw [(tt_gn (a := a) (b := b) (c := c) (by omega) (by omega) (by omega)).1, show ln m R 0 - a - 1 = ln m R 0 - (a + 1) by omega, mxx_congr (g := vA D pr b c) _ _ (fun i h1 h2 => by unfold tv vA; rw [(tt_aft (s := i) (a := a) (b := b) (c := c) (by omega) (by omega) (by omega)).1 (by omega)])]
theorem thr_B {D pr : Nat → Int} {a b c : Nat} (hR : R ≤ 8) (ha : a ≤ ln m R 0) (hb : b ≤ ln m R 1) (hc : c ≤ ln m R 2) : thr m R cap pr BG D (tt a b c) 1 = if b < ln m R 1 then min (cap (b + 1)) (mxx (vB D pr a c) (ln m R 1 - (b + 1)) (b + 1)) else -BG := by
  have l0 := ln_le (m := m) (R := R) (r := 0)
  have l1 := ln_le (m := m) (R := R) (r := 1)
  have l2 := ln_le (m := m) (R := R) (r := 2)
  unfold thr
  rw [(tt_gn (a := a) (b := b) (c := c) (by omega) (by omega) (by omega)).2.1, show ln m R 1 - b - 1 = ln m R 1 - (b + 1) by omega, mxx_congr (g := vB D pr a c) _ _ (fun i h1 h2 => by unfold tv vB; rw [(tt_aft (s := i) (a := a) (b := b) (c := c) (by omega) (by omega) (by omega)).2.1 (by omega)])]
theorem thr_C {D pr : Nat → Int} {a b c : Nat} (hR : R ≤ 8) (ha : a ≤ ln m R 0) (hb : b ≤ ln m R 1) (hc : c ≤ ln m R 2) : thr m R cap pr BG D (tt a b c) 2 = if c < ln m R 2 then min (cap (c + 1)) (mxx (vC D pr a b) (ln m R 2 - (c + 1)) (c + 1)) else -BG := by
  have l0 := ln_le (m := m) (R := R) (r := 0)
  have l1 := ln_le (m := m) (R := R) (r := 1)
  have l2 := ln_le (m := m) (R := R) (r := 2)
  unfold thr
  rw [(tt_gn (a := a) (b := b) (c := c) (by omega) (by omega) (by omega)).2.2, show ln m R 2 - c - 1 = ln m R 2 - (c + 1) by omega, mxx_congr (g := vC D pr a b) _ _ (fun i h1 h2 => by unfold tv vC; rw [(tt_aft (s := i) (a := a) (b := b) (c := c) (by omega) (by omega) (by omega)).2.2 (by omega)])]
theorem e_lengthOf {r : Nat} (hm : okm m R) (hO : OL σ m R cap pc bs) (hr : r < 3) : fX1_lengthOf 6 (nI r) σ = some (nI (ln m R r), σ) := by
  unfold fX1_lengthOf ln
  have hm' := hm.1
  rw [hO.1, hO.2.1]
  rcases Nat.lt_or_ge r m with h | h
  · rw [if_neg (nI_ge h (by omega)), if_pos h]
  · rw [if_pos (nI_le h (by omega)), if_neg (by omega)]
    rfl
theorem qlen7 : qlen 7 = 9 := rfl
theorem qlen8 : qlen 8 = 27 := rfl
theorem qlen9 : qlen 9 = 729 := rfl
theorem qlen10 : qlen 10 = 243 := rfl
theorem e_through {r g j : Nat} {X : Int} (hm : okm m R) (hO : OL σ m R cap pc bs) (hr : r < 3) (hg : g ≤ ln m R r) (hj : j < 243) (hX : g < ln m R r → σ 10 j = iI X ∧ bd X) (hc : ∀ k, 1 ≤ k → k ≤ R → 0 ≤ cap k ∧ cap k ≤ BG) : fX1_through 6 (nI r) (nI g) (nI j) σ = some (iI (if g < ln m R r then min (cap (g + 1)) X else -BG), σ) := by
  have hl := ln_le (m := m) (R := R) (r := r)
  have hR := hm.2.2
  unfold fX1_through
  rw [qb_ok (e_lengthOf hm hO hr)]
  rcases Nat.lt_or_ge g (ln m R r) with h | h
  · obtain ⟨x1, x2⟩ := hX h
    have hck := hc (g + 1) (by omega) (by omega)
    have hB : BG = 10000000 := rfl
    rw [if_neg (nI_ge h (by omega)), nI_1]
    show qb (fX3_at 7 _ σ) _ = _
    rw [qb_ok (e_at (by rw [qlen7]; omega))]
    show qb (fX3_at 10 _ σ) _ = _
    rw [qb_ok (e_at (by rw [qlen10]; omega)), hO.2.2.2.1 (g + 1) (by omega) (by omega), x1, iI_min x2 (by unfold bd; omega), if_pos h, Int.min_comm]
  · rw [if_pos (nI_le h (by omega)), if_neg (by omega)]
    rfl
theorem e_offer {r g j : Nat} {v X : Int} (hm : okm m R) (hO : OL σ m R cap pc bs) (hr : r < 3) (hg : g ≤ ln m R r) (hj : j < 243) (hv : bd v) (hX : g < ln m R r → σ 10 j = iI X ∧ bd X) : fX1_offer 6 (nI r) (nI g) (nI j) (iI v) σ = some (0, qset σ 10 j (iI (if g < ln m R r then max v X else v))) := by
  have hl := ln_le (m := m) (R := R) (r := r)
  have hR := hm.2.2
  unfold fX1_offer
  rw [qb_ok (e_lengthOf hm hO hr)]
  rcases Nat.lt_or_ge g (ln m R r) with h | h
  · obtain ⟨x1, x2⟩ := hX h
    rw [if_neg (by rw [nI_eq (by omega) (by omega)]; omega)]
    unfold fX1_offer_14 fX1_offer_44
    rw [if_pos rfl]
    show qb (fX3_at 10 _ σ) _ = _
    rw [qb_ok (e_at (by rw [qlen10]; omega)), x1, iI_max hv x2]
    show qb (fX3_put 10 _ _ σ) _ = _
    rw [qb_ok (e_put (by rw [qlen10]; omega)), if_pos h]
  · rw [if_pos (by rw [nI_eq (by omega) (by omega)]; omega)]
    unfold fX1_offer_14 fX1_offer_44
    rw [if_neg q10]
    show qb (fX3_put 10 _ _ σ) _ = _
    rw [qb_ok (e_put (by rw [qlen10]; omega)), if_neg (by omega)]
end SW
