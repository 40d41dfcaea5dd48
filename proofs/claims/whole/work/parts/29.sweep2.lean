/-! ===== pure: the sweep, state by state ===== -/
def frS (σ0 σ : qSt) : Prop := ∀ k j, k ≠ 9 → k ≠ 10 → σ k j = σ0 k j
theorem OL.fr {σ0 σ : qSt} {m R : Nat} {cap : Nat → Int} {pc : Nat → Nat → Int} {bs : Int} (h : OL σ0 m R cap pc bs) (hf : frS σ0 σ) : OL σ m R cap pc bs :=
  ⟨(hf 6 0 (by decide) (by decide)).trans h.1, (hf 6 1 (by decide) (by decide)).trans h.2.1, (hf 6 4 (by decide) (by decide)).trans h.2.2.1, fun k h1 h2 => (hf 7 k (by decide) (by decide)).trans (h.2.2.2.1 k h1 h2), fun r g h1 h2 => (hf 8 _ (by decide) (by decide)).trans (h.2.2.2.2 r g h1 h2)⟩
/-- what is done before the states (a, b, c) with c < w -/
def dn (a b w : Nat) (a' b' c' : Nat) : Prop := a < a' ∨ (a' = a ∧ (b < b' ∨ (b' = b ∧ w ≤ c')))
def dn2 (b w : Nat) (b' c' : Nat) : Prop := b < b' ∨ (b' = b ∧ w ≤ c')
def PC (σ0 σ : qSt) (m R : Nat) (D pr : Nat → Int) (a b w : Nat) : Prop := frS σ0 σ ∧
  (∀ a' b' c', a' ≤ ln m R 0 → b' ≤ ln m R 1 → c' ≤ ln m R 2 → dn a b w a' b' c' → σ 9 (81 * a' + 9 * b' + c') = iI (D (tt a' b' c'))) ∧
  (∀ b' c', b' ≤ ln m R 1 → c' ≤ ln m R 2 → dn2 b w b' c' → σ 10 (9 * b' + c') = iI (mxx (vA D pr b' c') (ln m R 0 - a) a)) ∧
  (∀ b' c', b' ≤ ln m R 1 → c' ≤ ln m R 2 → ¬ dn2 b w b' c' → a < ln m R 0 → σ 10 (9 * b' + c') = iI (mxx (vA D pr b' c') (ln m R 0 - (a + 1)) (a + 1))) ∧
  (∀ c', c' ≤ ln m R 2 → w ≤ c' → σ 10 (81 + 9 * a + c') = iI (mxx (vB D pr a c') (ln m R 1 - b) b)) ∧
  (∀ c', c' ≤ ln m R 2 → c' < w → b < ln m R 1 → σ 10 (81 + 9 * a + c') = iI (mxx (vB D pr a c') (ln m R 1 - (b + 1)) (b + 1))) ∧
  (w ≤ ln m R 2 → σ 10 (162 + 9 * a + b) = iI (mxx (vC D pr a b) (ln m R 2 - w) w))
section SW2
variable {m R : Nat} {cap : Nat → Int} {pc : Nat → Nat → Int} {bs : Int} {σ0 σ : qSt}
theorem mxx_bd {f : Nat → Int} {lo hi : Int} : ∀ k s, (∀ i, s ≤ i → i ≤ s + k → lo ≤ f i ∧ f i ≤ hi) → lo ≤ mxx f k s ∧ mxx f k s ≤ hi := fun k s h => ⟨(le_mxx k s).mpr ⟨s, Nat.le_refl _, by omega, (h s (Nat.le_refl _) (by omega)).1⟩, (mxx_le k s).mpr (fun i h1 h2 => (h i h1 h2).2)⟩
theorem mxx_step {f : Nat → Int} {l a : Nat} (h : a ≤ l) : (if a < l then max (f a) (mxx f (l - (a + 1)) (a + 1)) else f a) = mxx f (l - a) a := by
  by_cases hl : a < l
  · rw [if_pos hl, show l - a = (l - (a + 1)) + 1 by omega]
    rfl
  · rw [if_neg hl, show l - a = 0 by omega]
    rfl
theorem v_bd {D pr : Nat → Int} {t s : Nat} (h1 : -12000000 ≤ D t ∧ D t ≤ 10000000) (h2 : 0 ≤ pr t ∧ pr t ≤ 10000) (hs : s ≤ 8) : -13000000 ≤ D t - s * pr t ∧ D t - s * pr t ≤ 10000000 := by
  have h5 : (s : Int) * pr t ≤ 8 * 10000 := Int.mul_le_mul (by omega) h2.2 h2.1 (by omega)
  have h6 : 0 ≤ (s : Int) * pr t := Int.mul_nonneg (by omega) h2.1
  omega
/-- what is asked of caps and prices -/
def okc (m R : Nat) (cap : Nat → Int) (pc : Nat → Nat → Int) (bs : Int) : Prop := (∀ k, 1 ≤ k → k ≤ R → 0 ≤ cap k ∧ cap k ≤ BG) ∧ ∀ t, vst m R t → 0 ≤ prS pc bs t ∧ prS pc bs t ≤ 10000
set_option maxHeartbeats 2000000 in
theorem e_settle {a b c : Nat} (hm : okm m R) (hO : OL σ0 m R cap pc bs) (hc : okc m R cap pc bs) (ha : a ≤ ln m R 0) (hb : b ≤ ln m R 1) (hcc : c ≤ ln m R 2) (hP : PC σ0 σ m R (dD m R cap (prS pc bs) BG) (prS pc bs) a b (c + 1)) : ∃ σ', fX1_settle 6 (nI a) (nI b) (nI c) σ = some (0, σ') ∧ PC σ0 σ' m R (dD m R cap (prS pc bs) BG) (prS pc bs) a b c := by
  obtain ⟨p1, p2, p3, p4, p5, p6, p7⟩ := hP
  have hR := hm.2.2
  have l0 := ln_le (m := m) (R := R) (r := 0)
  have l1 := ln_le (m := m) (R := R) (r := 1)
  have l2 := ln_le (m := m) (R := R) (r := 2)
  have hO1 := hO.fr p1
  generalize hD : dD m R cap (prS pc bs) BG = D at *
  generalize hpr : prS pc bs = pr at *
  have hDb : ∀ {t}, vst m R t → -12000000 ≤ D t ∧ D t ≤ 10000000 := fun {t} hv => by rw [← hD]; exact dD_b hR hc.1 (fun t h => hpr ▸ hc.2 t h) hv
  have hpb : ∀ {t}, vst m R t → 0 ≤ pr t ∧ pr t ≤ 10000 := fun {t} hv => hpr ▸ hc.2 t hv
  have hv := tt_v (m := m) hR ha hb hcc
  have bA : ∀ k s, s + k ≤ ln m R 0 → bd (mxx (vA D pr b c) k s) := fun k s h => by
    have := mxx_bd (f := vA D pr b c) (lo := -13000000) (hi := 10000000) k s (fun i h1 h2 => v_bd (hDb (tt_v hR (by omega) hb hcc)) (hpb (tt_v hR (by omega) hb hcc)) (by omega))
    unfold bd; omega
  have bB : ∀ k s, s + k ≤ ln m R 1 → bd (mxx (vB D pr a c) k s) := fun k s h => by
    have := mxx_bd (f := vB D pr a c) (lo := -13000000) (hi := 10000000) k s (fun i h1 h2 => v_bd (hDb (tt_v hR ha (by omega) hcc)) (hpb (tt_v hR ha (by omega) hcc)) (by omega))
    unfold bd; omega
  have bC : ∀ k s, s + k ≤ ln m R 2 → bd (mxx (vC D pr a b) k s) := fun k s h => by
    have := mxx_bd (f := vC D pr a b) (lo := -13000000) (hi := 10000000) k s (fun i h1 h2 => v_bd (hDb (tt_v hR ha hb (by omega))) (hpb (tt_v hR ha hb (by omega))) (by omega))
    unfold bd; omega
  -- the three thr
  have hA := thr_A (cap := cap) (D := D) (pr := pr) hR ha hb hcc
  have hB := thr_B (cap := cap) (D := D) (pr := pr) hR ha hb hcc
  have hC := thr_C (cap := cap) (D := D) (pr := pr) hR ha hb hcc
  have xA : a < ln m R 0 → σ 10 (9 * b + c) = iI (mxx (vA D pr b c) (ln m R 0 - (a + 1)) (a + 1)) ∧ bd (mxx (vA D pr b c) (ln m R 0 - (a + 1)) (a + 1)) := fun h => ⟨p4 b c hb hcc (by unfold dn2; omega) h, bA _ _ (by omega)⟩
  have xB : b < ln m R 1 → σ 10 (81 + 9 * a + c) = iI (mxx (vB D pr a c) (ln m R 1 - (b + 1)) (b + 1)) ∧ bd (mxx (vB D pr a c) (ln m R 1 - (b + 1)) (b + 1)) := fun h => ⟨p6 c hcc (by omega) h, bB _ _ (by omega)⟩
  have xC : c < ln m R 2 → σ 10 (162 + 9 * a + b) = iI (mxx (vC D pr a b) (ln m R 2 - (c + 1)) (c + 1)) ∧ bd (mxx (vC D pr a b) (ln m R 2 - (c + 1)) (c + 1)) := fun h => ⟨p7 (by omega), bC _ _ (by omega)⟩
  have tb : ∀ r, r < 3 → bd (thr m R cap pr BG D (tt a b c) r) := by
    have hBG : BG = 10000000 := rfl
    intro r hr
    rcases (show r = 0 ∨ r = 1 ∨ r = 2 by omega) with rfl | rfl | rfl
    · rw [hA]
      split
      · rename_i h
        have h1 := hc.1 (a + 1) (by omega) (by omega)
        have h2 := (xA h).2
        unfold bd at h2 ⊢
        omega
      · unfold bd; omega
    · rw [hB]
      split
      · rename_i h
        have h1 := hc.1 (b + 1) (by omega) (by omega)
        have h2 := (xB h).2
        unfold bd at h2 ⊢
        omega
      · unfold bd; omega
    · rw [hC]
      split
      · rename_i h
        have h1 := hc.1 (c + 1) (by omega) (by omega)
        have h2 := (xC h).2
        unfold bd at h2 ⊢
        omega
      · unfold bd; omega
  have hDeq : D (tt a b c) = dst m R cap pr BG D (tt a b c) := by
    have := dD_eq (m := m) (cap := cap) (pr := pr) (B := BG) hR hv
    rw [hD] at this
    exact this
  have hg := tt_gn (a := a) (b := b) (c := c) (by omega) (by omega) (by omega)
  have hlast : tt a b c = lst m R ↔ (a = ln m R 0 ∧ b = ln m R 1 ∧ c = ln m R 2) := by
    rw [lst_iff hm.1 hR hv]
    constructor
    · intro h
      have h0 := h 0 (by omega)
      have h1 := h 1 (by omega)
      have h2 := h 2 (by omega)
      rw [hg.1] at h0
      rw [hg.2.1] at h1
      rw [hg.2.2] at h2
      exact ⟨h0, h1, h2⟩
    · rintro ⟨h0, h1, h2⟩ r hr
      rcases (show r = 0 ∨ r = 1 ∨ r = 2 by omega) with rfl | rfl | rfl
      · rw [hg.1]; exact h0
      · rw [hg.2.1]; exact h1
      · rw [hg.2.2]; exact h2
  have hpr0 : pr (tt a b c) = bs + pc 0 a + pc 1 b + pc 2 c := by
    rw [← hpr]; unfold prS; rw [hg.1, hg.2.1, hg.2.2]
  -- the common end
  have fin : ∃ σ', fX1_settle_94 6 (nI a) (nI b) (nI c) (nI (9 * b + c)) (nI (81 + 9 * a + c)) (nI (162 + 9 * a + b)) (iI (D (tt a b c))) σ = some (0, σ') ∧ PC σ0 σ' m R D pr a b c := by
    have hvd := v_bd (s := a) (hDb hv) (hpb hv) (by omega)
    have hvd1 := v_bd (s := b) (hDb hv) (hpb hv) (by omega)
    have hvd2 := v_bd (s := c) (hDb hv) (hpb hv) (by omega)
    unfold fX1_settle_94
    have e1 : (nI a * 9 + nI b) * 9 + nI c = nI (81 * a + 9 * b + c) := by
      rw [show (9 : Int32) = nI 9 from rfl, pk_mul, nI_add, pk_mul, nI_add]
      congr 1
      omega
    have f1 : frS σ0 (qset σ 9 (81 * a + 9 * b + c) (iI (D (tt a b c)))) := fun k j h1 h2 => by rw [qset_ne (by omega)]; exact p1 k j h1 h2
    have O1 := hO.fr f1
    rw [e1]
    show ∃ σ', qb (fX3_put 9 _ _ σ) _ = _ ∧ _
    rw [qb_ok (e_put (by rw [qlen9]; omega))]
    show ∃ σ', qb (fX3_at 8 _ _) _ = _ ∧ _
    rw [qb_ok (e_at (k := 8) (by rw [qlen8]; omega))]
    show ∃ σ', qb (fX3_at 8 _ _) _ = _ ∧ _
    rw [show (9 : Int32) + nI b = nI (9 * 1 + b) from by rw [show (9 : Int32) = nI 9 from rfl, nI_add], qb_ok (e_at (k := 8) (by rw [qlen8]; omega))]
    show ∃ σ', qb (fX3_at 8 _ _) _ = _ ∧ _
    rw [show (18 : Int32) + nI c = nI (9 * 2 + c) from by rw [show (18 : Int32) = nI 18 from rfl, nI_add], qb_ok (e_at (k := 8) (by rw [qlen8]; omega))]
    have q0 := O1.2.2.2.2 0 a (by omega) ha
    rw [show 9 * 0 + a = a by omega] at q0
    rw [O1.2.2.1, q0, O1.2.2.2.2 1 b (by omega) hb, O1.2.2.2.2 2 c (by omega) hcc, iI_add, iI_add, iI_add, ← hpr0, iI_n a, iI_n b, iI_n c, iI_mul, iI_mul, iI_mul, iI_sub, iI_sub, iI_sub, ← iI_n a, ← iI_n b, ← iI_n c]
    -- offers
    have g1 : a < ln m R 0 → (qset σ 9 (81 * a + 9 * b + c) (iI (D (tt a b c)))) 10 (9 * b + c) = iI (mxx (vA D pr b c) (ln m R 0 - (a + 1)) (a + 1)) ∧ bd (mxx (vA D pr b c) (ln m R 0 - (a + 1)) (a + 1)) := fun h => by rw [qset_ne (by omega)]; exact xA h
    rw [show (0 : Int32) = nI 0 from rfl, qb_ok (e_offer (r := 0) hm O1 (by omega) ha (by omega) (by unfold bd; omega) g1)]
    have s1 : (if a < ln m R 0 then max (D (tt a b c) - (a : Int) * pr (tt a b c)) (mxx (vA D pr b c) (ln m R 0 - (a + 1)) (a + 1)) else (D (tt a b c) - (a : Int) * pr (tt a b c))) = mxx (vA D pr b c) (ln m R 0 - a) a := mxx_step (f := vA D pr b c) ha
    rw [s1]
    generalize hσ2 : qset (qset σ 9 (81 * a + 9 * b + c) (iI (D (tt a b c)))) 10 (9 * b + c) (iI (mxx (vA D pr b c) (ln m R 0 - a) a)) = σ2
    have f2 : frS σ0 σ2 := fun k j h1 h2 => by rw [← hσ2, qset_ne (by omega)]; exact f1 k j h1 h2
    have g2 : b < ln m R 1 → σ2 10 (81 + 9 * a + c) = iI (mxx (vB D pr a c) (ln m R 1 - (b + 1)) (b + 1)) ∧ bd (mxx (vB D pr a c) (ln m R 1 - (b + 1)) (b + 1)) := fun h => by rw [← hσ2, qset_ne (by omega), qset_ne (by omega)]; exact xB h
    rw [show (1 : Int32) = nI 1 from rfl, qb_ok (e_offer (r := 1) hm (hO.fr f2) (by omega) hb (by omega) (by unfold bd; omega) g2)]
    have s2 : (if b < ln m R 1 then max (D (tt a b c) - (b : Int) * pr (tt a b c)) (mxx (vB D pr a c) (ln m R 1 - (b + 1)) (b + 1)) else (D (tt a b c) - (b : Int) * pr (tt a b c))) = mxx (vB D pr a c) (ln m R 1 - b) b := mxx_step (f := vB D pr a c) hb
    rw [s2]
    generalize hσ3 : qset σ2 10 (81 + 9 * a + c) (iI (mxx (vB D pr a c) (ln m R 1 - b) b)) = σ3
    have f3 : frS σ0 σ3 := fun k j h1 h2 => by rw [← hσ3, qset_ne (by omega)]; exact f2 k j h1 h2
    have g3 : c < ln m R 2 → σ3 10 (162 + 9 * a + b) = iI (mxx (vC D pr a b) (ln m R 2 - (c + 1)) (c + 1)) ∧ bd (mxx (vC D pr a b) (ln m R 2 - (c + 1)) (c + 1)) := fun h => by rw [← hσ3, qset_ne (by omega), ← hσ2, qset_ne (by omega), qset_ne (by omega)]; exact xC h
    rw [show (2 : Int32) = nI 2 from rfl, qb_ok (e_offer (r := 2) hm (hO.fr f3) (by omega) hcc (by omega) (by unfold bd; omega) g3)]
    have s3 : (if c < ln m R 2 then max (D (tt a b c) - (c : Int) * pr (tt a b c)) (mxx (vC D pr a b) (ln m R 2 - (c + 1)) (c + 1)) else (D (tt a b c) - (c : Int) * pr (tt a b c))) = mxx (vC D pr a b) (ln m R 2 - c) c := mxx_step (f := vC D pr a b) hcc
    rw [s3]
    generalize hσ4 : qset σ3 10 (162 + 9 * a + b) (iI (mxx (vC D pr a b) (ln m R 2 - c) c)) = σ4
    refine ⟨σ4, rfl, fun k j h1 h2 => by rw [← hσ4, qset_ne (by omega)]; exact f3 k j h1 h2, ?_, ?_, ?_, ?_, ?_, ?_⟩
    · intro a' b' c' h1 h2 h3 hd
      rw [← hσ4, qset_ne (by omega), ← hσ3, qset_ne (by omega), ← hσ2, qset_ne (by omega)]
      by_cases he : a' = a ∧ b' = b ∧ c' = c
      · obtain ⟨rfl, rfl, rfl⟩ := he
        exact qset_same
      · rw [qset_ne (by omega)]
        exact p2 a' b' c' h1 h2 h3 (by unfold dn at hd ⊢; omega)
    · intro b' c' h2 h3 hd
      rw [← hσ4, qset_ne (by omega), ← hσ3, qset_ne (by omega), ← hσ2]
      by_cases he : b' = b ∧ c' = c
      · obtain ⟨rfl, rfl⟩ := he
        exact qset_same
      · rw [qset_ne (by omega), qset_ne (by omega)]
        exact p3 b' c' h2 h3 (by unfold dn2 at hd ⊢; omega)
    · intro b' c' h2 h3 hd hlt
      rw [← hσ4, qset_ne (by omega), ← hσ3, qset_ne (by omega), ← hσ2, qset_ne (by unfold dn2 at hd; omega), qset_ne (by omega)]
      exact p4 b' c' h2 h3 (by unfold dn2 at hd ⊢; omega) hlt
    · intro c' h3 hd
      rw [← hσ4, qset_ne (by omega), ← hσ3]
      by_cases he : c' = c
      · subst he
        exact qset_same
      · rw [qset_ne (by omega), ← hσ2, qset_ne (by omega), qset_ne (by omega)]
        exact p5 c' h3 (by omega)
    · intro c' h3 hd hlt
      rw [← hσ4, qset_ne (by omega), ← hσ3, qset_ne (by omega), ← hσ2, qset_ne (by omega), qset_ne (by omega)]
      exact p6 c' h3 (by omega) hlt
    · intro _
      rw [← hσ4]
      exact qset_same
  -- the head
  unfold fX1_settle
  have i1 : nI b * 9 + nI c = nI (9 * b + c) := e_ix
  have i2 : 81 + nI a * 9 + nI c = nI (81 + 9 * a + c) := by
    rw [show (81 : Int32) = nI 81 from rfl, show (9 : Int32) = nI 9 from rfl, pk_mul, nI_add, nI_add, Nat.mul_comm a 9]
  have i3 : 162 + nI a * 9 + nI b = nI (162 + 9 * a + b) := by
    rw [show (162 : Int32) = nI 162 from rfl, show (9 : Int32) = nI 9 from rfl, pk_mul, nI_add, nI_add, Nat.mul_comm a 9]
  rw [i1, i2, i3, show (0 : Int32) = nI 0 from rfl, show (1 : Int32) = nI 1 from rfl, show (2 : Int32) = nI 2 from rfl]
  rw [qb_ok (e_through (r := 0) hm hO1 (by omega) ha (by omega) xA hc.1), qb_ok (e_through (r := 1) hm hO1 (by omega) hb (by omega) xB hc.1), qb_ok (e_through (r := 2) hm hO1 (by omega) hcc (by omega) xC hc.1), ← hA, ← hB, ← hC]
  have hmax : (if iI (thr m R cap pr BG D (tt a b c) 0) < (if iI (thr m R cap pr BG D (tt a b c) 1) < iI (thr m R cap pr BG D (tt a b c) 2) then iI (thr m R cap pr BG D (tt a b c) 2) else iI (thr m R cap pr BG D (tt a b c) 1)) then (if iI (thr m R cap pr BG D (tt a b c) 1) < iI (thr m R cap pr BG D (tt a b c) 2) then iI (thr m R cap pr BG D (tt a b c) 2) else iI (thr m R cap pr BG D (tt a b c) 1)) else iI (thr m R cap pr BG D (tt a b c) 0)) = iI (max (thr m R cap pr BG D (tt a b c) 0) (max (thr m R cap pr BG D (tt a b c) 1) (thr m R cap pr BG D (tt a b c) 2))) := by
    have t0 := tb 0 (by omega)
    have t1 := tb 1 (by omega)
    have t2 := tb 2 (by omega)
    rw [iI_max t1 t2, iI_max t0 (by unfold bd at *; omega)]
  rw [hmax, qb_ok (e_lengthOf (r := 0) hm hO1 (by omega)), qb_ok (e_lengthOf (r := 1) hm hO1 (by omega)), qb_ok (e_lengthOf (r := 2) hm hO1 (by omega))]
  unfold dst at hDeq
  by_cases c0 : a = ln m R 0
  · rw [if_pos (by rw [← c0])]
    by_cases c1 : b = ln m R 1
    · rw [if_pos (by rw [← c1])]
      by_cases c2 : c = ln m R 2
      · rw [if_pos (by rw [← c2])]
        rw [if_pos (hlast.mpr ⟨c0, c1, c2⟩)] at hDeq
        have : (10000000 : Int32) = iI (D (tt a b c)) := by rw [hDeq]; rfl
        rw [this]
        exact fin
      · rw [if_neg (by rw [nI_eq (by omega) (by omega)]; exact c2)]
        rw [if_neg (fun q => c2 (hlast.mp q).2.2)] at hDeq
        rw [← hDeq]
        exact fin
    · rw [if_neg (by rw [nI_eq (by omega) (by omega)]; exact c1)]
      rw [if_neg (fun q => c1 (hlast.mp q).2.1)] at hDeq
      rw [← hDeq]
      exact fin
  · rw [if_neg (by rw [nI_eq (by omega) (by omega)]; exact c0)]
    rw [if_neg (fun q => c0 (hlast.mp q).1)] at hDeq
    rw [← hDeq]
    exact fin
end SW2
