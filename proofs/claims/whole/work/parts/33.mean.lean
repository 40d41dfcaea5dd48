/-! ===== pure: the class's plan of the least mean ===== -/
/-- what is unfound on a ray -/
def uf (m R : Nat) (sh : Nat → Nat → Nat) (r g : Nat) : Nat := if r < m then sIn (sh r) (R - g) (g + 1) else 0
def capM : Nat → Int := fun _ => BG
def prM (m R : Nat) (sh : Nat → Nat → Nat) : Nat → Int := prS (fun r g => (uf m R sh r g : Int)) 0
def dM (m R : Nat) (sh : Nat → Nat → Nat) : Nat → Int := dD m R capM (prM m R sh) BG
def plM (m R : Nat) (sh : Nat → Nat → Nat) : List (Nat × Nat) := plW m R capM (dM m R sh) (prM m R sh) (dM m R sh 0)
/-- cells of the Outlook and of the plan that is written alone have changed -/
def frC (k2 : Nat) (σ0 σ : qSt) : Prop := ∀ k j, k ≠ 6 → k ≠ 7 → k ≠ 8 → k ≠ 9 → k ≠ 10 → k ≠ 11 → k ≠ k2 → k ≠ k2 + 1 → k ≠ k2 + 2 → σ k j = σ0 k j
theorem frC.trans {k2 : Nat} {a b c : qSt} (h1 : frC k2 a b) (h2 : frC k2 b c) : frC k2 a c := fun k j q1 q2 q3 q4 q5 q6 q7 q8 q9 => (h2 k j q1 q2 q3 q4 q5 q6 q7 q8 q9).trans (h1 k j q1 q2 q3 q4 q5 q6 q7 q8 q9)
theorem frS.toC {k2 : Nat} {a b : qSt} (h : frS a b) : frC k2 a b := fun k j q1 q2 q3 q4 q5 q6 q7 q8 q9 => h k j q4 q5
theorem frW.toC {k2 : Nat} {a b : qSt} (h : frW k2 a b) : frC k2 a b := fun k j q1 q2 q3 q4 q5 q6 q7 q8 q9 => h k j q6 q7 q8 q9
section EMEAN
variable {m R : Nat} {sh : Nat → Nat → Nat}
theorem sIn_le {f : Nat → Nat} {z : Nat} : ∀ n s, (∀ i, s ≤ i → i < s + n → f i ≤ z) → sIn f n s ≤ n * z := by
  intro n
  induction n with
  | zero => intro s _; simp [sIn]
  | succ n ih =>
    intro s h
    unfold sIn
    have h1 := h s (Nat.le_refl _) (by omega)
    have h2 := ih (s + 1) (fun i q1 q2 => h i (by omega) (by omega))
    rw [Nat.succ_mul]
    omega
theorem uf_le (hR : R ≤ 8) (hs : ∀ r s, r < m → 1 ≤ s → s ≤ R → sh r s ≤ 100) (r g : Nat) : uf m R sh r g ≤ 800 := by
  unfold uf
  split
  · rename_i hr
    have := sIn_le (f := sh r) (z := 100) (R - g) (g + 1) (fun i h1 h2 => hs r i hr (by omega) (by omega))
    have h2 : (R - g) * 100 ≤ 8 * 100 := Nat.mul_le_mul_right _ (by omega)
    omega
  · omega
theorem okc_M (hR : R ≤ 8) (hs : ∀ r s, r < m → 1 ≤ s → s ≤ R → sh r s ≤ 100) : okc m R capM (fun r g => (uf m R sh r g : Int)) 0 := by
  refine ⟨fun k _ _ => ⟨by show (0 : Int) ≤ BG; decide, Int.le_refl _⟩, fun t _ => ?_⟩
  have h0 := uf_le hR hs 0 (gn t 0)
  have h1 := uf_le hR hs 1 (gn t 1)
  have h2 := uf_le hR hs 2 (gn t 2)
  unfold prS
  dsimp only
  omega
theorem uf_step (hR : R ≤ 8) {r g : Nat} (hg : 1 ≤ g) : uf m R sh r g + (if r < m ∧ g ≤ R then sh r g else 0) = uf m R sh r (g - 1) := by
  unfold uf
  by_cases hr : r < m
  · rw [if_pos hr, if_pos hr, show g - 1 + 1 = g by omega]
    by_cases hgR : g ≤ R
    · rw [if_pos ⟨hr, hgR⟩, show R - (g - 1) = (R - g) + 1 by omega, sIn]
      omega
    · rw [if_neg (fun q => hgR q.2), show R - g = 0 by omega, show R - (g - 1) = 0 by omega]
      rfl
  · rw [if_neg hr, if_neg hr, if_neg (fun q => hr q.1)]
theorem CG.keep {σ σ' : qSt} (h : CG σ m R sh) (hf : ∀ k j, k = 1 ∨ k = 2 → σ' k j = σ k j) : CG σ' m R sh :=
  ⟨(hf 1 0 (by omega)).trans h.1, (hf 1 1 (by omega)).trans h.2.1, h.2.2.1, fun r s h1 h2 h3 => ⟨(hf 2 _ (by omega)).trans (h.2.2.2 r s h1 h2 h3).1, (h.2.2.2 r s h1 h2 h3).2⟩⟩
theorem e_shareAny {σ : qSt} (h : CG σ m R sh) {r g : Nat} (hr : r < 3) (hg : g ≤ 8) : fX0_shareAt 1 (nI r) (nI g) σ = some (nI (if r < m ∧ 1 ≤ g ∧ g ≤ R then sh r g else 0), σ) := by
  have g3 := h.2.2.1
  by_cases hq : r < m ∧ 1 ≤ g ∧ g ≤ R
  · rw [if_pos hq, e_shareAt h hq.1 hq.2.1 hq.2.2]
  · rw [if_neg hq, e_shareAt_out h]
    · rfl
    · rcases Nat.lt_or_ge r m with h1 | h1
      · rcases Nat.lt_or_ge g 1 with h2 | h2
        · exact Or.inr (Or.inr (Or.inl (nI_lt (b := 1) h2 (by omega))))
        · exact Or.inr (Or.inr (Or.inr (nI_lt (by omega) (by omega))))
      · exact Or.inr (Or.inl (nI_le h1 (by omega)))
/-- prices: all of the rays before r, and of r from w on -/
def PQ (σ0 σ : qSt) (m R : Nat) (sh : Nat → Nat → Nat) (r w : Nat) : Prop := (∀ k j, k ≠ 8 → σ k j = σ0 k j) ∧ ∀ r' g, r' < 3 → g ≤ 8 → (r' < r ∨ (r' = r ∧ w ≤ g)) → σ 8 (9 * r' + g) = nI (uf m R sh r' g)
theorem e_planMean_35 {σ0 : qSt} (hG : CG σ0 m R sh) {r : Nat} (hr : r < 3) {f : Int32 → qSt → qR} : ∀ n w σ, PQ σ0 σ m R sh r w → w ≤ 9 → w < n → ∃ σ', PQ σ0 σ' m R sh r 0 ∧ fX1_planMean_35 6 1 12 f n (nI r) (nI (uf m R sh r (w - 1))) (iI ((w : Int) - 1)) σ = f (nI (r + 1)) σ' := by
  intro n
  have g3 := hG.2.2.1
  induction n with
  | zero => intro w σ _ _ h; omega
  | succ n ih =>
    intro w σ hP h1 h2
    match w, h1, h2, hP with
    | 0, _, _, hP =>
      refine ⟨σ, hP, ?_⟩
      unfold fX1_planMean_35
      rw [if_pos (by show iI (((0 : Nat) : Int) - 1) < 0; exact iI_m1), nI_1]
    | g + 1, h1, h2, hP =>
      have hP' : PQ σ0 (qset σ 8 (9 * r + g) (nI (uf m R sh r g))) m R sh r g := by
        refine ⟨fun k j hk => by rw [qset_ne (by omega)]; exact hP.1 k j hk, fun r' g' q1 q2 q3 => ?_⟩
        by_cases he : r' = r ∧ g' = g
        · obtain ⟨rfl, rfl⟩ := he
          exact qset_same
        · rw [qset_ne (by omega)]
          exact hP.2 r' g' q1 q2 (by omega)
      have hG1 : CG (qset σ 8 (9 * r + g) (nI (uf m R sh r g))) m R sh := hG.keep (fun k j hk => hP'.1 k j (by omega))
      obtain ⟨σ1, z1, z2⟩ := ih g _ hP' (by omega) (by omega)
      refine ⟨σ1, z1, ?_⟩
      unfold fX1_planMean_35
      rw [show g + 1 - 1 = g by omega, i_pred, if_neg (nI_pos (by omega)), e_ix]
      show qb (fX3_put 8 _ _ σ) _ = _
      rw [qb_ok (e_put (by rw [qlen8]; omega)), qb_ok (e_shareAny hG1 hr (by omega)), nI_add, nI_m1]
      have : uf m R sh r g + (if r < m ∧ 1 ≤ g ∧ g ≤ R then sh r g else 0) = uf m R sh r (g - 1) ∨ g = 0 := by
        rcases Nat.eq_zero_or_pos g with h0 | h0
        · exact Or.inr h0
        · left
          rw [← uf_step (sh := sh) (by omega) h0]
          congr 1
          by_cases hq : r < m ∧ g ≤ R
          · rw [if_pos hq, if_pos ⟨hq.1, h0, hq.2⟩]
          · rw [if_neg hq, if_neg (fun z => hq ⟨z.1, z.2.2⟩)]
      rcases this with e | e
      · rw [e]; exact z2
      · subst e
        rw [if_neg (by omega), Nat.add_zero]
        exact z2
theorem e_planMean_23 {σ0 : qSt} (hG : CG σ0 m R sh) (h60 : σ0 6 0 = nI m) (h61 : σ0 6 1 = nI R) (h64 : σ0 6 4 = nI 0) : ∀ n r σ, PQ σ0 σ m R sh r 9 → r ≤ 3 → 3 - r < n → ∃ σ', fX1_planMean_23 6 1 12 n (nI r) σ = some (iI (BG - dM m R sh 0), σ') ∧ frC 12 σ0 σ' ∧ PL σ' 12 (plM m R sh).length (lry (plM m R sh)) (lfa (plM m R sh)) := by
  intro n
  have g3 := hG.2.2.1
  have hm : okm m R := ⟨by omega, by omega, by omega⟩
  have hs : ∀ r s, r < m → 1 ≤ s → s ≤ R → sh r s ≤ 100 := fun r s a b c => (hG.2.2.2 r s a b c).2
  have hc := okc_M (m := m) (R := R) (sh := sh) (by omega) hs
  induction n with
  | zero => intro r σ _ _ h; omega
  | succ n ih =>
    intro r σ hP h1 h2
    unfold fX1_planMean_23
    rcases Nat.lt_or_ge r 3 with hr | hr
    · obtain ⟨σ1, z1, z2⟩ := e_planMean_35 hG hr (f := fun z3 sg => fX1_planMean_23 6 1 12 n z3 sg) qfu 9 σ hP (by omega) (by unfold qfu; omega)
      have hz : nI (uf m R sh r (9 - 1)) = 0 := by
        unfold uf
        rw [show R - (9 - 1) = 0 by omega]
        split <;> rfl
      rw [hz, show iI (((9 : Nat) : Int) - 1) = 8 from rfl] at z2
      rw [if_neg (by show ¬ nI 3 ≤ nI r; exact nI_ge hr (by omega)), z2]
      refine ih (r + 1) σ1 ⟨z1.1, fun r' g' q1 q2 q3 => z1.2 r' g' q1 q2 (by omega)⟩ (by omega) (by omega)
    · have h3 : r = 3 := by omega
      subst h3
      rw [if_pos (by show nI 3 ≤ nI 3; exact nI_le (Nat.le_refl _) (by omega))]
      show ∃ σ', qb (fX3_putAll 7 10000000 σ) _ = _ ∧ _
      rw [qb_ok e_putAll]
      generalize hσ1 : qfill σ 7 0 10000000 = σ1
      have k1 : ∀ k j, k ≠ 7 → k ≠ 8 → σ1 k j = σ0 k j := fun k j q1 q2 => by
        rw [← hσ1]; unfold qfill; rw [if_neg (by omega)]; exact hP.1 k j q2
      have hO : OL σ1 m R capM (fun r g => (uf m R sh r g : Int)) 0 := by
        refine ⟨(k1 6 0 (by omega) (by omega)).trans h60, (k1 6 1 (by omega) (by omega)).trans h61, (k1 6 4 (by omega) (by omega)).trans h64, fun k q1 q2 => ?_, fun r g q1 q2 => ?_⟩
        · rw [← hσ1]; unfold qfill; rw [if_pos ⟨rfl, by omega, by rw [qlen7]; omega⟩]; rfl
        · have hl := ln_le (m := m) (R := R) (r := r)
          rw [← hσ1]; unfold qfill; rw [if_neg (by omega), hP.2 r g q1 (by omega) (by omega)]; exact iI_n _
      obtain ⟨σ2, w1, w2, w3⟩ := e_sweep hm hO hc
      have hMS : MS σ2 m R (dM m R sh) := fun t hv => by
        have := w3 (gn t 0) (gn t 1) (gn t 2) (hv.2 0 (by omega)) (hv.2 1 (by omega)) (hv.2 2 (by omega))
        rw [tt_inv hv.1] at this
        exact this
      have hDb : ∀ t, vst m R t → -12000000 ≤ dM m R sh t ∧ dM m R sh t ≤ 10000000 := fun t hv => dD_b (by omega) hc.1 hc.2 hv
      have hcx0 : cx 0 = 0 := rfl
      have h9 := hMS 0 vst0
      rw [hcx0] at h9
      obtain ⟨σ3, y1, y2, y3⟩ := e_write (k2 := 12) (by omega) ⟨rfl, rfl⟩ hm hDb hc (OL.fr hO w2) hMS (hDb 0 vst0)
      refine ⟨σ3, ?_, ?_, y3⟩
      · rw [qb_ok w1]
        show qb (fX3_at 9 (nI 0) σ2) _ = _
        rw [qb_ok (e_at (by rw [qlen9]; omega)), h9, qb_ok y1, show (10000000 : Int32) = iI BG from rfl, iI_sub]
      · have c1 : frC 12 σ0 σ1 := fun k j q1 q2 q3 q4 q5 q6 q7 q8 q9 => k1 k j q2 q3
        exact (c1.trans w2.toC).trans y2.toC
theorem e_planMean {σ : qSt} (hG : CG σ m R sh) : ∃ σ', fX1_planMean 6 1 12 σ = some (iI (BG - dM m R sh 0), σ') ∧ frC 12 σ σ' ∧ PL σ' 12 (plM m R sh).length (lry (plM m R sh)) (lfa (plM m R sh)) := by
  unfold fX1_planMean
  have e1 : qset σ 6 0 (σ 1 0) 1 1 = σ 1 1 := qset_ne (by omega)
  rw [e1]
  generalize hσ1 : qset (qset (qset σ 6 0 (σ 1 0)) 6 1 (σ 1 1)) 6 4 0 = σ1
  have k1 : ∀ k j, k ≠ 6 → σ1 k j = σ k j := fun k j hk => by rw [← hσ1, qset_ne (by omega), qset_ne (by omega), qset_ne (by omega)]
  have hG1 := hG.keep (σ' := σ1) (fun k j hk => k1 k j (by omega))
  obtain ⟨σ2, z1, z2, z3⟩ := e_planMean_23 (σ0 := σ1) hG1 (by rw [← hσ1, qset_ne (by omega), qset_ne (by omega), qset_same]; exact hG.1) (by rw [← hσ1, qset_ne (by omega), qset_same]; exact hG.2.1) (by rw [← hσ1, qset_same]; rfl) qfu 0 σ1 ⟨fun _ _ _ => rfl, fun r' g q1 q2 q3 => by omega⟩ (by omega) (by unfold qfu; omega)
  have c1 : frC 12 σ σ1 := fun k j q1 _ _ _ _ _ _ _ _ => k1 k j q1
  exact ⟨σ2, z1, c1.trans z2, z3⟩
end EMEAN
