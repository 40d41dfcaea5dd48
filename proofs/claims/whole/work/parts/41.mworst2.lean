/-! ===== pure: the model finds the least worst case, and its plan ===== -/
/-- what the model knows -/
def XK (σ : qSt) (W : Nat) : Prop := ∃ U L, σ 18 12 = nI U ∧ σ 18 13 = nI L ∧ 840 * U = W * L ∧ 1 ≤ L ∧ L ≤ 8 ∧ U ≤ 1000000
def KX (σ : qSt) : Prop := σ 18 14 = nI 0 ∨ ∃ m R W, okm m R ∧ σ 18 14 = nI (10 * m + R) ∧ isW m R W ∧ XK σ W
section MW2
variable {σ : qSt} {m R : Nat} {sh : Nat → Nat → Nat}
theorem okU_le {up low : Nat} (hup : up ≤ 100000) (hR : R ≤ 8) : okU R (capU up low) := by
  intro k h1 h2
  have hk : up * k ≤ 100000 * 8 := Nat.mul_le_mul hup (by omega)
  have hd : up * k / low ≤ up * k := Nat.div_le_self _ _
  unfold capU
  constructor
  · exact Int.natCast_nonneg _
  · exact Int.ofNat_le.mpr (Nat.le_trans hd (Nat.le_trans hk (by decide)))
theorem lst_ne0 (hm : okm m R) : ¬ 0 = lst m R := by
  have h1 := hm.2.1
  unfold lst
  split <;> omega
/-- a row of values tried: its first place says whether it is feasible -/
theorem e_tryM (hG : MG σ m R sh) (hm : okm m R) {W up low : Nat} (hW : isW m R W) (hlow : 1 ≤ low) (hlow2 : low ≤ 200000) (hup : up ≤ 100000) : ∃ σ', fX4_layMost 18 (nI up) (nI low) σ = some (0, σ') ∧ (∀ k j, k ≠ 23 → σ' k j = σ k j) ∧ (∀ t, vst m R t → σ' 23 t = iI (eK m R (capU up low) t)) ∧ (σ' 23 0 < 0 ↔ ¬ W * low ≤ 840 * up) := by
  have hc := okU_le (low := low) hup hm.2.2
  obtain ⟨σ', z1, z2, z3⟩ := e_layMost hG hm hlow hlow2 hup hc
  refine ⟨σ', z1, z2, z3, ?_⟩
  have hb := eK_bd hm hc (vst0 (m := m) (R := R))
  rw [z3 0 vst0, show (0 : Int32) = iI 0 from rfl, iI_lt (by unfold bd; omega) (by unfold bd; omega), ← feas_iff hm hW hlow]
  unfold eK
  rw [if_neg (lst_ne0 hm)]
  omega
theorem e_findWorst_63 (hm : okm m R) {W low U L : Nat} (hW : isW m R W) (hlow : 1 ≤ low) (hlow2 : low ≤ 8) (hU : U ≤ 1000000) (hL : 1 ≤ L ∧ L ≤ 8) {f : Int32 → qSt → qR} : ∀ n (no : Int) (yes : Nat) σ, MG σ m R sh → σ 18 12 = nI U → σ 18 13 = nI L → -1 ≤ no → no < yes → yes ≤ 400 → 840 * no < W * low → W * low ≤ 840 * yes → ((yes : Int) - no).toNat < n →
    ∃ y σ1, (∀ k j, k ≠ 23 → σ1 k j = σ k j) ∧ W * low ≤ 840 * y ∧ 840 * y < W * low + 840 ∧ y ≤ 400 ∧ fX4_findWorst_63 18 f n (nI low) (iI no) (nI yes) σ = (if U * low ≤ y * L then f (nI (low + 1)) σ1 else f (nI (low + 1)) (qset (qset σ1 18 12 (nI y)) 18 13 (nI low))) := by
  intro n
  induction n with
  | zero => intro no yes σ _ _ _ _ _ _ _ _ h; omega
  | succ n ih =>
    intro no yes σ hG h12 h13 h1 h2 h3 h4 h5 hn
    unfold fX4_findWorst_63
    rw [iI_n yes, iI_sub, show (1 : Int32) = iI 1 from rfl]
    by_cases hend : (yes : Int) - no ≤ 1
    · refine ⟨yes, σ, fun _ _ _ => rfl, h5, by omega, h3, ?_⟩
      rw [if_pos ((iI_le (by unfold bd; omega) (by unfold bd; omega)).mpr hend), h12, h13, ← iI_n yes, pk_mul, pk_mul]
      have a1 : U * low ≤ 1000000 * 8 := Nat.mul_le_mul hU hlow2
      have a2 : yes * L ≤ 400 * 8 := Nat.mul_le_mul h3 hL.2
      have e1 : nI low + iI 1 = nI (low + 1) := nI_1 low
      rw [e1]
      by_cases hq : U * low ≤ yes * L
      · rw [if_pos (nI_le hq (by omega)), if_pos hq]
      · rw [if_neg (nI_ge (by omega) (by omega)), if_neg hq]
    · rw [if_neg (fun z => hend ((iI_le (by unfold bd; omega) (by unfold bd; omega)).mp z)), iI_add]
      obtain ⟨s, hs⟩ : ∃ s : Nat, no + (yes : Int) = (s : Int) := ⟨(no + yes).toNat, by omega⟩
      rw [hs, ← iI_n s, show (2 : Int32) = nI 2 from rfl, pk_div (by omega) (by omega) (by omega)]
      obtain ⟨σ1, z1, z2, z3, z4⟩ := e_tryM hG hm hW (up := s / 2) hlow (by omega) (by omega)
      rw [qb_ok z1, if_pos (by decide)]
      show ∃ y σ1', _ ∧ _ ∧ _ ∧ _ ∧ (if σ1 23 0 < 0 then _ else _) = _
      have hG1 := hG.keep (σ' := σ1) (fun k j hk => z2 k j (by omega))
      by_cases hq : W * low ≤ 840 * (s / 2)
      · obtain ⟨y, σ2, y1, y2, y3, y4, y5⟩ := ih no (s / 2) σ1 hG1 ((z2 18 12 (by omega)).trans h12) ((z2 18 13 (by omega)).trans h13) h1 (by omega) (by omega) h4 (by omega) (by omega)
        refine ⟨y, σ2, fun k j hk => (y1 k j hk).trans (z2 k j hk), y2, y3, y4, ?_⟩
        rw [if_neg (fun z => (z4.mp z) hq)]
        exact y5
      · obtain ⟨y, σ2, y1, y2, y3, y4, y5⟩ := ih ((s / 2 : Nat) : Int) yes σ1 hG1 ((z2 18 12 (by omega)).trans h12) ((z2 18 13 (by omega)).trans h13) (by omega) (by omega) h3 (by omega) h5 (by omega)
        refine ⟨y, σ2, fun k j hk => (y1 k j hk).trans (z2 k j hk), y2, y3, y4, ?_⟩
        rw [if_pos (z4.mpr hq), ← iI_n yes, iI_n (s / 2)]
        exact y5
/-- behind the lows below low: never too little, and the exact ones were met -/
def LI (W low U L : Nat) : Prop := W * L ≤ 840 * U ∧ U ≤ 1000000 ∧ 1 ≤ L ∧ L ≤ 8 ∧ ∀ k j, 1 ≤ k → k < low → W * k = 840 * j → U * k ≤ j * L
theorem e_findWorst_49 (hm : okm m R) {W : Nat} (hW : isW m R W) : ∀ n low U L σ, MG σ m R sh → σ 18 12 = nI U → σ 18 13 = nI L → 1 ≤ low → low ≤ R + 1 → LI W low U L → R + 1 - low < n →
    ∃ U' L' σ', fX4_findWorst_49 18 n (nI low) σ = some (0, σ') ∧ LI W (R + 1) U' L' ∧ σ' 18 12 = nI U' ∧ σ' 18 13 = nI L' ∧ ∀ k j, k ≠ 23 → ¬ (k = 18 ∧ (j = 12 ∨ j = 13)) → σ' k j = σ k j := by
  intro n
  have hR := hm.2.2
  induction n with
  | zero => intro low U L σ _ _ _ _ _ _ h; omega
  | succ n ih =>
    intro low U L σ hG h12 h13 h1 h2 hI hn
    unfold fX4_findWorst_49
    rw [hG.2.1]
    rcases Nat.lt_or_ge R low with hl | hl
    · have : low = R + 1 := by omega
      subst this
      exact ⟨U, L, σ, by rw [if_pos (nI_lt hl (by omega))], hI, h12, h13, fun _ _ _ _ => rfl⟩
    · obtain ⟨i1, i2, i3, i4, i5⟩ := hI
      have hw2 := hW.2.1
      have hwl : W * low ≤ 13440 * 8 := Nat.mul_le_mul hw2 (by omega)
      have hwl0 : 1 ≤ W * low := Nat.mul_le_mul hW.1 h1
      obtain ⟨y, σ1, y1, y2, y3, y4, y5⟩ := e_findWorst_63 hm hW h1 (by omega) i2 ⟨i3, i4⟩ (f := fun z1 sg => fX4_findWorst_49 18 n z1 sg) qfu (-1) 400 σ hG h12 h13 (by omega) (by omega) (by omega) (by omega) (by omega) (by unfold qfu; omega)
      rw [if_neg (nI_nlt hl (by omega))]
      show ∃ U' L' σ', fX4_findWorst_63 18 _ qfu (nI low) (iI (-1)) (nI 400) σ = _ ∧ _
      rw [y5]
      have hy1 : 1 ≤ y := by omega
      by_cases hq : U * low ≤ y * L
      · rw [if_pos hq]
        obtain ⟨U', L', σ2, w1, w2, w3, w4, w5⟩ := ih (low + 1) U L σ1 (hG.keep (fun k j hk => y1 k j (by omega))) ((y1 18 12 (by omega)).trans h12) ((y1 18 13 (by omega)).trans h13) (by omega) (by omega) ⟨i1, i2, i3, i4, fun k j a b e => by
          by_cases hk : k = low
          · subst hk
            have : y = j := by omega
            subst this
            exact hq
          · exact i5 k j a (by omega) e⟩ (by omega)
        exact ⟨U', L', σ2, w1, w2, w3, w4, fun k j a b => (w5 k j a b).trans (y1 k j a)⟩
      · rw [if_neg hq]
        obtain ⟨U', L', σ2, w1, w2, w3, w4, w5⟩ := ih (low + 1) y low (qset (qset σ1 18 12 (nI y)) 18 13 (nI low)) (hG.keep (fun k j hk => by rw [qset_ne (by omega), qset_ne (by omega)]; exact y1 k j (by omega))) (by rw [qset_ne (by omega), qset_same]) qset_same (by omega) (by omega) ⟨y2, by omega, h1, by omega, fun k j a b e => by
          by_cases hk : k = low
          · subst hk
            have : y = j := by omega
            subst this
            exact Nat.le_refl _
          · have h7 := i5 k j a (by omega) e
            have h8 : y * L < U * low := by omega
            have h9 : y * L * k ≤ U * low * k := Nat.mul_le_mul_right _ (by omega)
            have h10 : U * low * k ≤ j * L * low := by
              rw [Nat.mul_assoc, Nat.mul_comm low k, ← Nat.mul_assoc]
              exact Nat.mul_le_mul_right _ h7
            have h11 : y * k * L ≤ j * low * L := by
              rw [Nat.mul_assoc, Nat.mul_comm k L, ← Nat.mul_assoc, Nat.mul_assoc j, Nat.mul_comm low L, ← Nat.mul_assoc]
              omega
            exact Nat.le_of_mul_le_mul_right h11 (by omega)⟩ (by omega)
        refine ⟨U', L', σ2, w1, w2, w3, w4, fun k j a b => ?_⟩
        rw [w5 k j a b, qset_ne (by omega), qset_ne (by omega)]
        exact y1 k j a
theorem LI_end (hm : okm m R) {W U L : Nat} (hW : isW m R W) (h : LI W (R + 1) U L) : 840 * U = W * L := by
  obtain ⟨i1, i2, i3, i4, i5⟩ := h
  obtain ⟨k, j, k1, k2, e⟩ := isW_exact hm hW
  have h7 := i5 k j k1 (by omega) e
  have h8 : 840 * U * k ≤ W * L * k := by
    calc 840 * U * k = 840 * (U * k) := Nat.mul_assoc _ _ _
      _ ≤ 840 * (j * L) := Nat.mul_le_mul_left _ h7
      _ = 840 * j * L := (Nat.mul_assoc _ _ _).symm
      _ = W * k * L := by rw [e]
      _ = W * L * k := by rw [Nat.mul_assoc, Nat.mul_comm k L, ← Nat.mul_assoc]
  have h9 := Nat.le_of_mul_le_mul_right h8 (by omega)
  omega
/-- the model's search, with what it knows -/
theorem e4_findWorst (hG : MG σ m R sh) (hm : okm m R) {W : Nat} (hW : isW m R W) (hX : KX σ) : ∃ σ', fX4_findWorst 18 σ = some (0, σ') ∧ (∀ k j, k ≠ 23 → ¬ (k = 18 ∧ (j = 12 ∨ j = 13 ∨ j = 14)) → σ' k j = σ k j) ∧ σ' 18 14 = nI (10 * m + R) ∧ XK σ' W := by
  have hR := hm.2.2
  have hm1 := hm.1
  have hR1 := hm.2.1
  unfold fX4_findWorst
  have e1 : 10 * σ 18 0 + σ 18 1 = nI (10 * m + R) := by rw [hG.1, hG.2.1, show (10 : Int32) = nI 10 from rfl, pk_mul, nI_add]
  rw [e1]
  have fresh : ∃ σ', fX4_findWorst_49 18 qfu 1 (qset (qset (qset σ 18 14 (nI (10 * m + R))) 18 12 1000000) 18 13 1) = some (0, σ') ∧ (∀ k j, k ≠ 23 → ¬ (k = 18 ∧ (j = 12 ∨ j = 13 ∨ j = 14)) → σ' k j = σ k j) ∧ σ' 18 14 = nI (10 * m + R) ∧ XK σ' W := by
    generalize hσ1 : qset (qset (qset σ 18 14 (nI (10 * m + R))) 18 12 1000000) 18 13 1 = σ1
    have k1 : ∀ k j, ¬ (k = 18 ∧ (j = 12 ∨ j = 13 ∨ j = 14)) → σ1 k j = σ k j := fun k j hk => by rw [← hσ1, qset_ne (by omega), qset_ne (by omega), qset_ne (by omega)]
    have hw2 := hW.2.1
    obtain ⟨U, L, σ2, w1, w2, w3, w4, w5⟩ := e_findWorst_49 (sh := sh) hm hW qfu 1 1000000 1 σ1 (hG.keep (fun k j hk => k1 k j (by omega))) (by rw [← hσ1, qset_ne (by omega), qset_same]; rfl) (by rw [← hσ1, qset_same]; rfl) (by omega) (by omega) ⟨by omega, by omega, by omega, by omega, fun k j a b => by omega⟩ (by unfold qfu; omega)
    refine ⟨σ2, w1, fun k j a b => (w5 k j a (by omega)).trans (k1 k j b), ?_, U, L, w3, w4, LI_end hm hW w2, w2.2.2.1, w2.2.2.2.1, w2.2.1⟩
    rw [w5 18 14 (by omega) (by omega), ← hσ1, qset_ne (by omega), qset_ne (by omega), qset_same]
  rcases hX with h | ⟨m', R', W', ok', h, hW', hXK⟩
  · rw [if_neg (by rw [h, nI_eq (by omega) (by omega)]; omega)]
    exact fresh
  · have o1 := ok'.1
    have o2 := ok'.2
    by_cases he : 10 * m' + R' = 10 * m + R
    · rw [if_pos (by rw [h, he])]
      have hmm : m' = m := by omega
      have hRR : R' = R := by omega
      subst hmm; subst hRR
      have := isW_unique hm hW' hW
      subst this
      exact ⟨σ, rfl, fun _ _ _ _ => rfl, h, hXK⟩
    · rw [if_neg (by rw [h, nI_eq (by omega) (by omega)]; exact he)]
      exact fresh
end MW2
