/-! ===== pure: the law's loop ===== -/
theorem ALK.rd {σ : qSt} {f g : qSt → qR} (hI : INV σ) (h : ∃ v, f σ = some (v, σ) ∧ g σ = some (v, σ)) : ALK σ f g := by
  obtain ⟨v, h1, h2⟩ := h
  exact ⟨v, σ, σ, h1, h2, hI⟩
theorem ALK.go {σ : qSt} {f g rec : qSt → qR} (h : ALK σ f g) (hr : ∀ τ, INV τ → ∃ σ', rec τ = some (1, σ')) : ∃ σ', (qb (f σ) fun r s => qb (g s) fun r' s' => if r = r' then rec s' else some (0, s')) = some (1, σ') := by
  obtain ⟨v, σ1, σ2, h1, h2, h3⟩ := h
  obtain ⟨σ', h4⟩ := hr σ2 h3
  refine ⟨σ', ?_⟩
  rw [qb_ok h1, qb_ok h2, if_pos rfl, h4]
theorem law_end {L i : Nat} (hL : L ≤ 2048) (hi : i ≤ L) : (Int32.ofNat L) - 4 < nI i ↔ L < i + 4 := by
  show nI L - iI 4 < nI i ↔ _
  rw [iI_n L, iI_n i, iI_sub, iI_lt (by unfold bd; omega) (by unfold bd; omega)]
  omega
theorem a_rays {σ : qSt} (hI : INV σ) (x y : Int32) : ALK σ (fX3_rays 0 x y) (fX4_rays 18 x y) := by
  obtain ⟨m, R, o, bk, sh, c, ry, fa, hC, hM, hB⟩ := id hI
  exact b_rays hC hM hB x y
theorem a_costs {σ : qSt} (hI : INV σ) (x y : Int32) : ALK σ (fX3_costs 0 x y) (fX4_costs 18 x y) := by
  obtain ⟨m, R, o, bk, sh, c, ry, fa, hC, hM, hB⟩ := id hI
  exact b_costs hC hM hB x y
theorem a_share {σ : qSt} (hI : INV σ) (x y z : Int32) : ALK σ (fX3_share 0 x y z) (fX4_share 18 x y z) := by
  obtain ⟨m, R, o, bk, sh, c, ry, fa, hC, hM, hB⟩ := id hI
  exact b_share hC hM hB x y z
theorem a_shareOf {σ : qSt} (hI : INV σ) (x y : Int32) : ALK σ (fX3_shareOf 0 x y) (fX4_shareOf 18 x y) := by
  obtain ⟨m, R, o, bk, sh, c, ry, fa, hC, hM, hB⟩ := id hI
  exact ALK.rd hI (b_shareOf ⟨hC.1, hC.2.1, hC.2.2.1, hM.1, hM.2.1, hM.2.2.1, hB⟩ x y)
theorem a_trip {σ : qSt} (hI : INV σ) (x y : Int32) : ALK σ (fX3_trip 0 x y) (fX4_trip 18 x y) := by
  obtain ⟨m, R, o, bk, sh, c, ry, fa, hC, hM, hB⟩ := id hI
  exact b_trip hC hM hB x y
theorem a_tripOf {σ : qSt} (hI : INV σ) (x y : Int32) : ALK σ (fX3_tripOf 0 x y) (fX4_tripOf 18 x y) := by
  obtain ⟨m, R, o, bk, sh, c, ry, fa, hC, hM, hB⟩ := id hI
  exact ALK.rd hI (b_tripOf ⟨hC.1, hC.2.1, hC.2.2.1, hM.1, hM.2.1, hM.2.2.1, hB⟩ x y)
theorem a_drop {σ : qSt} (hI : INV σ) : ALK σ (fX3_drop 0) (fX4_drop 18) := by
  obtain ⟨m, R, o, bk, sh, c, ry, fa, hC, hM, hB⟩ := id hI
  exact b_drop hC hM hB
theorem a_clear {σ : qSt} (hI : INV σ) : ALK σ (fX3_clear 0) (fX4_clear 18) := by
  obtain ⟨m, R, o, bk, sh, c, ry, fa, hC, hM, hB⟩ := id hI
  exact b_clear hC hM
theorem a_way {σ : qSt} (hI : INV σ) (x y : Int32) : ALK σ (fX3_way 0 x y) (fX4_way 18 x y) := by
  obtain ⟨m, R, o, bk, sh, c, ry, fa, hC, hM, hB⟩ := id hI
  exact ALK.rd hI (b_way ⟨hC.1, hC.2.1, hC.2.2.1, hM.1, hM.2.1, hM.2.2.1, hB⟩ x y)
theorem a_late {σ : qSt} (hI : INV σ) (x y z : Int32) : ALK σ (fX3_late 0 x y z) (fX4_late 18 x y z) := by
  obtain ⟨m, R, o, bk, sh, c, ry, fa, hC, hM, hB⟩ := id hI
  exact ALK.rd hI (b_late ⟨hC.1, hC.2.1, hC.2.2.1, hM.1, hM.2.1, hM.2.2.1, hB⟩ x y z)
theorem a_worst {σ : qSt} (hI : INV σ) (x : Int32) : ALK σ (fX3_worst 0 x) (fX4_worst 18 x) := by
  obtain ⟨m, R, o, bk, sh, c, ry, fa, hC, hM, hB⟩ := id hI
  exact ALK.rd hI (b_worst ⟨hC.1, hC.2.1, hC.2.2.1, hM.1, hM.2.1, hM.2.2.1, hB⟩ x)
theorem a_mean {σ : qSt} (hI : INV σ) : ALK σ (fX3_mean 0) (fX4_mean 18) := by
  obtain ⟨m, R, o, bk, sh, c, ry, fa, hC, hM, hB⟩ := id hI
  exact ALK.rd hI (b_mean ⟨hC.1, hC.2.1, hC.2.2.1, hM.1, hM.2.1, hM.2.2.1, hB⟩)
theorem a_missed {σ : qSt} (hI : INV σ) (x : Int32) : ALK σ (fX3_missed 0 x) (fX4_missed 18 x) := by
  obtain ⟨m, R, o, bk, sh, c, ry, fa, hC, hM, hB⟩ := id hI
  exact ALK.rd hI (b_missed ⟨hC.1, hC.2.1, hC.2.2.1, hM.1, hM.2.1, hM.2.2.1, hB⟩ x)
theorem a_finds {σ : qSt} (hI : INV σ) (x : Int32) : ALK σ (fX3_finds 0 x) (fX4_finds 18 x) := by
  obtain ⟨m, R, o, bk, sh, c, ry, fa, hC, hM, hB⟩ := id hI
  exact ALK.rd hI (b_finds ⟨hC.1, hC.2.1, hC.2.2.1, hM.1, hM.2.1, hM.2.2.1, hB⟩ x)
theorem a_leastMean {σ : qSt} (hI : INV σ) : ALK σ (fX3_leastMean 0) (fX4_leastMean 18) := by
  obtain ⟨m, R, o, bk, sh, c, ry, fa, hC, hM, hB⟩ := id hI
  exact b_leastMean hC hM hB
theorem a_meanTrip {σ : qSt} (hI : INV σ) (x : Int32) : ALK σ (fX3_meanTrip 0 x) (fX4_meanTrip 18 x) := by
  obtain ⟨m, R, o, bk, sh, c, ry, fa, hC, hM, hB⟩ := id hI
  exact b_meanTrip hC hM hB x
theorem a_leastWorst {σ : qSt} (hI : INV σ) (x : Int32) : ALK σ (fX3_leastWorst 0 x) (fX4_leastWorst 18 x) := by
  obtain ⟨m, R, o, bk, sh, c, ry, fa, hC, hM, hB⟩ := id hI
  exact b_leastWorst hC hM hB x
theorem a_worstTrip {σ : qSt} (hI : INV σ) (x : Int32) : ALK σ (fX3_worstTrip 0 x) (fX4_worstTrip 18 x) := by
  obtain ⟨m, R, o, bk, sh, c, ry, fa, hC, hM, hB⟩ := id hI
  exact b_worstTrip hC hM hB x
theorem a_within {σ : qSt} (hI : INV σ) (x y : Int32) : ALK σ (fX3_within 0 x y) (fX4_within 18 x y) := by
  obtain ⟨m, R, o, bk, sh, c, ry, fa, hC, hM, hB⟩ := id hI
  exact b_within hC hM hB x y
theorem a_take {σ : qSt} (hI : INV σ) (x : Int32) : ALK σ (fX3_take 0 x) (fX4_take 18 x) := by
  obtain ⟨m, R, o, bk, sh, c, ry, fa, hC, hM, hB⟩ := id hI
  exact b_take hC hM hB x
theorem a_both {σ : qSt} (hI : INV σ) (x y z : Int32) : ALK σ (fX3_both 0 x y z) (fX4_both 18 x y z) := by
  obtain ⟨m, R, o, bk, sh, c, ry, fa, hC, hM, hB⟩ := id hI
  exact ALK.rd hI (b_both ⟨hC.1, hC.2.1, hC.2.2.1, hM.1, hM.2.1, hM.2.2.1, hB⟩ x y z)
theorem a_end {σ : qSt} (hI : INV σ) : ALK σ (fX3_end 0) (fX4_end 18) := by
  obtain ⟨m, R, o, bk, sh, c, ry, fa, hC, hM, hB⟩ := id hI
  exact ALK.rd hI (b_end ⟨hC.1, hC.2.1, hC.2.2.1, hM.1, hM.2.1, hM.2.2.1, hB⟩)
theorem a_told {σ : qSt} (hI : INV σ) (x : Int32) : ALK σ (fX3_told 0 x) (fX4_told 18 x) := by
  obtain ⟨m, R, o, bk, sh, c, ry, fa, hC, hM, hB⟩ := id hI
  exact ALK.rd hI (b_told ⟨hC.1, hC.2.1, hC.2.2.1, hM.1, hM.2.1, hM.2.2.1, hB⟩ x)
set_option maxRecDepth 20000 in
set_option maxHeartbeats 4000000 in
theorem law_loop {L : Nat} (hL : L ≤ 2048) (xs : Nat → Int32) : ∀ n i σ, INV σ → i ≤ L → L < i + 4 * n → ∃ σ', fL_law_18 L xs 0 18 n (nI i) σ = some (1, σ') := by
  intro n
  induction n with
  | zero => intro i σ _ h1 h2; omega
  | succ n ih =>
    intro i σ hI hi hn
    unfold fL_law_18
    by_cases he : L < i + 4
    · rw [if_pos ((law_end hL hi).mpr he)]
      exact ⟨σ, rfl⟩
    · rw [if_neg (fun q => he ((law_end hL hi).mp q))]
      have hq0 : qin (nI i) L = true := (qin_nI (by omega)).mpr (by omega)
      have hq1 : qin (nI i + 1) L = true := by
        show qin (nI i + nI 1) L = true
        rw [nI_add]; exact (qin_nI (by omega)).mpr (by omega)
      have hq2 : qin (nI i + 2) L = true := by
        show qin (nI i + nI 2) L = true
        rw [nI_add]; exact (qin_nI (by omega)).mpr (by omega)
      have hq3 : qin (nI i + 3) L = true := by
        show qin (nI i + nI 3) L = true
        rw [nI_add]; exact (qin_nI (by omega)).mpr (by omega)
      have hr : ∀ τ, INV τ → ∃ σ', fL_law_18 L xs 0 18 n (nI i + 4) τ = some (1, σ') := fun τ hτ => by
        show ∃ σ', fL_law_18 L xs 0 18 n (nI i + nI 4) τ = some (1, σ')
        rw [nI_add]
        exact ih (i + 4) τ hτ (by omega) (by omega)
      simp only [hq0, hq1, hq2, hq3, eq_self, if_true]
      generalize xs (Int32.toNatClampNeg (nI i)) &&& 31 = w
      generalize xs (Int32.toNatClampNeg (nI i + 1)) = x
      generalize xs (Int32.toNatClampNeg (nI i + 2)) = y
      generalize xs (Int32.toNatClampNeg (nI i + 3)) = z
      by_cases h0 : w = 0
      · rw [if_pos h0]
        exact (a_rays hI x y).go hr
      rw [if_neg h0]
      by_cases h1 : w = 1
      · rw [if_pos h1]
        exact (a_costs hI x y).go hr
      rw [if_neg h1]
      by_cases h2 : w = 2
      · rw [if_pos h2]
        exact (a_share hI x y z).go hr
      rw [if_neg h2]
      by_cases h3 : w = 3
      · rw [if_pos h3]
        exact (a_shareOf hI x y).go hr
      rw [if_neg h3]
      by_cases h4 : w = 4
      · rw [if_pos h4]
        exact (a_trip hI x y).go hr
      rw [if_neg h4]
      by_cases h5 : w = 5
      · rw [if_pos h5]
        exact (a_tripOf hI x y).go hr
      rw [if_neg h5]
      by_cases h6 : w = 6
      · rw [if_pos h6]
        exact (a_drop hI).go hr
      rw [if_neg h6]
      by_cases h7 : w = 7
      · rw [if_pos h7]
        exact (a_clear hI).go hr
      rw [if_neg h7]
      by_cases h8 : w = 8
      · rw [if_pos h8]
        exact (a_way hI x y).go hr
      rw [if_neg h8]
      by_cases h9 : w = 9
      · rw [if_pos h9]
        exact (a_late hI x y z).go hr
      rw [if_neg h9]
      by_cases h10 : w = 10
      · rw [if_pos h10]
        exact (a_worst hI x).go hr
      rw [if_neg h10]
      by_cases h11 : w = 11
      · rw [if_pos h11]
        exact (a_mean hI).go hr
      rw [if_neg h11]
      by_cases h12 : w = 12
      · rw [if_pos h12]
        exact (a_missed hI x).go hr
      rw [if_neg h12]
      by_cases h13 : w = 13
      · rw [if_pos h13]
        exact (a_finds hI x).go hr
      rw [if_neg h13]
      by_cases h14 : w = 14
      · rw [if_pos h14]
        exact (a_leastMean hI).go hr
      rw [if_neg h14]
      by_cases h15 : w = 15
      · rw [if_pos h15]
        exact (a_meanTrip hI x).go hr
      rw [if_neg h15]
      by_cases h16 : w = 16
      · rw [if_pos h16]
        exact (a_leastWorst hI x).go hr
      rw [if_neg h16]
      by_cases h17 : w = 17
      · rw [if_pos h17]
        exact (a_worstTrip hI x).go hr
      rw [if_neg h17]
      by_cases h18 : w = 18
      · rw [if_pos h18]
        exact (a_within hI x y).go hr
      rw [if_neg h18]
      by_cases h19 : w = 19
      · rw [if_pos h19]
        exact (a_take hI x).go hr
      rw [if_neg h19]
      by_cases h20 : w = 20
      · rw [if_pos h20]
        exact (a_both hI x y z).go hr
      rw [if_neg h20]
      by_cases h21 : w = 21
      · rw [if_pos h21]
        exact (a_end hI).go hr
      rw [if_neg h21]
      by_cases h22 : w = 22
      · rw [if_pos h22]
        exact (a_told hI x).go hr
      rw [if_neg h22]
      exact hr σ hI
theorem INV_start : INV qS00 := by
  have g2 : ∀ r s, r < 2 → 1 ≤ s → s ≤ 5 → qS00 2 (9 * r + s) = 1 ∧ 1 ≤ 100 := fun r s a b d => by
    refine ⟨?_, by omega⟩
    show qG0 2 (9 * r + s) = 1
    unfold qG0 qfill
    rw [if_pos ⟨rfl, by omega, by show _ < 27; omega⟩]
  have g19 : ∀ r s, r < 2 → 1 ≤ s → s ≤ 5 → qS00 19 (9 * r + s) = 1 ∧ 1 ≤ 100 := fun r s a b d => by
    refine ⟨?_, by omega⟩
    show qM1 19 (9 * r + s) = 1
    unfold qM1 qfill
    rw [if_pos ⟨rfl, by omega, by show _ < 27; omega⟩]
  refine ⟨2, 5, 1, 1, fun _ _ => 1, 0, fun _ => 0, fun _ => 0, ⟨⟨?_, ?_, by omega, g2⟩, ⟨?_, ?_, by omega, by omega, by omega, by omega⟩, ⟨⟨?_, ?_⟩, ?_, by omega, fun i hi => absurd hi (Nat.not_lt_zero _)⟩, Or.inl ?_, Or.inl ?_⟩, ⟨⟨?_, ?_, by omega, g19⟩, ⟨?_, ?_, by omega, by omega, by omega, by omega⟩, ⟨?_, by omega, fun i hi => absurd hi (Nat.not_lt_zero _)⟩, Or.inl ?_⟩, fun i hi => absurd hi (Nat.not_lt_zero _)⟩
  all_goals first | rfl | decide
/-- THE LAW answers 1 -/
theorem pure_law {L : Nat} (hL : L ≤ 2048) (xs : Nat → Int32) : ∃ σ', fL_law_18 L xs 0 18 qfu 0 qS00 = some (1, σ') := law_loop hL xs qfu 0 qS00 INV_start (by omega) (by unfold qfu; omega)
