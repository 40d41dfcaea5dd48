/-! ===== pure: the invariant; the calls for the bests ===== -/
def CI (σ : qSt) (m R o bk : Nat) (sh : Nat → Nat → Nat) (c : Nat) (ry fa : Nat → Nat) : Prop := CG σ m R sh ∧ CO σ o bk ∧ PL σ 3 c ry fa ∧ KM σ m R sh ∧ KW σ m R
def MI (σ : qSt) (m R o bk : Nat) (sh : Nat → Nat → Nat) (c : Nat) (ry fa : Nat → Nat) : Prop := MG σ m R sh ∧ MO σ o bk ∧ MP σ c ry fa ∧ KX σ
def INV (σ : qSt) : Prop := ∃ m R o bk sh c ry fa, CI σ m R o bk sh c ry fa ∧ MI σ m R o bk sh c ry fa ∧ PB c ry fa m R
section KEEP
variable {σ σ' : qSt} {m R o bk c : Nat} {sh : Nat → Nat → Nat} {ry fa : Nat → Nat}
theorem PL.keep {k : Nat} (h : PL σ k c ry fa) (hf : ∀ q j, q = k ∨ q = k + 1 ∨ q = k + 2 → σ' q j = σ q j) : PL σ' k c ry fa :=
  ⟨h.1, (hf k 2 (by omega)).trans h.2.1, h.2.2.1, fun i hi => ⟨(hf _ i (by omega)).trans (h.2.2.2 i hi).1, (hf _ i (by omega)).trans (h.2.2.2 i hi).2⟩⟩
theorem CO.keep (h : CO σ o bk) (hf : ∀ j, j < 2 → σ' 0 j = σ 0 j) : CO σ' o bk := ⟨(hf 0 (by omega)).trans h.1, (hf 1 (by omega)).trans h.2.1, h.2.2⟩
theorem KM.keep (h : KM σ m R sh) (hf : ∀ k j, (k = 0 ∧ (j = 7 ∨ j = 9)) ∨ k = 12 ∨ k = 13 ∨ k = 14 → σ' k j = σ k j) : KM σ' m R sh := by
  rcases h with h | ⟨h1, h2, h3⟩
  · exact Or.inl ((hf 0 7 (by omega)).trans h)
  · exact Or.inr ⟨(hf 0 7 (by omega)).trans h1, (hf 0 9 (by omega)).trans h2, h3.keep (fun q j hq => hf q j (by omega))⟩
theorem KW.keep (h : KW σ m R) (hf : ∀ k j, (k = 0 ∧ (j = 8 ∨ j = 10)) ∨ k = 15 ∨ k = 16 ∨ k = 17 → σ' k j = σ k j) : KW σ' m R := by
  rcases h with h | ⟨h1, W, hW, h2, h3⟩
  · exact Or.inl ((hf 0 8 (by omega)).trans h)
  · exact Or.inr ⟨(hf 0 8 (by omega)).trans h1, W, hW, (hf 0 10 (by omega)).trans h2, h3.keep (fun q j hq => hf q j (by omega))⟩
theorem MP.keep (h : MP σ c ry fa) (hf : ∀ k j, (k = 18 ∧ j = 5) ∨ k = 20 ∨ k = 21 → σ' k j = σ k j) : MP σ' c ry fa :=
  ⟨(hf 18 5 (by omega)).trans h.1, h.2.1, fun i hi => ⟨(hf 20 i (by omega)).trans (h.2.2 i hi).1, (hf 21 i (by omega)).trans (h.2.2 i hi).2⟩⟩
theorem KX.keep (h : KX σ) (hf : ∀ j, 12 ≤ j → σ' 18 j = σ 18 j) : KX σ' := by
  rcases h with h | ⟨m, R, W, hm, h1, hW, U, L, x1, x2, x3⟩
  · exact Or.inl ((hf 14 (by omega)).trans h)
  · exact Or.inr ⟨m, R, W, hm, (hf 14 (by omega)).trans h1, hW, U, L, (hf 12 (by omega)).trans x1, (hf 13 (by omega)).trans x2, x3⟩
theorem CI.keep (h : CI σ m R o bk sh c ry fa) (hf : ∀ k j, k < 18 → σ' k j = σ k j) : CI σ' m R o bk sh c ry fa :=
  ⟨h.1.keep (fun k j hk => hf k j (by omega)), h.2.1.keep (fun j _ => hf 0 j (by omega)), h.2.2.1.keep (fun k j hk => hf k j (by omega)), h.2.2.2.1.keep (fun k j hk => hf k j (by omega)), h.2.2.2.2.keep (fun k j hk => hf k j (by omega))⟩
theorem MI.keep (h : MI σ m R o bk sh c ry fa) (hf : ∀ k j, 18 ≤ k → σ' k j = σ k j) : MI σ' m R o bk sh c ry fa :=
  ⟨h.1.keep (fun k j hk => hf k j (by omega)), h.2.1.keep (fun j _ => hf 18 j (by omega)), h.2.2.1.keep (fun k j hk => hf k j (by omega)), h.2.2.2.keep (fun j _ => hf 18 j (by omega))⟩
theorem CG.okm (h : CG σ m R sh) : okm m R := ⟨by have := h.2.2.1; omega, by have := h.2.2.1; omega, by have := h.2.2.1; omega⟩
/-- behind findMean the class is as before, and knows -/
theorem c_findMean (h : CI σ m R o bk sh c ry fa) : ∃ σ', fX3_findMean 0 σ = some (0, σ') ∧ CI σ' m R o bk sh c ry fa ∧ (∀ k j, 18 ≤ k → σ' k j = σ k j) ∧ σ' 0 9 = iI (BG - dM m R sh 0) ∧ PL σ' 12 (plM m R sh).length (lry (plM m R sh)) (lfa (plM m R sh)) := by
  obtain ⟨hG, hO, hP, hKM, hKW⟩ := h
  obtain ⟨σ', z1, z2, z3, z4, z5⟩ := e_findMean hG hKM
  refine ⟨σ', z1, ⟨hG.keep (fun k j hk => z2 k j (by omega) (by omega) (by omega) (by omega) (by omega) (by omega) (by omega) (by omega) (by omega) (by omega)), hO.keep (fun j hj => z2 0 j (by omega) (by omega) (by omega) (by omega) (by omega) (by omega) (by omega) (by omega) (by omega) (by omega)), hP.keep (fun k j hk => z2 k j (by omega) (by omega) (by omega) (by omega) (by omega) (by omega) (by omega) (by omega) (by omega) (by omega)), Or.inr ⟨z3, z4, z5⟩, hKW.keep (fun k j hk => z2 k j (by omega) (by omega) (by omega) (by omega) (by omega) (by omega) (by omega) (by omega) (by omega) (by omega))⟩, fun k j hk => z2 k j (by omega) (by omega) (by omega) (by omega) (by omega) (by omega) (by omega) (by omega) (by omega) (by omega), z4, z5⟩
theorem c_findWorst (h : CI σ m R o bk sh c ry fa) : ∃ W σ', isW m R W ∧ fX3_findWorst 0 σ = some (0, σ') ∧ CI σ' m R o bk sh c ry fa ∧ (∀ k j, 18 ≤ k → σ' k j = σ k j) ∧ σ' 0 10 = nI W ∧ PL σ' 15 (plX m R W).length (lry (plX m R W)) (lfa (plX m R W)) := by
  obtain ⟨hG, hO, hP, hKM, hKW⟩ := h
  obtain ⟨W, σ', hW, z1, z2, z3, z4, z5⟩ := e_findWorst hG hKW
  refine ⟨W, σ', hW, z1, ⟨hG.keep (fun k j hk => z2 k j (by omega) (by omega) (by omega) (by omega) (by omega) (by omega) (by omega) (by omega) (by omega) (by omega)), hO.keep (fun j hj => z2 0 j (by omega) (by omega) (by omega) (by omega) (by omega) (by omega) (by omega) (by omega) (by omega) (by omega)), hP.keep (fun k j hk => z2 k j (by omega) (by omega) (by omega) (by omega) (by omega) (by omega) (by omega) (by omega) (by omega) (by omega)), hKM.keep (fun k j hk => z2 k j (by omega) (by omega) (by omega) (by omega) (by omega) (by omega) (by omega) (by omega) (by omega) (by omega)), Or.inr ⟨z3, W, hW, z4, z5⟩⟩, fun k j hk => z2 k j (by omega) (by omega) (by omega) (by omega) (by omega) (by omega) (by omega) (by omega) (by omega) (by omega), z4, z5⟩
/-- behind a search of the model it is as before -/
theorem MI.frM (h : MI σ m R o bk sh c ry fa) (hf : frM σ σ') (hx : KX σ') : MI σ' m R o bk sh c ry fa :=
  ⟨h.1.keep (fun k j hk => hf k j (by omega) (by omega) (by omega) (by omega)), h.2.1.keep (fun j hj => hf 18 j (by omega) (by omega) (by omega) (by omega)), h.2.2.1.keep (fun k j hk => hf k j (by omega) (by omega) (by omega) (by omega)), hx⟩
/-- two calls alike, and the invariant behind them -/
def ALK (σ : qSt) (f g : qSt → qR) : Prop := ∃ v σ1 σ2, f σ = some (v, σ1) ∧ g σ1 = some (v, σ2) ∧ INV σ2
theorem ALK.of {f g : qSt → qR} {v : Int32} {σ1 σ2 : qSt} (h1 : f σ = some (v, σ1)) (h2 : g σ1 = some (v, σ2)) (hC : CI σ1 m R o bk sh c ry fa) (hf : ∀ k j, k < 18 → σ2 k j = σ1 k j) (hM : MI σ2 m R o bk sh c ry fa) (hB : PB c ry fa m R) : ALK σ f g := ⟨v, σ1, σ2, h1, h2, m, R, o, bk, sh, c, ry, fa, hC.keep hf, hM, hB⟩
theorem b_leastMean (hC : CI σ m R o bk sh c ry fa) (hM : MI σ m R o bk sh c ry fa) (hB : PB c ry fa m R) : ALK σ (fX3_leastMean 0) (fX4_leastMean 18) := by
  obtain ⟨σ1, z1, z2, z3, z4, -⟩ := c_findMean hC
  have hM1 := hM.keep (σ' := σ1) z3
  obtain ⟨σ2, y1, y2, y3⟩ := e4_leastMean hM1.1 hM1.2.1 hC.1.okm
  refine ALK.of (v := lmV o bk m R sh) (σ1 := σ1) (σ2 := σ2) ?_ y1 z2 (fun k j hk => y2 k j (by omega) (by omega) (by omega) (by omega)) (hM1.frM y2 (hM1.2.2.2.keep (fun j hj => y3 j hj))) hB
  unfold fX3_leastMean
  rw [qb_ok z1]
  show qb (fX0_sharedSteps 1 σ1) _ = _
  rw [qb_ok (e_sharedSteps z2.1)]
  unfold fX3_wholeTrips
  rw [z4, z2.2.1.1, z2.2.1.2.1, nI_add, pk_mul, iI_n (o + bk), iI_mul]
  show some (nI (o * sOut (fun r s => sh r s * s) R m 0) + iI _, σ1) = _
  rw [iI_n (o * _), iI_add]
  unfold lmV lE
  congr 3
  rw [Int.natCast_mul]
  omega
/-- a plan's trip, told -/
theorem e_placeOf {k : Nat} {l : List (Nat × Nat)} (h : PL σ k l.length (lry l) (lfa l)) {x : Int32} {i : Nat} (hi : i < l.length) (hx : x = nI i) : fX3_placeOf k x σ = some (nI (10 * lry l i + lfa l i), σ) := by
  subst hx
  unfold fX3_placeOf
  rw [qb_ok (e_phas h hi), if_neg q10, qb_ok (e_rayOf h hi), qb_ok (e_stepsOf h hi), show (10 : Int32) = nI 10 from rfl, pk_mul, nI_add]
theorem e_placeOf_out {k : Nat} {l : List (Nat × Nat)} (h : PL σ k l.length (lry l) (lfa l)) {x : Int32} (hx : x < 0 ∨ nI l.length ≤ x) : fX3_placeOf k x σ = some (-6, σ) := by
  unfold fX3_placeOf
  rw [qb_ok (e_phas_out h hx), if_pos rfl]
theorem e_planAt {l : List (Nat × Nat)} (h : MQ4 σ l) {x : Int32} {i : Nat} (hi : i < l.length) (hx : x = nI i) : fX4_planAt 18 x σ = some (nI (10 * lry l i + lfa l i), σ) := by
  subst hx
  have h30 := h.2.1
  unfold fX4_planAt
  rw [h.1, qb_ok (e_inI (by omega) hi), if_neg q10, if_pos (show qin (nI i) (qlen (18 + 6)) = true from (qin_nI (by omega)).mpr (by show _ < 30; omega)), nI_clamp (by omega)]
  show some (σ 24 i, σ) = _
  rw [h.2.2 i hi]
theorem e_planAt_out {l : List (Nat × Nat)} (h : MQ4 σ l) {x : Int32} (hx : x < 0 ∨ nI l.length ≤ x) : fX4_planAt 18 x σ = some (-6, σ) := by
  have h30 := h.2.1
  unfold fX4_planAt
  rw [h.1, qb_ok (e_inN (by omega) hx), if_pos rfl]
theorem ix_or (x : Int32) {n : Nat} (hn : n < 1000) : (x < 0 ∨ nI n ≤ x) ∨ ∃ i, i < n ∧ x = nI i := by
  rcases pk_ix x (n := n) (by omega) with h | h | h
  · exact Or.inl (Or.inl h)
  · exact Or.inl (Or.inr h)
  · exact Or.inr h
theorem b_meanTrip (hC : CI σ m R o bk sh c ry fa) (hM : MI σ m R o bk sh c ry fa) (hB : PB c ry fa m R) (x : Int32) : ALK σ (fX3_meanTrip 0 x) (fX4_meanTrip 18 x) := by
  obtain ⟨σ1, z1, z2, z3, -, z5⟩ := c_findMean hC
  have hM1 := hM.keep (σ' := σ1) z3
  obtain ⟨σ2, y1, y2, y3, y4⟩ := e_layMeanPlan hM1.1 hM1.2.1 hC.1.okm
  have h30 := y4.2.1
  have hv : ∃ v, fX3_placeOf 12 x σ1 = some (v, σ1) ∧ fX4_planAt 18 x σ2 = some (v, σ2) := by
    rcases ix_or x (n := (plM m R sh).length) (by omega) with hx | ⟨i, hi, hx⟩
    · exact ⟨-6, e_placeOf_out z5 hx, e_planAt_out y4 hx⟩
    · exact ⟨_, e_placeOf z5 hi hx, e_planAt y4 hi hx⟩
  obtain ⟨v, v1, v2⟩ := hv
  refine ALK.of (v := v) (σ1 := σ1) (σ2 := σ2) ?_ ?_ z2 (fun k j hk => y2 k j (by omega) (by omega) (by omega) (by omega)) (hM1.frM y2 (hM1.2.2.2.keep (fun j hj => y3 j hj))) hB
  · unfold fX3_meanTrip
    rw [qb_ok z1]
    show qb (fX3_placeOf 12 x σ1) _ = _
    rw [qb_ok v1]
  · unfold fX4_meanTrip
    rw [qb_ok y1, qb_ok v2]
theorem b_worstTrip (hC : CI σ m R o bk sh c ry fa) (hM : MI σ m R o bk sh c ry fa) (hB : PB c ry fa m R) (x : Int32) : ALK σ (fX3_worstTrip 0 x) (fX4_worstTrip 18 x) := by
  obtain ⟨W, σ1, hW, z1, z2, z3, -, z5⟩ := c_findWorst hC
  have hM1 := hM.keep (σ' := σ1) z3
  obtain ⟨σ2, y1, y2, y3, y4⟩ := e_layWorstPlan hM1.1 hC.1.okm hW hM1.2.2.2
  have h30 := y4.2.1
  have hv : ∃ v, fX3_placeOf 15 x σ1 = some (v, σ1) ∧ fX4_planAt 18 x σ2 = some (v, σ2) := by
    rcases ix_or x (n := (plX m R W).length) (by omega) with hx | ⟨i, hi, hx⟩
    · exact ⟨-6, e_placeOf_out z5 hx, e_planAt_out y4 hx⟩
    · exact ⟨_, e_placeOf z5 hi hx, e_planAt y4 hi hx⟩
  obtain ⟨v, v1, v2⟩ := hv
  refine ALK.of (v := v) (σ1 := σ1) (σ2 := σ2) ?_ ?_ z2 (fun k j hk => y2 k j (by omega) (by omega) (by omega) (by omega)) (hM1.frM y2 y3) hB
  · unfold fX3_worstTrip
    rw [qb_ok z1]
    show qb (fX3_placeOf 15 x σ1) _ = _
    rw [qb_ok v1]
  · unfold fX4_worstTrip
    rw [qb_ok y1, qb_ok v2]
end KEEP
