/-! ===== pure: take ===== -/
theorem gp_mem {m R : Nat} {cap D pr : Nat → Int} : ∀ n t sp q, q ∈ gp m R cap D pr n t sp → q.1 < m ∧ 1 ≤ q.2 ∧ q.2 ≤ R := by
  intro n
  induction n with
  | zero => intro t sp q h; cases h
  | succ n ih =>
    intro t sp q h
    unfold gp at h
    cases hc : chO R cap D pr t sp m 0 with
    | none => rw [hc] at h; cases h
    | some p =>
      rw [hc] at h
      have ho := chO_ok (m := m) m 0 p (by omega) hc
      rcases List.mem_cons.mp h with e | e
      · subst e
        exact ⟨ho.1, by omega, ho.2.2.2.1⟩
      · exact ih _ _ q e
theorem PB_of {l : List (Nat × Nat)} {m R : Nat} (h : ∀ q, q ∈ l → q.1 < m ∧ 1 ≤ q.2 ∧ q.2 ≤ R) : PB l.length (lry l) (lfa l) m R := by
  intro i hi
  unfold lry lfa
  rw [List.getD_eq_getElem?_getD, List.getElem?_eq_getElem hi]
  exact h _ (List.getElem_mem hi)
section TAKE
variable {σ σ' : qSt} {m R o bk c : Nat} {sh : Nat → Nat → Nat} {ry fa : Nat → Nat}
theorem e_copy_7 {k1 : Nat} (hk : 12 ≤ k1) : ∀ n i σ, PL σ k1 c ry fa → PL σ 3 i ry fa → i ≤ c → c - i < n → ∃ σ', fX2_copy_7 3 k1 n (nI i) σ = some (0, σ') ∧ PL σ' 3 c ry fa ∧ (∀ k j, k ≠ 3 → k ≠ 4 → k ≠ 5 → σ' k j = σ k j) := by
  intro n
  induction n with
  | zero => intro i σ _ _ _ h; omega
  | succ n ih =>
    intro i σ h1 h3 hi hn
    have hc := h1.2.2.1
    unfold fX2_copy_7
    rcases Nat.lt_or_ge i c with hlt | hge
    · rw [if_neg (by rw [h1.2.1]; exact nI_ge hlt (by omega)), qb_ok (e_rayOf h1 hlt), qb_ok (e_stepsOf h1 hlt), qb_ok (e_add h3 (by omega)), nI_1]
      generalize hσ1 : qset (qset (qset σ (3 + 1) i (nI (ry i))) (3 + 2) i (nI (fa i))) 3 2 (nI (i + 1)) = σ1
      have k1' : ∀ k j, k ≠ 3 → k ≠ 4 → k ≠ 5 → σ1 k j = σ k j := fun k j a b d => by rw [← hσ1, qset_ne (by omega), qset_ne (by omega), qset_ne (by omega)]
      obtain ⟨σ', z1, z2, z3⟩ := ih (i + 1) σ1 (h1.keep (fun q j hq => k1' q j (by omega) (by omega) (by omega))) ⟨h3.1, by rw [← hσ1]; exact qset_same, by omega, fun q hq => by
        refine ⟨?_, ?_⟩
        · rw [← hσ1, qset_ne (by omega), qset_ne (by omega)]
          by_cases he : q = i
          · subst he; rw [qset_same]
          · rw [qset_ne (by omega)]; exact (h3.2.2.2 q (by omega)).1
        · rw [← hσ1, qset_ne (by omega)]
          by_cases he : q = i
          · subst he; rw [qset_same]
          · rw [qset_ne (by omega), qset_ne (by omega)]; exact (h3.2.2.2 q (by omega)).2⟩ (by omega) (by omega)
      exact ⟨σ', z1, z2, fun k j a b d => (z3 k j a b d).trans (k1' k j a b d)⟩
    · have : i = c := by omega
      subst this
      rw [if_pos (by rw [h1.2.1]; exact nI_le (Nat.le_refl _) (by omega))]
      exact ⟨σ, rfl, h3, fun _ _ _ _ _ => rfl⟩
theorem e_copy {k1 : Nat} (hk : 12 ≤ k1) {c0 : Nat} {ry0 fa0 : Nat → Nat} (h0 : PL σ 3 c0 ry0 fa0) (h : PL σ k1 c ry fa) : ∃ σ', fX2_copy 3 k1 σ = some (0, σ') ∧ PL σ' 3 c ry fa ∧ (∀ k j, k ≠ 3 → k ≠ 4 → k ≠ 5 → σ' k j = σ k j) := by
  have hc := h.2.2.1
  unfold fX2_copy
  obtain ⟨σ', z1, z2, z3⟩ := e_copy_7 hk qfu 0 (qset σ 3 2 0) (h.keep (fun q j hq => qset_ne (by omega))) ⟨h0.1, qset_same, by omega, fun q hq => absurd hq (Nat.not_lt_zero _)⟩ (by omega) (by unfold qfu; omega)
  exact ⟨σ', z1, z2, fun k j a b d => (z3 k j a b d).trans (qset_ne (by omega))⟩
/-- the class takes a plan of its own -/
theorem c_take {k1 : Nat} {l : List (Nat × Nat)} (hk : 12 ≤ k1) (hC : CI σ m R o bk sh c ry fa) (h : PL σ k1 l.length (lry l) (lfa l)) : ∃ σ', fX2_copy 3 k1 σ = some (0, σ') ∧ σ' 3 2 = nI l.length ∧ CI σ' m R o bk sh l.length (lry l) (lfa l) ∧ (∀ k j, 18 ≤ k → σ' k j = σ k j) := by
  obtain ⟨hG, hO, hP, hKM, hKW⟩ := hC
  obtain ⟨σ', z1, z2, z3⟩ := e_copy hk hP h
  exact ⟨σ', z1, z2.2.1, ⟨hG.keep (fun k j hk => z3 k j (by omega) (by omega) (by omega)), hO.keep (fun j hj => z3 0 j (by omega) (by omega) (by omega)), z2, hKM.keep (fun k j hk => z3 k j (by omega) (by omega) (by omega)), hKW.keep (fun k j hk => z3 k j (by omega) (by omega) (by omega))⟩, fun k j hk => z3 k j (by omega) (by omega) (by omega)⟩
theorem e4_take_37 {l : List (Nat × Nat)} (hB : ∀ i, i < l.length → lry l i < 3 ∧ lfa l i < 10) : ∀ n i σ, MQ4 σ l → σ 18 5 = nI l.length → (∀ j, j < i → σ 20 j = nI (lry l j) ∧ σ 21 j = nI (lfa l j)) → i ≤ l.length → l.length - i < n → ∃ σ', fX4_take_37 18 n (nI i) σ = some (nI l.length, σ') ∧ MP σ' l.length (lry l) (lfa l) ∧ (∀ k j, k ≠ 20 → k ≠ 21 → σ' k j = σ k j) := by
  intro n
  induction n with
  | zero => intro i σ _ _ _ _ h; omega
  | succ n ih =>
    intro i σ hQ h5 hd hi hn
    have h30 := hQ.2.1
    unfold fX4_take_37
    rcases Nat.lt_or_ge i l.length with hlt | hge
    · have hb := hB i hlt
      have q2 : qin (nI i) (qlen (18 + 2)) = true := (qin_nI (by omega)).mpr (by show _ < 30; omega)
      have q3 : qin (nI i) (qlen (18 + 3)) = true := (qin_nI (by omega)).mpr (by show _ < 30; omega)
      have q6 : qin (nI i) (qlen (18 + 6)) = true := (qin_nI (by omega)).mpr (by show _ < 30; omega)
      rw [if_neg (by rw [hQ.1]; exact nI_ge hlt (by omega)), if_pos q6, if_pos q2, if_pos q6, if_pos q3, nI_clamp (by omega), nI_1]
      have e1 : σ (18 + 6) i / 10 = nI (lry l i) := by
        show σ 24 i / nI 10 = _
        rw [hQ.2.2 i hlt, pk_div (by omega) (by omega) (by omega)]
        congr 1
        omega
      rw [e1]
      have e2 : (qset σ (18 + 2) i (nI (lry l i))) (18 + 6) i = nI (10 * lry l i + lfa l i) := by
        rw [qset_ne (by omega)]
        exact hQ.2.2 i hlt
      have e3 : nI (10 * lry l i + lfa l i) - nI (10 * lry l i + lfa l i) / 10 * 10 = nI (lfa l i) := by
        show _ - _ / nI 10 * nI 10 = _
        rw [pk_rem (by omega) (by omega) (by omega)]
        congr 1
        omega
      rw [e2, e3]
      generalize hσ1 : qset (qset σ (18 + 2) i (nI (lry l i))) (18 + 3) i (nI (lfa l i)) = σ1
      have k1 : ∀ k j, k ≠ 20 → k ≠ 21 → σ1 k j = σ k j := fun k j a b => by rw [← hσ1, qset_ne (by omega), qset_ne (by omega)]
      obtain ⟨σ', z1, z2, z3⟩ := ih (i + 1) σ1 ⟨(k1 18 10 (by omega) (by omega)).trans hQ.1, h30, fun j hj => (k1 24 j (by omega) (by omega)).trans (hQ.2.2 j hj)⟩ ((k1 18 5 (by omega) (by omega)).trans h5) (fun j hj => by
        refine ⟨?_, ?_⟩
        · rw [← hσ1, qset_ne (by omega)]
          by_cases he : j = i
          · subst he; exact qset_same
          · rw [qset_ne (by omega)]; exact (hd j (by omega)).1
        · rw [← hσ1]
          by_cases he : j = i
          · subst he; exact qset_same
          · rw [qset_ne (by omega), qset_ne (by omega)]; exact (hd j (by omega)).2) (by omega) (by omega)
      exact ⟨σ', z1, z2, fun k j a b => (z3 k j a b).trans (k1 k j a b)⟩
    · have : i = l.length := by omega
      subst this
      rw [if_pos (by rw [hQ.1]; exact nI_le (Nat.le_refl _) (by omega)), h5]
      exact ⟨σ, rfl, ⟨h5, h30, hd⟩, fun _ _ _ _ => rfl⟩
/-- the model takes a plan of its own -/
theorem m_take {l : List (Nat × Nat)} (hm : okm m R) (hM : MI σ m R o bk sh c ry fa) (hf : frM σ σ') (hx : KX σ') (hQ : MQ4 σ' l) (hB : PB l.length (lry l) (lfa l) m R) : ∃ τ, fX4_take_37 18 qfu 0 (qset σ' 18 5 (σ' 18 10)) = some (nI l.length, τ) ∧ MI τ m R o bk sh l.length (lry l) (lfa l) ∧ (∀ k j, k < 18 → τ k j = σ k j) := by
  obtain ⟨hG, hO, hP, -⟩ := hM
  have h30 := hQ.2.1
  have h2 := hm.2.1
  have h3 := hm.2.2
  have h1 := hm.1
  obtain ⟨τ, z1, z2, z3⟩ := e4_take_37 (l := l) (fun i hi => ⟨by have := hB i hi; omega, by have := hB i hi; omega⟩) qfu 0 (qset σ' 18 5 (σ' 18 10)) ⟨by rw [qset_ne (by omega)]; exact hQ.1, h30, fun j hj => by rw [qset_ne (by omega)]; exact hQ.2.2 j hj⟩ (by rw [qset_same]; exact hQ.1) (fun j hj => absurd hj (Nat.not_lt_zero _)) (by omega) (by unfold qfu; omega)
  have kk : ∀ k j, k ≠ 20 → k ≠ 21 → k ≠ 22 → k ≠ 23 → k ≠ 24 → ¬ (k = 18 ∧ (j = 5 ∨ 10 ≤ j)) → τ k j = σ k j := fun k j a b d e f g => by
    rw [z3 k j a b, qset_ne (by omega)]
    exact hf k j d e f (by omega)
  refine ⟨τ, z1, ⟨hG.keep (fun k j hk => kk k j (by omega) (by omega) (by omega) (by omega) (by omega) (by omega)), hO.keep (fun j hj => kk 18 j (by omega) (by omega) (by omega) (by omega) (by omega) (by omega)), z2, hx.keep (fun j hj => ?_)⟩, fun k j hk => kk k j (by omega) (by omega) (by omega) (by omega) (by omega) (by omega)⟩
  rw [z3 18 j (by omega) (by omega), qset_ne (by omega)]
theorem b_take (hC : CI σ m R o bk sh c ry fa) (hM : MI σ m R o bk sh c ry fa) (hB : PB c ry fa m R) (x : Int32) : ALK σ (fX3_take 0 x) (fX4_take 18 x) := by
  by_cases hx : x < 0 ∨ 1 < x
  · refine ALK.of (v := -2) (σ1 := σ) (σ2 := σ) ?_ ?_ hC (fun _ _ _ => rfl) hM hB
    · unfold fX3_take
      exact rng_out hx (fun _ _ => trivial)
    · unfold fX4_take
      rw [qb_ok (e_in_out hx), if_pos rfl]
  · have hx1 : ¬ x < 0 := fun q => hx (Or.inl q)
    have hx2 : ¬ 1 < x := fun q => hx (Or.inr q)
    have hm := hC.1.okm
    by_cases h0 : x = 0
    · obtain ⟨σ1, z1, z2, z3, -, z5⟩ := c_findMean hC
      obtain ⟨σ2, y1, y2, y3, y4⟩ := c_take (by omega) z2 z5
      have hM2 := hM.keep (σ' := σ2) (fun k j hk => (y4 k j hk).trans (z3 k j hk))
      obtain ⟨σ3, x1, x2, x3, x4⟩ := e_layMeanPlan hM2.1 hM2.2.1 hm
      have hPB : PB (plM m R sh).length (lry (plM m R sh)) (lfa (plM m R sh)) m R := PB_of (fun q hq => gp_mem _ _ _ q hq)
      obtain ⟨σ4, w1, w2, w3⟩ := m_take hm hM2 x2 (hM2.2.2.2.keep (fun j hj => x3 j hj)) x4 hPB
      refine ALK.of (v := nI (plM m R sh).length) (σ1 := σ2) (σ2 := σ4) ?_ ?_ y3 w3 w2 hPB
      · unfold fX3_take
        rw [rng_in hx, if_pos h0, qb_ok z1]
        show qb (fX2_copy 3 12 σ1) _ = _
        rw [qb_ok y1]
        show some (σ2 3 2, σ2) = _
        rw [y2]
      · unfold fX4_take
        rw [qb_ok (e_in hx1 hx2), if_neg q10, if_pos h0, qb_ok x1]
        exact w1
    · obtain ⟨W, σ1, hW, z1, z2, z3, -, z5⟩ := c_findWorst hC
      obtain ⟨σ2, y1, y2, y3, y4⟩ := c_take (by omega) z2 z5
      have hM2 := hM.keep (σ' := σ2) (fun k j hk => (y4 k j hk).trans (z3 k j hk))
      obtain ⟨σ3, x1, x2, x3, x4⟩ := e_layWorstPlan hM2.1 hm hW hM2.2.2.2
      have hPB : PB (plX m R W).length (lry (plX m R W)) (lfa (plX m R W)) m R := PB_of (fun q hq => gp_mem _ _ _ q hq)
      obtain ⟨σ4, w1, w2, w3⟩ := m_take hm hM2 x2 x3 x4 hPB
      refine ALK.of (v := nI (plX m R W).length) (σ1 := σ2) (σ2 := σ4) ?_ ?_ y3 w3 w2 hPB
      · unfold fX3_take
        rw [rng_in hx, if_neg h0, qb_ok z1]
        show qb (fX2_copy 3 15 σ1) _ = _
        rw [qb_ok y1]
        show some (σ2 3 2, σ2) = _
        rw [y2]
      · unfold fX4_take
        rw [qb_ok (e_in hx1 hx2), if_neg q10, if_neg h0, qb_ok x1]
        exact w1
end TAKE
