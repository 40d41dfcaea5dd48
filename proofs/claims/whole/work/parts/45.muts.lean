/-! ===== pure: calls that change the ground or the plan ===== -/
section MUTS
variable {σ σ' : qSt} {m R o bk c : Nat} {sh : Nat → Nat → Nat} {ry fa : Nat → Nat}
theorem b_costs (hC : CI σ m R o bk sh c ry fa) (hM : MI σ m R o bk sh c ry fa) (hB : PB c ry fa m R) (x y : Int32) : ALK σ (fX3_costs 0 x y) (fX4_costs 18 x y) := by
  by_cases hx : x < 1 ∨ 9 < x
  · refine ALK.of (v := -2) (σ1 := σ) (σ2 := σ) ?_ ?_ hC (fun _ _ _ => rfl) hM hB
    · unfold fX3_costs
      rcases hx with h | h
      · rw [if_pos h]
      · by_cases h0 : x < 1
        · rw [if_pos h0]
        · rw [if_neg h0, if_pos h]
    · unfold fX4_costs
      rw [qb_ok (e_in_out hx), if_pos rfl]
  · have hx1 : ¬ x < 1 := fun q => hx (Or.inl q)
    have hx2 : ¬ 9 < x := fun q => hx (Or.inr q)
    by_cases hy : y < 1 ∨ 9 < y
    · refine ALK.of (v := -2) (σ1 := σ) (σ2 := σ) ?_ ?_ hC (fun _ _ _ => rfl) hM hB
      · unfold fX3_costs
        rw [if_neg hx1, if_neg hx2]
        exact rng_out hy (fun _ _ => trivial)
      · unfold fX4_costs
        rw [qb_ok (e_in hx1 hx2), if_neg q10, qb_ok (e_in_out hy), if_pos rfl]
    · obtain ⟨p, p1, p2, rfl⟩ := n_rng (lo := 1) (hi := 9) (by omega) (by omega) hx
      obtain ⟨q, q1, q2, rfl⟩ := n_rng (lo := 1) (hi := 9) (by omega) (by omega) hy
      obtain ⟨hG, hO, hP, hKM, hKW⟩ := hC
      obtain ⟨hG', hO', hP', hX⟩ := hM
      refine ALK.of (m := m) (R := R) (o := p) (bk := q) (sh := sh) (c := c) (ry := ry) (fa := fa) (v := 1) (σ1 := qset (qset σ 0 0 (nI p)) 0 1 (nI q)) (σ2 := qset (qset (qset (qset σ 0 0 (nI p)) 0 1 (nI q)) 18 2 (nI p)) 18 3 (nI q)) ?_ ?_ ⟨?_, ?_, ?_, ?_, ?_⟩ (fun k j hk => by rw [qset_ne (by omega), qset_ne (by omega)]) ⟨?_, ?_, ?_, ?_⟩ hB
      · unfold fX3_costs
        rw [if_neg hx1, if_neg hx2, rng_in hy]
      · unfold fX4_costs
        rw [qb_ok (e_in hx1 hx2), if_neg q10, qb_ok (e_in (fun z => hy (Or.inl z)) (fun z => hy (Or.inr z))), if_neg q10]
      · exact hG.keep (fun k j hk => by rw [qset_ne (by omega), qset_ne (by omega)])
      · exact ⟨by rw [qset_ne (by omega), qset_same], qset_same, by omega, by omega, by omega, by omega⟩
      · exact hP.keep (fun k j hk => by rw [qset_ne (by omega), qset_ne (by omega)])
      · exact hKM.keep (fun k j hk => by rw [qset_ne (by omega), qset_ne (by omega)])
      · exact hKW.keep (fun k j hk => by rw [qset_ne (by omega), qset_ne (by omega)])
      · exact hG'.keep (fun k j hk => by rw [qset_ne (by omega), qset_ne (by omega), qset_ne (by omega), qset_ne (by omega)])
      · exact ⟨by rw [qset_ne (by omega), qset_same], qset_same, by omega, by omega, by omega, by omega⟩
      · exact hP'.keep (fun k j hk => by rw [qset_ne (by omega), qset_ne (by omega), qset_ne (by omega), qset_ne (by omega)])
      · exact hX.keep (fun j hj => by rw [qset_ne (by omega), qset_ne (by omega), qset_ne (by omega), qset_ne (by omega)])
theorem b_drop (hC : CI σ m R o bk sh c ry fa) (hM : MI σ m R o bk sh c ry fa) (hB : PB c ry fa m R) : ALK σ (fX3_drop 0) (fX4_drop 18) := by
  obtain ⟨hG, hO, hP, hKM, hKW⟩ := hC
  obtain ⟨hG', hO', hP', hX⟩ := hM
  have hc := hP'.2.1
  rcases Nat.eq_zero_or_pos c with h0 | h0
  · refine ALK.of (v := -1) (σ1 := σ) (σ2 := σ) ?_ ?_ ⟨hG, hO, hP, hKM, hKW⟩ (fun _ _ _ => rfl) ⟨hG', hO', hP', hX⟩ hB
    · unfold fX3_drop fX2_removeLast fX2_removeLast_b
      show qb (qz (if 1 ≤ σ 3 2 then _ else _)) _ = _
      rw [hP.2.1, h0, if_neg (by decide)]
      rfl
    · unfold fX4_drop
      rw [hP'.1, h0, if_pos (by rfl)]
  · have e1 : nI c - 1 = nI (c - 1) := pk_sub (b := 1) h0
    refine ALK.of (m := m) (R := R) (o := o) (bk := bk) (sh := sh) (c := c - 1) (ry := ry) (fa := fa) (v := nI (c - 1)) (σ1 := qset σ 3 2 (nI (c - 1))) (σ2 := qset (qset σ 3 2 (nI (c - 1))) 18 5 (nI (c - 1))) ?_ ?_ ⟨?_, ?_, ?_, ?_, ?_⟩ (fun k j hk => by rw [qset_ne (by omega)]) ⟨?_, ?_, ?_, ?_⟩ (fun i hi => hB i (by omega))
    · unfold fX3_drop fX2_removeLast fX2_removeLast_b
      show qb (qz (if 1 ≤ σ 3 2 then some (1, qset σ 3 2 (σ 3 2 - 1)) else _)) _ = _
      rw [hP.2.1, if_pos (by exact nI_le (a := 1) h0 (by omega)), qz_1, e1, qb_ok rfl, if_neg q10]
      show some ((qset σ 3 2 (nI (c - 1))) 3 2, _) = _
      rw [qset_same]
    · unfold fX4_drop
      rw [qset_ne (by omega), hP'.1, if_neg (nI_ne0 h0 (by omega)), e1, qset_same]
    · exact hG.keep (fun k j hk => by rw [qset_ne (by omega)])
    · exact hO.keep (fun j hj => by rw [qset_ne (by omega)])
    · exact ⟨hP.1, qset_same, by omega, fun i hi => by rw [qset_ne (by omega), qset_ne (by omega)]; exact hP.2.2.2 i (by omega)⟩
    · exact hKM.keep (fun k j hk => by rw [qset_ne (by omega)])
    · exact hKW.keep (fun k j hk => by rw [qset_ne (by omega)])
    · exact hG'.keep (fun k j hk => by rw [qset_ne (by omega), qset_ne (by omega)])
    · exact hO'.keep (fun j hj => by rw [qset_ne (by omega), qset_ne (by omega)])
    · exact ⟨qset_same, by omega, fun i hi => by rw [qset_ne (by omega), qset_ne (by omega), qset_ne (by omega), qset_ne (by omega)]; exact hP'.2.2 i (by omega)⟩
    · exact hX.keep (fun j hj => by rw [qset_ne (by omega), qset_ne (by omega)])
theorem b_clear (hC : CI σ m R o bk sh c ry fa) (hM : MI σ m R o bk sh c ry fa) : ALK σ (fX3_clear 0) (fX4_clear 18) := by
  obtain ⟨hG, hO, hP, hKM, hKW⟩ := hC
  obtain ⟨hG', hO', hP', hX⟩ := hM
  refine ALK.of (m := m) (R := R) (o := o) (bk := bk) (sh := sh) (c := 0) (ry := ry) (fa := fa) (v := nI c) (σ1 := qset σ 3 2 0) (σ2 := qset (qset σ 3 2 0) 18 5 0) ?_ ?_ ⟨?_, ?_, ?_, ?_, ?_⟩ (fun k j hk => by rw [qset_ne (by omega)]) ⟨?_, ?_, ?_, ?_⟩ (fun i hi => absurd hi (Nat.not_lt_zero _))
  · unfold fX3_clear fX2_empty
    rw [qb_ok rfl]
    show some (σ 3 2, _) = _
    rw [hP.2.1]
  · unfold fX4_clear
    rw [qset_ne (by omega), hP'.1]
  · exact hG.keep (fun k j hk => by rw [qset_ne (by omega)])
  · exact hO.keep (fun j hj => by rw [qset_ne (by omega)])
  · exact ⟨hP.1, qset_same, by omega, fun i hi => absurd hi (Nat.not_lt_zero _)⟩
  · exact hKM.keep (fun k j hk => by rw [qset_ne (by omega)])
  · exact hKW.keep (fun k j hk => by rw [qset_ne (by omega)])
  · exact hG'.keep (fun k j hk => by rw [qset_ne (by omega), qset_ne (by omega)])
  · exact hO'.keep (fun j hj => by rw [qset_ne (by omega), qset_ne (by omega)])
  · exact ⟨qset_same, by omega, fun i hi => absurd hi (Nat.not_lt_zero _)⟩
  · exact hX.keep (fun j hj => by rw [qset_ne (by omega), qset_ne (by omega)])
/-- one trip more -/
def snc (f : Nat → Nat) (c v : Nat) : Nat → Nat := fun i => if i = c then v else f i
theorem b_trip (hC : CI σ m R o bk sh c ry fa) (hM : MI σ m R o bk sh c ry fa) (hB : PB c ry fa m R) (x y : Int32) : ALK σ (fX3_trip 0 x y) (fX4_trip 18 x y) := by
  obtain ⟨hG, hO, hP, hKM, hKW⟩ := id hC
  obtain ⟨hG', hO', hP', hX⟩ := id hM
  have g3 := hG.2.2.1
  have hc := hP'.2.1
  rcases plc_or m R (by omega) (by omega) x y with ⟨r, s, hr, h1, h2, rfl, rfl⟩ | ⟨-, hx⟩
  · by_cases h30 : c = 30
    · refine ALK.of (v := -4) (σ1 := σ) (σ2 := σ) ?_ ?_ hC (fun _ _ _ => rfl) hM hB
      · unfold fX3_trip
        show qb (fX0_has 1 _ _ σ) _ = _
        rw [qb_ok (e_has hG hr h1 h2), if_neg q10]
        show qb (fX2_add 3 _ _ σ) _ = _
        rw [qb_ok (e_add_full hP h30), if_pos rfl]
      · unfold fX4_trip
        rw [qb_ok (e_isPlace hG' hr h1 h2), if_neg q10, hP'.1, if_pos (by rw [h30]; rfl)]
    · have h30 : c < 30 := by omega
      have hq2 : qin (nI c) (qlen (18 + 2)) = true := (qin_nI (by omega)).mpr (by show _ < 30; omega)
      have hq3 : qin (nI c) (qlen (18 + 3)) = true := (qin_nI (by omega)).mpr (by show _ < 30; omega)
      generalize hσ1 : qset (qset (qset σ 4 c (nI r)) 5 c (nI s)) 3 2 (nI (c + 1)) = σ1
      have k1 : ∀ k j, k ≠ 3 → k ≠ 4 → k ≠ 5 → σ1 k j = σ k j := fun k j a b d => by rw [← hσ1, qset_ne (by omega), qset_ne (by omega), qset_ne (by omega)]
      refine ALK.of (m := m) (R := R) (o := o) (bk := bk) (sh := sh) (c := c + 1) (ry := snc ry c r) (fa := snc fa c s) (v := nI c) (σ1 := σ1) (σ2 := qset (qset (qset σ1 20 c (nI r)) 21 c (nI s)) 18 5 (nI (c + 1))) ?_ ?_ ⟨?_, ?_, ?_, ?_, ?_⟩ (fun k j hk => by rw [qset_ne (by omega), qset_ne (by omega), qset_ne (by omega)]) ⟨?_, ?_, ?_, ?_⟩ ?_
      · unfold fX3_trip
        show qb (fX0_has 1 _ _ σ) _ = _
        rw [qb_ok (e_has hG hr h1 h2), if_neg q10]
        show qb (fX2_add 3 _ _ σ) _ = _
        rw [qb_ok (e_add hP h30), if_neg q10]
        show some (σ 3 2, _) = _
        rw [hP.2.1]
        show some (nI c, qset (qset (qset σ 4 c (nI r)) 5 c (nI s)) 3 2 (nI (c + 1))) = _
        rw [hσ1]
      · have e5 : σ1 18 5 = nI c := by rw [k1 18 5 (by omega) (by omega) (by omega)]; exact hP'.1
        have hG1 := hG'.keep (σ' := σ1) (fun k j hk => k1 k j (by omega) (by omega) (by omega))
        unfold fX4_trip
        rw [qb_ok (e_isPlace hG1 hr h1 h2), if_neg q10, e5, if_neg (by rw [show (30 : Int32) = nI 30 from rfl, nI_eq (by omega) (by omega)]; omega), if_pos hq2, nI_clamp (by omega)]
        have e6 : (qset σ1 (18 + 2) c (nI r)) 18 5 = nI c := by rw [qset_ne (by omega)]; exact e5
        rw [e6, if_pos hq3, nI_clamp (by omega)]
        have e7 : (qset (qset σ1 (18 + 2) c (nI r)) (18 + 3) c (nI s)) 18 5 = nI c := by rw [qset_ne (by omega)]; exact e6
        rw [e7, nI_1, qset_same, show nI (c + 1) - 1 = nI c from nI_pred c]
      · exact hG.keep (fun k j hk => k1 k j (by omega) (by omega) (by omega))
      · exact hO.keep (fun j hj => k1 0 j (by omega) (by omega) (by omega))
      · refine ⟨hP.1, by rw [← hσ1]; exact qset_same, by omega, fun i hi => ?_⟩
        show σ1 4 i = _ ∧ σ1 5 i = _
        unfold snc
        refine ⟨?_, ?_⟩
        · rw [← hσ1, qset_ne (by omega), qset_ne (by omega)]
          by_cases he : i = c
          · subst he
            rw [if_pos rfl, qset_same]
          · rw [if_neg he, qset_ne (by omega)]
            exact (hP.2.2.2 i (by omega)).1
        · rw [← hσ1, qset_ne (by omega)]
          by_cases he : i = c
          · subst he
            rw [if_pos rfl, qset_same]
          · rw [if_neg he, qset_ne (by omega), qset_ne (by omega)]
            exact (hP.2.2.2 i (by omega)).2
      · exact hKM.keep (fun k j hk => k1 k j (by omega) (by omega) (by omega))
      · exact hKW.keep (fun k j hk => k1 k j (by omega) (by omega) (by omega))
      · exact hG'.keep (fun k j hk => by rw [qset_ne (by omega), qset_ne (by omega), qset_ne (by omega)]; exact k1 k j (by omega) (by omega) (by omega))
      · exact hO'.keep (fun j hj => by rw [qset_ne (by omega), qset_ne (by omega), qset_ne (by omega)]; exact k1 18 j (by omega) (by omega) (by omega))
      · refine ⟨qset_same, by omega, fun i hi => ?_⟩
        unfold snc
        refine ⟨?_, ?_⟩
        · rw [qset_ne (by omega), qset_ne (by omega)]
          by_cases he : i = c
          · subst he
            rw [if_pos rfl, qset_same]
          · rw [if_neg he, qset_ne (by omega), k1 20 i (by omega) (by omega) (by omega)]
            exact (hP'.2.2 i (by omega)).1
        · rw [qset_ne (by omega)]
          by_cases he : i = c
          · subst he
            rw [if_pos rfl, qset_same]
          · rw [if_neg he, qset_ne (by omega), qset_ne (by omega), k1 21 i (by omega) (by omega) (by omega)]
            exact (hP'.2.2 i (by omega)).2
      · exact hX.keep (fun j hj => by rw [qset_ne (by omega), qset_ne (by omega), qset_ne (by omega)]; exact k1 18 j (by omega) (by omega) (by omega))
      · intro i hi
        unfold snc
        by_cases he : i = c
        · rw [if_pos he, if_pos he]; exact ⟨hr, h1, h2⟩
        · rw [if_neg he, if_neg he]; exact hB i (by omega)
  · refine ALK.of (v := -1) (σ1 := σ) (σ2 := σ) ?_ ?_ hC (fun _ _ _ => rfl) hM hB
    · unfold fX3_trip
      show qb (fX0_has 1 _ _ σ) _ = _
      rw [qb_ok (e_has_out hG hx), if_pos rfl]
    · unfold fX4_trip
      rw [qb_ok (e_isPlace_out hG' hx), if_pos rfl]
end MUTS
