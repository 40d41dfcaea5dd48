/-! ===== pure: rays, take ===== -/
section MUTS3
variable {σ σ' : qSt} {m R o bk c : Nat} {sh : Nat → Nat → Nat} {ry fa : Nat → Nat}
theorem e_isOf {p q : Nat} (hG : CG σ m R sh) (hp : p < 1000) (hq : q < 1000) : fX0_isOf 1 (nI p) (nI q) σ = some (if m = p ∧ R = q then 1 else 0, σ) := by
  have g3 := hG.2.2.1
  unfold fX0_isOf fX0_isOf_b
  rw [hG.1, hG.2.1]
  by_cases h1 : m = p
  · rw [if_pos (by rw [h1])]
    by_cases h2 : R = q
    · rw [if_pos (by rw [h2]), if_pos ⟨h1, h2⟩, qz_1]
    · rw [if_neg (by rw [nI_eq (by omega) (by omega)]; exact h2), if_neg (fun z => h2 z.2), qz_0]
  · rw [if_neg (by rw [nI_eq (by omega) (by omega)]; exact h1), if_neg (fun z => h1 z.1), qz_0]
theorem b_rays (hC : CI σ m R o bk sh c ry fa) (hM : MI σ m R o bk sh c ry fa) (hB : PB c ry fa m R) (x y : Int32) : ALK σ (fX3_rays 0 x y) (fX4_rays 18 x y) := by
  by_cases hx : x < 2 ∨ 3 < x
  · refine ALK.of (v := -2) (σ1 := σ) (σ2 := σ) ?_ ?_ hC (fun _ _ _ => rfl) hM hB
    · unfold fX3_rays
      rcases hx with h | h
      · rw [if_pos h]
      · by_cases h0 : x < 2
        · rw [if_pos h0]
        · rw [if_neg h0, if_pos h]
    · unfold fX4_rays
      rw [qb_ok (e_in_out hx), if_pos rfl]
  · have hx1 : ¬ x < 2 := fun q => hx (Or.inl q)
    have hx2 : ¬ 3 < x := fun q => hx (Or.inr q)
    by_cases hy : y < 1 ∨ 8 < y
    · refine ALK.of (v := -2) (σ1 := σ) (σ2 := σ) ?_ ?_ hC (fun _ _ _ => rfl) hM hB
      · unfold fX3_rays
        rw [if_neg hx1, if_neg hx2]
        exact rng_out hy (fun _ _ => trivial)
      · unfold fX4_rays
        rw [qb_ok (e_in hx1 hx2), if_neg q10, qb_ok (e_in_out hy), if_pos rfl]
    · obtain ⟨p, p1, p2, rfl⟩ := n_rng (lo := 2) (hi := 3) (by omega) (by omega) hx
      obtain ⟨q, q1, q2, rfl⟩ := n_rng (lo := 1) (hi := 8) (by omega) (by omega) hy
      obtain ⟨hG, hO, hP, hKM, hKW⟩ := hC
      obtain ⟨hG', hO', hP', hX⟩ := hM
      -- behind the class: τ is the store with or without what is known of the worst case
      have key : ∀ τ : qSt, (∀ k j, ¬ (k = 0 ∧ j = 8) → τ k j = σ k j) → KW τ p q → fX3_rays 0 (nI p) (nI q) σ = fX3_rays_41 0 (nI p) (nI q) τ → ALK σ (fX3_rays 0 (nI p) (nI q)) (fX4_rays 18 (nI p) (nI q)) := by
        intro τ hτ hW hcl
        have hcl2 : fX3_rays 0 (nI p) (nI q) σ = some (nI (p * q), qset (qfill (qset (qset (qset τ 0 7 0) 1 0 (nI p)) 1 1 (nI q)) 2 0 1) 3 2 0) := by
          rw [hcl]
          unfold fX3_rays_41
          show qb (fX0_lay 1 _ _ _) _ = _
          rw [qb_ok e_lay]
          unfold fX2_empty
          rw [qb_ok rfl, pk_mul]
        generalize hσ1 : qset (qfill (qset (qset (qset τ 0 7 0) 1 0 (nI p)) 1 1 (nI q)) 2 0 1) 3 2 0 = σ1 at hcl2
        have k1 : ∀ k j, ¬ (k = 3 ∧ j = 2) → k ≠ 1 → k ≠ 2 → ¬ (k = 0 ∧ (j = 7 ∨ j = 8)) → σ1 k j = σ k j := fun k j a b d e => by
          rw [← hσ1, qset_ne a]; unfold qfill; rw [if_neg (by omega), qset_ne (by omega), qset_ne (by omega), qset_ne (by omega)]; exact hτ k j (by omega)
        have hmod : fX4_rays 18 (nI p) (nI q) σ1 = some (nI (p * q), qfill (qset (qset (qset σ1 18 0 (nI p)) 18 1 (nI q)) 18 5 0) 19 0 1) := by
          unfold fX4_rays
          rw [qb_ok (e_in hx1 hx2), if_neg q10, qb_ok (e_in (fun z => hy (Or.inl z)) (fun z => hy (Or.inr z))), if_neg q10, qb_ok e_begin, pk_mul]
        generalize hσ2 : qfill (qset (qset (qset σ1 18 0 (nI p)) 18 1 (nI q)) 18 5 0) 19 0 1 = σ2 at hmod
        have k2 : ∀ k j, ¬ (k = 18 ∧ (j = 0 ∨ j = 1 ∨ j = 5)) → k ≠ 19 → σ2 k j = σ1 k j := fun k j a b => by
          rw [← hσ2]; unfold qfill; rw [if_neg (by omega), qset_ne (by omega), qset_ne (by omega), qset_ne (by omega)]
        refine ALK.of (m := p) (R := q) (o := o) (bk := bk) (sh := fun _ _ => 1) (c := 0) (ry := ry) (fa := fa) (v := nI (p * q)) (σ1 := σ1) (σ2 := σ2) hcl2 hmod ⟨?_, ?_, ?_, ?_, ?_⟩ (fun k j hk => k2 k j (by omega) (by omega)) ⟨?_, ?_, ?_, ?_⟩ (fun i hi => absurd hi (Nat.not_lt_zero _))
        · refine ⟨?_, ?_, by omega, fun r s a b d => ⟨?_, by show 1 ≤ 100; omega⟩⟩
          · rw [← hσ1, qset_ne (by omega)]; unfold qfill; rw [if_neg (by omega), qset_ne (by omega), qset_same]
          · rw [← hσ1, qset_ne (by omega)]; unfold qfill; rw [if_neg (by omega), qset_same]
          · rw [← hσ1, qset_ne (by omega)]; unfold qfill; rw [if_pos ⟨rfl, by omega, by show 9 * r + s < 27; omega⟩]; rfl
        · exact hO.keep (fun j hj => k1 0 j (by omega) (by omega) (by omega) (by omega))
        · exact ⟨hP.1, by rw [← hσ1]; exact qset_same, by omega, fun i hi => absurd hi (Nat.not_lt_zero _)⟩
        · exact Or.inl (by rw [← hσ1, qset_ne (by omega)]; unfold qfill; rw [if_neg (by omega), qset_ne (by omega), qset_ne (by omega), qset_same])
        · refine hW.keep (fun k j hk => ?_)
          rw [← hσ1, qset_ne (by omega)]; unfold qfill; rw [if_neg (by omega), qset_ne (by omega), qset_ne (by omega), qset_ne (by omega)]
        · refine ⟨?_, ?_, by omega, fun r s a b d => ⟨?_, by show 1 ≤ 100; omega⟩⟩
          · rw [← hσ2]; unfold qfill; rw [if_neg (by omega), qset_ne (by omega), qset_ne (by omega), qset_same]
          · rw [← hσ2]; unfold qfill; rw [if_neg (by omega), qset_ne (by omega), qset_same]
          · rw [← hσ2]; unfold qfill; rw [if_pos ⟨rfl, by omega, by show 9 * r + s < 27; omega⟩]; rfl
        · exact hO'.keep (fun j hj => by rw [k2 18 j (by omega) (by omega)]; exact k1 18 j (by omega) (by omega) (by omega) (by omega))
        · exact ⟨by rw [← hσ2]; unfold qfill; rw [if_neg (by omega), qset_same]; rfl, by omega, fun i hi => absurd hi (Nat.not_lt_zero _)⟩
        · exact hX.keep (fun j hj => by rw [k2 18 j (by omega) (by omega)]; exact k1 18 j (by omega) (by omega) (by omega) (by omega))
      by_cases hsame : m = p ∧ R = q
      · obtain ⟨rfl, rfl⟩ := hsame
        refine key σ (fun _ _ _ => rfl) hKW ?_
        unfold fX3_rays
        rw [if_neg hx1, if_neg hx2, rng_in hy]
        show qb (fX0_isOf 1 _ _ σ) _ = _
        rw [qb_ok (e_isOf hG (by omega) (by omega)), if_pos (show m = m ∧ R = R from ⟨rfl, rfl⟩), if_neg q10]
      · refine key (qset σ 0 8 0) (fun k j hk => qset_ne hk) (Or.inl qset_same) ?_
        unfold fX3_rays
        rw [if_neg hx1, if_neg hx2, rng_in hy]
        show qb (fX0_isOf 1 _ _ σ) _ = _
        rw [qb_ok (e_isOf hG (by omega) (by omega)), if_neg hsame, if_pos rfl]
end MUTS3
