/-! ===== pure: share, rays ===== -/
section MUTS2
variable {σ σ' : qSt} {m R o bk c : Nat} {sh : Nat → Nat → Nat} {ry fa : Nat → Nat}
def upS (sh : Nat → Nat → Nat) (r s p : Nat) : Nat → Nat → Nat := fun r' s' => if r' = r ∧ s' = s then p else sh r' s'
theorem b_share (hC : CI σ m R o bk sh c ry fa) (hM : MI σ m R o bk sh c ry fa) (hB : PB c ry fa m R) (x y z : Int32) : ALK σ (fX3_share 0 x y z) (fX4_share 18 x y z) := by
  obtain ⟨hG, hO, hP, hKM, hKW⟩ := id hC
  obtain ⟨hG', hO', hP', hX⟩ := id hM
  have g3 := hG.2.2.1
  rcases plc_or m R (by omega) (by omega) x y with ⟨r, s, hr, h1, h2, rfl, rfl⟩ | ⟨-, hx⟩
  · by_cases hz : z < 0 ∨ 100 < z
    · refine ALK.of (v := -2) (σ1 := σ) (σ2 := σ) ?_ ?_ hC (fun _ _ _ => rfl) hM hB
      · unfold fX3_share
        show qb (fX0_has 1 _ _ σ) _ = _
        rw [qb_ok (e_has hG hr h1 h2), if_neg q10]
        exact rng_out hz (fun _ _ => trivial)
      · unfold fX4_share
        rw [qb_ok (e_isPlace hG' hr h1 h2), if_neg q10, qb_ok (e_in_out hz), if_pos rfl]
    · obtain ⟨p, -, p2, rfl⟩ := n_rng (lo := 0) (hi := 100) (by omega) (by omega) hz
      have hold := hG.2.2.2 r s hr h1 h2
      have hold' := hG'.2.2.2 r s hr h1 h2
      have hq : qin (nI (9 * r + s)) (qlen (18 + 1)) = true := (qin_nI (by omega)).mpr (by show 9 * r + s < 27; omega)
      have hmod : ∀ τ : qSt, MG τ m R sh → τ 19 (9 * r + s) = nI (sh r s) → fX4_share 18 (nI r) (nI s) (nI p) τ = some (nI (sh r s), qset τ 19 (9 * r + s) (nI p)) := by
        intro τ hT hv
        unfold fX4_share
        rw [qb_ok (e_isPlace hT hr h1 h2), if_neg q10, qb_ok (e_in (fun q => hz (Or.inl q)) (fun q => hz (Or.inr q))), if_neg q10, e_ix2]
        simp only [hq, eq_self, if_true]
        rw [nI_clamp (by omega)]
        show some (τ 19 _, qset τ 19 _ _) = _
        rw [hv]
      have hcls : fX3_share 0 (nI r) (nI s) (nI p) σ = if nI p = nI (sh r s) then some (nI (sh r s), qset σ 2 (9 * r + s) (nI p)) else some (nI (sh r s), qset (qset σ 2 (9 * r + s) (nI p)) 0 7 0) := by
        unfold fX3_share
        show qb (fX0_has 1 _ _ σ) _ = _
        rw [qb_ok (e_has hG hr h1 h2), if_neg q10, rng_in hz]
        show qb (fX0_shareAt 1 _ _ σ) _ = _
        rw [qb_ok (e_shareAt hG hr h1 h2)]
        show qb (fX0_setShare 1 _ _ _ σ) _ = _
        rw [qb_ok (e_setShare hG hr h1 h2)]
      by_cases he : p = sh r s
      · have i1 : qset σ 2 (9 * r + s) (nI p) = σ := qset_id (by rw [hold.1, he])
        have i2 : qset σ 19 (9 * r + s) (nI p) = σ := qset_id (by rw [hold'.1, he])
        rw [if_pos (by rw [he]), i1] at hcls
        have hm := hmod σ hG' hold'.1
        rw [i2] at hm
        exact ALK.of (v := nI (sh r s)) (σ1 := σ) (σ2 := σ) hcls hm hC (fun _ _ _ => rfl) hM hB
      · have hs100 := hold.2
        rw [if_neg (by rw [nI_eq (by omega) (by omega)]; exact he)] at hcls
        generalize hσ1 : qset (qset σ 2 (9 * r + s) (nI p)) 0 7 0 = σ1 at hcls
        have k1 : ∀ k j, k ≠ 2 → ¬ (k = 0 ∧ j = 7) → σ1 k j = σ k j := fun k j a b => by rw [← hσ1, qset_ne b, qset_ne (by omega)]
        have hm := hmod σ1 (hG'.keep (fun k j hk => k1 k j (by omega) (by omega))) (by rw [k1 19 _ (by omega) (by omega)]; exact hold'.1)
        refine ALK.of (m := m) (R := R) (o := o) (bk := bk) (sh := upS sh r s p) (c := c) (ry := ry) (fa := fa) (v := nI (sh r s)) (σ1 := σ1) (σ2 := qset σ1 19 (9 * r + s) (nI p)) hcls hm ⟨?_, ?_, ?_, ?_, ?_⟩ (fun k j hk => by rw [qset_ne (by omega)]) ⟨?_, ?_, ?_, ?_⟩ hB
        · refine ⟨(k1 1 0 (by omega) (by omega)).trans hG.1, (k1 1 1 (by omega) (by omega)).trans hG.2.1, g3, fun r' s' a b d => ?_⟩
          unfold upS
          rw [← hσ1, qset_ne (by omega)]
          by_cases hh : r' = r ∧ s' = s
          · obtain ⟨rfl, rfl⟩ := hh
            rw [if_pos ⟨rfl, rfl⟩, qset_same]
            exact ⟨rfl, p2⟩
          · rw [if_neg hh, qset_ne (by omega)]
            exact hG.2.2.2 r' s' a b d
        · exact hO.keep (fun j hj => k1 0 j (by omega) (by omega))
        · exact hP.keep (fun k j hk => k1 k j (by omega) (by omega))
        · exact Or.inl (by rw [← hσ1]; exact qset_same)
        · exact hKW.keep (fun k j hk => k1 k j (by omega) (by omega))
        · refine ⟨by rw [qset_ne (by omega)]; exact (k1 18 0 (by omega) (by omega)).trans hG'.1, by rw [qset_ne (by omega)]; exact (k1 18 1 (by omega) (by omega)).trans hG'.2.1, g3, fun r' s' a b d => ?_⟩
          unfold upS
          by_cases hh : r' = r ∧ s' = s
          · obtain ⟨rfl, rfl⟩ := hh
            rw [if_pos ⟨rfl, rfl⟩, qset_same]
            exact ⟨rfl, p2⟩
          · rw [if_neg hh, qset_ne (by omega), k1 19 _ (by omega) (by omega)]
            exact hG'.2.2.2 r' s' a b d
        · exact hO'.keep (fun j hj => by rw [qset_ne (by omega)]; exact k1 18 j (by omega) (by omega))
        · exact hP'.keep (fun k j hk => by rw [qset_ne (by omega)]; exact k1 k j (by omega) (by omega))
        · exact hX.keep (fun j hj => by rw [qset_ne (by omega)]; exact k1 18 j (by omega) (by omega))
  · refine ALK.of (v := -1) (σ1 := σ) (σ2 := σ) ?_ ?_ hC (fun _ _ _ => rfl) hM hB
    · unfold fX3_share
      show qb (fX0_has 1 _ _ σ) _ = _
      rw [qb_ok (e_has_out hG hx), if_pos rfl]
    · unfold fX4_share
      rw [qb_ok (e_isPlace_out hG' hx), if_pos rfl]
end MUTS2
