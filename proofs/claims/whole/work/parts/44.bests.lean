/-! ===== pure: leastWorst, within ===== -/
theorem low_eq {a d a' d' : Nat} (hd : 0 < d) (hd' : 0 < d') (h : a * d' = a' * d) : a / Nat.gcd a d = a' / Nat.gcd a' d' ∧ d / Nat.gcd a d = d' / Nat.gcd a' d' := by
  have g0 : 0 < Nat.gcd a d := Nat.gcd_pos_of_pos_right _ hd
  have g0' : 0 < Nat.gcd a' d' := Nat.gcd_pos_of_pos_right _ hd'
  have hc : Nat.Coprime (a / Nat.gcd a d) (d / Nat.gcd a d) := Nat.coprime_div_gcd_div_gcd g0
  have hc' : Nat.Coprime (a' / Nat.gcd a' d') (d' / Nat.gcd a' d') := Nat.coprime_div_gcd_div_gcd g0'
  have ea : a / Nat.gcd a d * Nat.gcd a d = a := Nat.div_mul_cancel (Nat.gcd_dvd_left _ _)
  have ed : d / Nat.gcd a d * Nat.gcd a d = d := Nat.div_mul_cancel (Nat.gcd_dvd_right _ _)
  have ea' : a' / Nat.gcd a' d' * Nat.gcd a' d' = a' := Nat.div_mul_cancel (Nat.gcd_dvd_left _ _)
  have ed' : d' / Nat.gcd a' d' * Nat.gcd a' d' = d' := Nat.div_mul_cancel (Nat.gcd_dvd_right _ _)
  generalize Nat.gcd a d = g at *
  generalize Nat.gcd a' d' = g' at *
  generalize a / g = x at *
  generalize d / g = y at *
  generalize a' / g' = x' at *
  generalize d' / g' = y' at *
  have hy : 0 < y := by
    rcases Nat.eq_zero_or_pos y with q | q
    · rw [q] at ed; omega
    · exact q
  have hcross : x * y' = x' * y := by
    have h2 : x * y' * (g * g') = x' * y * (g * g') := by
      calc x * y' * (g * g') = (x * g) * (y' * g') := by rw [Nat.mul_mul_mul_comm]
        _ = a * d' := by rw [ea, ed']
        _ = a' * d := h
        _ = (x' * g') * (y * g) := by rw [ea', ed]
        _ = x' * y * (g * g') := by rw [Nat.mul_mul_mul_comm, Nat.mul_comm g' g]
    exact Nat.eq_of_mul_eq_mul_right (Nat.mul_pos g0 g0') h2
  have d1 : y ∣ y' := by
    have : y ∣ x * y' := by rw [hcross]; exact Nat.dvd_mul_left _ _
    exact Nat.Coprime.dvd_of_dvd_mul_left hc.symm this
  have d2 : y' ∣ y := by
    have : y' ∣ x' * y := by rw [← hcross]; exact Nat.dvd_mul_left _ _
    exact Nat.Coprime.dvd_of_dvd_mul_left hc'.symm this
  have hyy : y = y' := Nat.dvd_antisymm d1 d2
  subst hyy
  exact ⟨Nat.eq_of_mul_eq_mul_right hy hcross, rfl⟩
theorem lowv_eq {a d a' d' : Nat} (hd : 0 < d) (hd' : 0 < d') (h : a * d' = a' * d) (w : Int32) : lowv a d w = lowv a' d' w := by
  have := low_eq hd hd' h
  unfold lowv
  rw [this.1, this.2]
section BESTS
variable {σ σ' : qSt} {m R o bk c : Nat} {sh : Nat → Nat → Nat} {ry fa : Nat → Nat}
theorem e_worstUpper {W : Nat} (hO : CO σ o bk) (h : σ 0 10 = nI W) : fX3_worstUpper 0 σ = some (nI (o * 840 + (o + bk) * W), σ) := by
  unfold fX3_worstUpper
  rw [h, qb_ok (e_whole hO), hO.1, show (840 : Int32) = nI 840 from rfl, pk_mul, nI_add]
theorem rng_out {x lo hi : Int32} (h : x < lo ∨ hi < x) {A : qR} {z : qR} (h0 : ¬ x < lo → ¬ x ≤ hi → True) : (if x < lo then z else if x ≤ hi then A else z) = z := by
  by_cases h1 : x < lo
  · rw [if_pos h1]
  · rw [if_neg h1, if_neg]
    intro h2
    have a := Int32.lt_iff_toInt_lt.mp (h.resolve_left h1)
    have b := Int32.le_iff_toInt_le.mp h2
    omega
theorem rng_in {x lo hi : Int32} (h : ¬ (x < lo ∨ hi < x)) {A : qR} {z : qR} : (if x < lo then z else if x ≤ hi then A else z) = A := by
  rw [if_neg (fun q => h (Or.inl q)), if_pos]
  apply Classical.byContradiction
  intro h2
  apply h
  right
  apply Int32.lt_iff_toInt_lt.mpr
  have : ¬ x.toInt ≤ hi.toInt := fun q => h2 (Int32.le_iff_toInt_le.mpr q)
  omega
theorem b_leastWorst (hC : CI σ m R o bk sh c ry fa) (hM : MI σ m R o bk sh c ry fa) (hB : PB c ry fa m R) (x : Int32) : ALK σ (fX3_leastWorst 0 x) (fX4_leastWorst 18 x) := by
  by_cases hx : x < 0 ∨ 1 < x
  · refine ALK.of (v := -2) (σ1 := σ) (σ2 := σ) ?_ ?_ hC (fun _ _ _ => rfl) hM hB
    · unfold fX3_leastWorst
      exact rng_out hx (fun _ _ => trivial)
    · unfold fX4_leastWorst
      rw [qb_ok (e_in_out hx), if_pos rfl]
  · obtain ⟨W, σ1, hW, z1, z2, z3, z4, -⟩ := c_findWorst hC
    have hM1 := hM.keep (σ' := σ1) z3
    obtain ⟨σ2, y1, y2, y3, U, L, x1, x2, x3, x4, x5, x6⟩ := e4_findWorst hM1.1 hC.1.okm hW hM1.2.2.2
    have hO := z2.2.1
    have hW2 := hW.2.1
    have ho := hO.2.2
    have hWL : W * L ≤ 13440 * 8 := Nat.mul_le_mul hW2 x5
    have b1 : (o + bk) * W ≤ 18 * 13440 := Nat.mul_le_mul (by omega) hW2
    have b2 : (o + bk) * U ≤ 18 * 128 := Nat.mul_le_mul (by omega) (by omega)
    have b3 : o * L ≤ 9 * 8 := Nat.mul_le_mul (by omega) x5
    have b4 : 1 ≤ o * L := Nat.mul_le_mul (show 1 ≤ o by omega) x4
    have hO2 : MO σ2 o bk := hM1.2.1.keep (fun j hj => y2 18 j (by omega) (by omega))
    refine ALK.of (v := nI (lowv (o * 840 + (o + bk) * W) (o * 840) x)) (σ1 := σ1) (σ2 := σ2) ?_ ?_ z2 (fun k j hk => y2 k j (by omega) (by omega)) (hM1.frM (fun k j q1 q2 q3 q4 => y2 k j q2 (by omega)) (Or.inr ⟨m, R, W, hC.1.okm, y3, hW, U, L, x1, x2, x3, x4, x5, x6⟩)) hB
    · unfold fX3_leastWorst
      rw [rng_in hx, qb_ok z1, qb_ok (e_worstUpper hO z4), hO.1, show (840 : Int32) = nI 840 from rfl, pk_mul, qb_ok (e_lowest (by omega) (by omega) (by omega))]
    · unfold fX4_leastWorst
      rw [qb_ok (e_in (fun q => hx (Or.inl q)) (fun q => hx (Or.inr q))), if_neg q10, qb_ok y1, hO2.1, hO2.2.1, x1, x2, nI_add, pk_mul, pk_mul, nI_add, qb_ok (e_term (by omega) (by omega) b4)]
      rw [lowv_eq (a := o * 840 + (o + bk) * W) (d := o * 840) (a' := o * L + (o + bk) * U) (d' := o * L) (by omega) b4]
      have e1 : (o + bk) * W * (o * L) = (o + bk) * U * (o * 840) := by
        calc (o + bk) * W * (o * L) = (o + bk) * o * (W * L) := by rw [Nat.mul_mul_mul_comm]
          _ = (o + bk) * o * (840 * U) := by rw [x3]
          _ = (o + bk) * o * (U * 840) := by rw [Nat.mul_comm 840 U]
          _ = (o + bk) * U * (o * 840) := by rw [Nat.mul_mul_mul_comm]
      rw [Nat.add_mul (o * 840), Nat.add_mul (o * L), e1, Nat.mul_comm (o * 840) (o * L)]
theorem q_cmp_gt (x y : Int64) : (0 < lg_cmp x y) ↔ y < x := by
  unfold lg_cmp
  by_cases h : x > y
  · rw [if_pos h]
    exact ⟨fun _ => h, fun _ => by decide⟩
  · rw [if_neg h]
    constructor
    · intro q
      split at q
      · exact absurd q (by decide)
      · exact absurd q (by decide)
    · intro q; exact absurd q h
theorem n_rng {x : Int32} {lo hi : Nat} (hhi : hi < 2 ^ 30) (hlo : lo < 2 ^ 30) (h : ¬ (x < nI lo ∨ nI hi < x)) : ∃ p, lo ≤ p ∧ p ≤ hi ∧ x = nI p := by
  have h1 : ¬ x.toInt < (nI lo).toInt := fun q => h (Or.inl (Int32.lt_iff_toInt_lt.mpr q))
  have h2 : ¬ (nI hi).toInt < x.toInt := fun q => h (Or.inr (Int32.lt_iff_toInt_lt.mpr q))
  rw [nI_toInt (by omega)] at h1 h2
  obtain ⟨p, hp, rfl⟩ := nI_of (x := x) (by
    intro q
    have := Int32.lt_iff_toInt_lt.mp q
    rw [show (0 : Int32).toInt = 0 from rfl] at this
    omega)
  rw [nI_toInt hp] at h1 h2
  exact ⟨p, by omega, by omega, rfl⟩
theorem b_within (hC : CI σ m R o bk sh c ry fa) (hM : MI σ m R o bk sh c ry fa) (hB : PB c ry fa m R) (x y : Int32) : ALK σ (fX3_within 0 x y) (fX4_within 18 x y) := by
  by_cases hx : x < 1 ∨ 10000 < x
  · refine ALK.of (v := -2) (σ1 := σ) (σ2 := σ) ?_ ?_ hC (fun _ _ _ => rfl) hM hB
    · unfold fX3_within
      rcases hx with h | h
      · rw [if_pos h]
      · by_cases h0 : x < 1
        · rw [if_pos h0]
        · rw [if_neg h0, if_pos h]
    · unfold fX4_within
      rw [qb_ok (e_in_out hx), if_pos rfl]
  · have hx1 : ¬ x < 1 := fun q => hx (Or.inl q)
    have hx2 : ¬ 10000 < x := fun q => hx (Or.inr q)
    by_cases hy : y < 1 ∨ 10000 < y
    · refine ALK.of (v := -2) (σ1 := σ) (σ2 := σ) ?_ ?_ hC (fun _ _ _ => rfl) hM hB
      · unfold fX3_within
        rw [if_neg hx1, if_neg hx2]
        exact rng_out hy (fun _ _ => trivial)
      · unfold fX4_within
        rw [qb_ok (e_in hx1 hx2), if_neg q10, qb_ok (e_in_out hy), if_pos rfl]
    · obtain ⟨p, p1, p2, rfl⟩ := n_rng (lo := 1) (hi := 10000) (by omega) (by omega) hx
      obtain ⟨q, q1, q2, rfl⟩ := n_rng (lo := 1) (hi := 10000) (by omega) (by omega) hy
      obtain ⟨W, σ1, hW, z1, z2, z3, z4, -⟩ := c_findWorst hC
      have hM1 := hM.keep (σ' := σ1) z3
      have hO := z2.2.1
      have hW2 := hW.2.1
      have ho := hO.2.2
      have b1 : (o + bk) * W ≤ 18 * 13440 := Nat.mul_le_mul (by omega) hW2
      have b5 : (o * 840 + (o + bk) * W) * q ≤ 250000 * 10000 := Nat.mul_le_mul (by omega) q2
      have b6 : p * (o * 840) ≤ 10000 * 7560 := Nat.mul_le_mul p2 (by omega)
      have hcls : fX3_within 0 (nI p) (nI q) σ = some (if (o * 840 + (o + bk) * W) * q ≤ p * (o * 840) then 1 else 0, σ1) := by
        unfold fX3_within
        rw [if_neg hx1, if_neg hx2, rng_in hy, qb_ok z1, qb_ok (e_worstUpper hO z4), hO.1, show (840 : Int32) = nI 840 from rfl, pk_mul, nI_l (by omega), nI_l (by omega), nI_l (by omega), nI_l (by omega), lN_mul, lN_mul]
        by_cases hq : (o * 840 + (o + bk) * W) * q ≤ p * (o * 840)
        · rw [if_neg (by rw [q_cmp_gt, pk_lLT (by omega) (by omega)]; omega), if_pos hq]
        · rw [if_pos (by rw [q_cmp_gt, pk_lLT (by omega) (by omega)]; omega), if_neg hq]
      rcases Nat.lt_or_ge p q with hpq | hpq
      · refine ALK.of (v := _) (σ1 := σ1) (σ2 := σ1) hcls ?_ z2 (fun _ _ _ => rfl) hM1 hB
        have hno : ¬ (o * 840 + (o + bk) * W) * q ≤ p * (o * 840) := by
          have a1 : p * (o * 840) < q * (o * 840) := Nat.mul_lt_mul_of_pos_right hpq (by omega)
          rw [Nat.add_mul (o * 840), Nat.mul_comm (o * 840) q]
          omega
        rw [if_neg hno]
        unfold fX4_within
        rw [qb_ok (e_in hx1 hx2), if_neg q10, qb_ok (e_in (fun z => hy (Or.inl z)) (fun z => hy (Or.inr z))), if_neg q10, if_neg (nI_ge hpq (by omega))]
      · have u1 : (p - q) * o ≤ 9999 * 9 := Nat.mul_le_mul (by omega) (by omega)
        have u2 : q * (o + bk) ≤ 10000 * 18 := Nat.mul_le_mul q2 (by omega)
        have u3 : 1 ≤ q * (o + bk) := Nat.mul_le_mul q1 (show 1 ≤ o + bk by omega)
        obtain ⟨σ2, y1, y2, -, y4⟩ := e_tryM hM1.1 hC.1.okm hW (up := (p - q) * o) (low := q * (o + bk)) u3 (by omega) (by omega)
        refine ALK.of (v := _) (σ1 := σ1) (σ2 := σ2) hcls ?_ z2 (fun k j hk => y2 k j (by omega)) (hM1.frM (fun k j a1 a2 a3 a4 => y2 k j a2) (hM1.2.2.2.keep (fun j hj => y2 18 j (by omega)))) hB
        have hiff : (o * 840 + (o + bk) * W) * q ≤ p * (o * 840) ↔ W * (q * (o + bk)) ≤ 840 * ((p - q) * o) := by
          have e1 : (o + bk) * W * q = W * (q * (o + bk)) := by rw [Nat.mul_comm (o + bk) W, Nat.mul_assoc, Nat.mul_comm (o + bk) q]
          have e2 : (p - q) * (o * 840) = 840 * ((p - q) * o) := by rw [← Nat.mul_assoc, Nat.mul_comm _ 840]
          have e3 : p * (o * 840) = q * (o * 840) + (p - q) * (o * 840) := by rw [← Nat.add_mul, show q + (p - q) = p by omega]
          rw [Nat.add_mul (o * 840), e1, e3, e2, Nat.mul_comm (o * 840) q]
          omega
        have hO1 := hM1.2.1
        unfold fX4_within
        rw [qb_ok (e_in hx1 hx2), if_neg q10, qb_ok (e_in (fun z => hy (Or.inl z)) (fun z => hy (Or.inr z))), if_neg q10, if_pos (nI_le hpq (by omega)), hO1.1, hO1.2.1, pk_sub hpq, pk_mul, nI_add, pk_mul, qb_ok y1, if_pos (by decide)]
        show (if σ2 23 0 < 0 then _ else _) = _
        by_cases hq : (o * 840 + (o + bk) * W) * q ≤ p * (o * 840)
        · rw [if_neg (fun z => (y4.mp z) (hiff.mp hq)), if_pos hq]
        · rw [if_pos (y4.mpr (fun z => hq (hiff.mpr z))), if_neg hq]
end BESTS
