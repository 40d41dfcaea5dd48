/-! ===== pure: the model's plan of the least mean, whole; leastMean, meanTrip ===== -/
theorem chO_lst {m R : Nat} {cap : Nat → Int} {D pr : Nat → Int} {sp : Int} (hm : okm m R) : ∀ n r, r + n ≤ m → chO R cap D pr (lst m R) sp n r = none := by
  intro n
  have hm1 := hm.1
  induction n with
  | zero => intro r _; rfl
  | succ n ih =>
    intro r h
    have hk := (lst_ok hm.1 hm.2.2).2 r (by omega)
    unfold ln at hk
    rw [if_pos (by omega)] at hk
    unfold chO
    rw [hk, show R - R = 0 by omega, ih (r + 1) (by omega)]
    split <;> rfl
theorem gp_lst {m R : Nat} {cap : Nat → Int} {D pr : Nat → Int} {sp : Int} (hm : okm m R) (n : Nat) : gp m R cap D pr n (lst m R) sp = [] := by
  cases n with
  | zero => rfl
  | succ n =>
    unfold gp
    rw [chO_lst hm m 0 (by omega)]
section MPLAN2
variable {σ : qSt} {m R o bk : Nat} {sh : Nat → Nat → Nat}
theorem MQ4.snoc {l : List (Nat × Nat)} {q : Nat × Nat} (h : MQ4 σ l) (hl : l.length < 30) : MQ4 (qset (qset σ 24 l.length (nI (10 * q.1 + q.2))) 18 10 (nI (l.length + 1))) (l ++ [q]) := by
  unfold MQ4
  rw [List.length_append]
  refine ⟨qset_same, by show l.length + 1 ≤ 30; omega, fun i hi => ?_⟩
  have hi : i < l.length + 1 := hi
  rw [qset_ne (by omega)]
  rcases Nat.lt_or_ge i l.length with q1 | q1
  · rw [qset_ne (by omega), lry_lt q1, lfa_lt q1]
    exact h.2.2 i q1
  · have : i = l.length := by omega
    subst this
    rw [qset_same, lry_eq, lfa_eq]
theorem mu_pos (hm : okm m R) {t : Nat} (hv : vst m R t) (hl : ¬ t = lst m R) : 1 ≤ mu m R t := by
  rcases Nat.eq_zero_or_pos (mu m R t) with h | h
  · exfalso
    apply hl
    rw [lst_iff hm.1 hm.2.2 hv]
    intro r hr
    have := hv.2 r hr
    unfold mu at h
    rcases (show r = 0 ∨ r = 1 ∨ r = 2 by omega) with rfl | rfl | rfl <;> omega
  · exact h
theorem e_layMeanPlan_11 (hm : okm m R) : ∀ n k t l σ, MG σ m R sh → MO σ o bk → (∀ t, vst m R t → σ 22 t = iI (lE (o + bk) m R sh t)) → MQ4 σ l → vst m R t → mu m R t ≤ k → l.length + k ≤ 30 → k < n →
    ∃ σ', fX4_layMeanPlan_11 18 n (nI t) σ = some (0, σ') ∧ frP σ σ' ∧ MQ4 σ' (l ++ gp m R capM (dM m R sh) (prM m R sh) k t (dM m R sh t)) := by
  intro n
  have hR := hm.2.2
  have hm1 := hm.1
  have hl729 := (lst_ok hm.1 hR).1.1
  induction n with
  | zero => intro k t l σ _ _ _ _ _ _ _ h; omega
  | succ n ih =>
    intro k t l σ hG hO hL hQ hv hmu hlen hk
    have hs : ∀ r s, r < m → 1 ≤ s → s ≤ R → sh r s ≤ 100 := fun r s a b c => (hG.2.2.2 r s a b c).2
    have ht := hv.1
    unfold fX4_layMeanPlan_11
    rw [qb_ok (e_lastState hG)]
    by_cases hl : t = lst m R
    · refine ⟨σ, by rw [if_pos (by rw [hl])], fun _ _ _ _ => rfl, ?_⟩
      rw [hl, gp_lst hm, List.append_nil]
      exact hQ
    · have hmp := mu_pos hm hv hl
      obtain ⟨k', rfl⟩ : ∃ k', k = k' + 1 := ⟨k - 1, by omega⟩
      obtain ⟨q, hq⟩ := chM_some hm hs hv hl
      have hok := chO_ok (m := m) m 0 q (by omega) hq
      have hln : ln m R q.1 = R := by unfold ln; rw [if_pos hok.1]
      have ha := aft_gn hR hv (r := q.1) (s := q.2) (by omega) hok.2.2.1 (by omega)
      have hge := dM_ge hm hs hv (r := q.1) (by omega) hok.2.2.1 (by omega)
      have hsp : dM m R sh t + q.2 * prM m R sh (aft t q.1 q.2) = dM m R sh (aft t q.1 q.2) := by
        have h5 := hok.2.2.2.2
        unfold okT at h5
        rw [decide_eq_true_eq] at h5
        unfold tv at hge
        omega
      have hL30 : l.length < 30 := by omega
      rw [if_neg (by rw [nI_eq (by omega) (by omega)]; exact hl), show (0 : Int32) = nI 0 from rfl, e_layMeanPlan_23 hG hO hm hL hQ.1 hL30 hv qfu 0 (by omega) (by unfold qfu; omega) hq]
      generalize hσ1 : qset (qset σ 24 l.length (nI (10 * q.1 + q.2))) 18 10 (nI (l.length + 1)) = σ1
      have f1 : frP σ σ1 := fun k j q1 q2 => by rw [← hσ1, qset_ne q2, qset_ne (by omega)]
      obtain ⟨σ2, z1, z2, z3⟩ := ih k' (aft t q.1 q.2) (l ++ [q]) σ1 (hG.keep (fun k j hk => f1 k j (by omega) (by omega))) (hO.keep (fun j hj => f1 18 j (by omega) (by omega))) (fun t hv => by rw [f1 22 t (by omega) (by omega)]; exact hL t hv) (by rw [← hσ1]; exact hQ.snoc hL30) ha.1 (by omega) (by rw [List.length_append]; show l.length + 1 + k' ≤ 30; omega) (by omega)
      refine ⟨σ2, z1, fun k j q1 q2 => (z2 k j q1 q2).trans (f1 k j q1 q2), ?_⟩
      rw [gp, hq]
      show MQ4 σ2 (l ++ (q :: gp m R capM (dM m R sh) (prM m R sh) k' (aft t q.1 q.2) (dM m R sh t + q.2 * prM m R sh (aft t q.1 q.2))))
      rw [hsp]
      rw [List.append_assoc] at z3
      exact z3
/-- cells of the model that its searches write -/
def frM (σ0 σ : qSt) : Prop := ∀ k j, k ≠ 22 → k ≠ 23 → k ≠ 24 → ¬ (k = 18 ∧ 10 ≤ j) → σ k j = σ0 k j
theorem frM.trans {a b c : qSt} (h1 : frM a b) (h2 : frM b c) : frM a c := fun k j q1 q2 q3 q4 => (h2 k j q1 q2 q3 q4).trans (h1 k j q1 q2 q3 q4)
/-- what the model knows of the worst case isn't touched -/
def frX (σ0 σ : qSt) : Prop := ∀ j, 12 ≤ j → σ 18 j = σ0 18 j
theorem e_layMeanPlan (hG : MG σ m R sh) (hO : MO σ o bk) (hm : okm m R) : ∃ σ', fX4_layMeanPlan 18 σ = some (0, σ') ∧ frM σ σ' ∧ frX σ σ' ∧ MQ4 σ' (plM m R sh) := by
  obtain ⟨σ1, w1, w2, w3⟩ := e_layLeast hG hO hm
  unfold fX4_layMeanPlan
  rw [qb_ok w1]
  generalize hσ2 : qset σ1 18 10 0 = σ2
  have k2 : ∀ k j, k ≠ 22 → ¬ (k = 18 ∧ j = 10) → σ2 k j = σ k j := fun k j q1 q2 => by rw [← hσ2, qset_ne q2]; exact w2 k j q1
  have hQ : MQ4 σ2 [] := ⟨by rw [← hσ2]; exact qset_same, by decide, fun i hi => absurd hi (Nat.not_lt_zero _)⟩
  obtain ⟨σ3, z1, z2, z3⟩ := e_layMeanPlan_11 hm qfu 30 0 [] σ2 (hG.keep (fun k j hk => k2 k j (by omega) (by omega))) (hO.keep (fun j hj => k2 18 j (by omega) (by omega))) (fun t hv => by rw [← hσ2, qset_ne (by omega)]; exact w3 t hv) hQ vst0 (by have := mu_le (m := m) hm.2.2 0; omega) (by decide) (by unfold qfu; omega)
  refine ⟨σ3, z1, fun k j q1 q2 q3 q4 => (z2 k j q3 (by omega)).trans (k2 k j q1 (by omega)), fun j hj => (z2 18 j (by omega) (by omega)).trans (k2 18 j (by omega) (by omega)), z3⟩
/-! leastMean -/
theorem e_leastMean_23 (hG : MG σ m R sh) (hO : MO σ o bk) {r : Nat} (hr : r < m) {f : Int32 → Int32 → qSt → qR} : ∀ n s (a : Int), 1 ≤ s → s ≤ R + 1 → R + 1 - s < n →
    fX4_leastMean_23 18 f n (iI a) (nI r) (nI s) σ = f (iI (a + (o : Int) * (sIn (fun s => sh r s * s) (R + 1 - s) s : Nat))) (nI (r + 1)) σ := by
  intro n
  have g3 := hG.2.2.1
  induction n with
  | zero => intro s a h1 h2 h3; omega
  | succ n ih =>
    intro s a h1 h2 h3
    unfold fX4_leastMean_23
    rcases Nat.lt_or_ge R s with hs | hs
    · rw [if_pos (by rw [hG.2.1]; exact nI_lt hs (by omega)), show R + 1 - s = 0 by omega, nI_1, sIn]
      simp
    · rw [if_neg (by rw [hG.2.1]; exact nI_nlt hs (by omega)), e_ix2, if_pos (show qin (nI (9 * r + s)) (qlen (18 + 1)) = true from (qin_nI (by omega)).mpr (by show 9 * r + s < 27; omega)), nI_clamp (by omega), nI_1]
      show fX4_leastMean_23 18 f n (iI a + σ 19 (9 * r + s) * σ 18 2 * nI s) _ _ σ = _
      rw [(hG.2.2.2 r s hr h1 hs).1, hO.1, pk_mul, pk_mul, iI_n, iI_add, ih (s + 1) _ (by omega) (by omega) (by omega), show R + 1 - s = (R + 1 - (s + 1)) + 1 by omega, sIn]
      congr 2
      rw [Int.add_assoc]
      congr 1
      rw [show sh r s * o * s = o * (sh r s * s) by rw [Nat.mul_comm (sh r s) o, Nat.mul_assoc], Int.natCast_mul, Int.natCast_add, Int.mul_add]
theorem e_leastMean_13 (hG : MG σ m R sh) (hO : MO σ o bk) : ∀ n r (a : Int), r ≤ m → m - r < n →
    fX4_leastMean_13 18 n (iI a) (nI r) σ = some (iI (a + (o : Int) * (sOut (fun r s => sh r s * s) R (m - r) r : Nat)), σ) := by
  intro n
  have g3 := hG.2.2.1
  induction n with
  | zero => intro r a h1 h2; omega
  | succ n ih =>
    intro r a h1 h2
    unfold fX4_leastMean_13
    rcases Nat.lt_or_ge r m with hr | hr
    · rw [if_neg (by rw [hG.1]; exact nI_ge hr (by omega)), show (1 : Int32) = nI 1 from rfl, e_leastMean_23 hG hO hr qfu 1 a (by omega) (by omega) (by unfold qfu; omega)]
      show fX4_leastMean_13 18 n _ _ σ = _
      rw [ih (r + 1) _ (by omega) (by omega), show m - r = (m - (r + 1)) + 1 by omega, sOut, show R + 1 - 1 = R by omega, Int.add_assoc, Int.natCast_add, Int.mul_add]
    · rw [if_pos (by rw [hG.1]; exact nI_le hr (by omega)), show m - r = 0 by omega, sOut]
      simp
/-- the least mean -/
def lmV (o bk m R : Nat) (sh : Nat → Nat → Nat) : Int32 := iI (lE (o + bk) m R sh 0 + (o : Int) * (sOut (fun r s => sh r s * s) R m 0 : Nat))
theorem e4_leastMean (hG : MG σ m R sh) (hO : MO σ o bk) (hm : okm m R) : ∃ σ', fX4_leastMean 18 σ = some (lmV o bk m R sh, σ') ∧ frM σ σ' ∧ frX σ σ' := by
  obtain ⟨σ1, w1, w2, w3⟩ := e_layLeast hG hO hm
  refine ⟨σ1, ?_, fun k j q1 q2 q3 q4 => w2 k j q1, fun j hj => w2 18 j (by omega)⟩
  unfold fX4_leastMean
  rw [qb_ok w1, if_pos (by decide)]
  show fX4_leastMean_13 18 qfu (σ1 22 0) (nI 0) σ1 = _
  rw [w3 0 vst0, e_leastMean_13 (hG.keep (fun k j hk => w2 k j (by omega))) (hO.keep (fun j hj => w2 18 j (by omega))) qfu 0 _ (by omega) (by have := hm.1; unfold qfu; omega)]
  rfl
/-! the class: what is known of the least mean -/
def KM (σ : qSt) (m R : Nat) (sh : Nat → Nat → Nat) : Prop := σ 0 7 = 0 ∨ (σ 0 7 = 1 ∧ σ 0 9 = iI (BG - dM m R sh 0) ∧ PL σ 12 (plM m R sh).length (lry (plM m R sh)) (lfa (plM m R sh)))
/-- behind findMean -/
theorem e_findMean (hG : CG σ m R sh) (hK : KM σ m R sh) : ∃ σ', fX3_findMean 0 σ = some (0, σ') ∧ (∀ k j, (k ≠ 0 ∨ (j ≠ 7 ∧ j ≠ 9)) → k ≠ 6 → k ≠ 7 → k ≠ 8 → k ≠ 9 → k ≠ 10 → k ≠ 11 → k ≠ 12 → k ≠ 13 → k ≠ 14 → σ' k j = σ k j) ∧ σ' 0 7 = 1 ∧ σ' 0 9 = iI (BG - dM m R sh 0) ∧ PL σ' 12 (plM m R sh).length (lry (plM m R sh)) (lfa (plM m R sh)) := by
  unfold fX3_findMean
  rcases hK with h | ⟨h1, h2, h3⟩
  · rw [if_pos h]
    obtain ⟨σ1, z1, z2, z3⟩ := e_planMean hG
    show ∃ σ', qb (fX1_planMean 6 1 12 σ) _ = _ ∧ _
    rw [qb_ok z1]
    refine ⟨_, rfl, fun k j q0 q1 q2 q3 q4 q5 q6 q7 q8 q9 => ?_, qset_same, ?_, ?_⟩
    · rw [qset_ne (by omega), qset_ne (by omega)]
      exact z2 k j q1 q2 q3 q4 q5 q6 q7 q8 q9
    · rw [qset_ne (by omega), qset_same]
    · refine ⟨z3.1, ?_, z3.2.2.1, fun i hi => ?_⟩
      · rw [qset_ne (by omega), qset_ne (by omega)]; exact z3.2.1
      · rw [qset_ne (by omega), qset_ne (by omega), qset_ne (by omega), qset_ne (by omega)]; exact z3.2.2.2 i hi
  · rw [if_neg (by rw [h1]; decide)]
    exact ⟨σ, rfl, fun _ _ _ _ _ _ _ _ _ _ _ _ => rfl, h1, h2, h3⟩
end MPLAN2
