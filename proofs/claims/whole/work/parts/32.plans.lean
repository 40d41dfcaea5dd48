/-! ===== pure: the class's two plans ===== -/
def frW (k2 : Nat) (σ0 σ : qSt) : Prop := ∀ k j, k ≠ 11 → k ≠ k2 → k ≠ k2 + 1 → k ≠ k2 + 2 → σ k j = σ0 k j
theorem frW.trans {k2 : Nat} {a b c : qSt} (h1 : frW k2 a b) (h2 : frW k2 b c) : frW k2 a c := fun k j q1 q2 q3 q4 => (h2 k j q1 q2 q3 q4).trans (h1 k j q1 q2 q3 q4)
theorem OL.frW {k2 : Nat} (hk : 12 ≤ k2) {σ0 σ : qSt} {m R : Nat} {cap : Nat → Int} {pc : Nat → Nat → Int} {bs : Int} (h : OL σ0 m R cap pc bs) (hf : frW k2 σ0 σ) : OL σ m R cap pc bs :=
  ⟨(hf 6 0 (by omega) (by omega) (by omega) (by omega)).trans h.1, (hf 6 1 (by omega) (by omega) (by omega) (by omega)).trans h.2.1, (hf 6 4 (by omega) (by omega) (by omega) (by omega)).trans h.2.2.1, fun k h1 h2 => (hf 7 k (by omega) (by omega) (by omega) (by omega)).trans (h.2.2.2.1 k h1 h2), fun r g h1 h2 => (hf 8 _ (by omega) (by omega) (by omega) (by omega)).trans (h.2.2.2.2 r g h1 h2)⟩
theorem MS.frW {k2 : Nat} (hk : 12 ≤ k2) {σ0 σ : qSt} {m R : Nat} {D : Nat → Int} (h : MS σ0 m R D) (hf : frW k2 σ0 σ) : MS σ m R D := fun t hv => (hf 9 _ (by omega) (by omega) (by omega) (by omega)).trans (h t hv)
theorem lry_lt {l : List (Nat × Nat)} {q : Nat × Nat} {i : Nat} (h : i < l.length) : lry (l ++ [q]) i = lry l i := by
  unfold lry; rw [List.getD_eq_getElem?_getD, List.getD_eq_getElem?_getD, List.getElem?_append_left h]
theorem lfa_lt {l : List (Nat × Nat)} {q : Nat × Nat} {i : Nat} (h : i < l.length) : lfa (l ++ [q]) i = lfa l i := by
  unfold lfa; rw [List.getD_eq_getElem?_getD, List.getD_eq_getElem?_getD, List.getElem?_append_left h]
theorem lry_eq {l : List (Nat × Nat)} {q : Nat × Nat} : lry (l ++ [q]) l.length = q.1 := by
  unfold lry; rw [List.getD_eq_getElem?_getD, List.getElem?_append_right (Nat.le_refl _), Nat.sub_self]; rfl
theorem lfa_eq {l : List (Nat × Nat)} {q : Nat × Nat} : lfa (l ++ [q]) l.length = q.2 := by
  unfold lfa; rw [List.getD_eq_getElem?_getD, List.getElem?_append_right (Nat.le_refl _), Nat.sub_self]; rfl
section PLANS
variable {m R : Nat} {cap : Nat → Int} {pc : Nat → Nat → Int} {bs : Int} {D : Nat → Int}
theorem e_write_17 {k2 : Nat} (hk2 : 12 ≤ k2) (hm : okm m R) (hDb : ∀ t, vst m R t → -12000000 ≤ D t ∧ D t ≤ 10000000) (hc : okc m R cap pc bs) : ∀ n l t sp σ, OL σ m R cap pc bs → MS σ m R D → GN σ t → vst m R t → (-12000000 ≤ sp ∧ sp ≤ 10000000) → PL σ k2 l.length (lry l) (lfa l) → 30 - l.length < n →
    ∃ σ', fX1_write_17 6 k2 n (iI sp) (nI l.length) σ = some (0, σ') ∧ frW k2 σ σ' ∧ PL σ' k2 (l ++ gp m R cap D (prS pc bs) (30 - l.length) t sp).length (lry (l ++ gp m R cap D (prS pc bs) (30 - l.length) t sp)) (lfa (l ++ gp m R cap D (prS pc bs) (30 - l.length) t sp)) := by
  intro n
  have hR := hm.2.2
  have hm1 := hm.1
  induction n with
  | zero => intro l t sp σ _ _ _ _ _ _ h; omega
  | succ n ih =>
    intro l t sp σ hO hMS hg hv hsp hP hn
    have hc30 := hP.2.2.1
    unfold fX1_write_17
    rcases Nat.lt_or_ge l.length 30 with hl | hl
    · rw [if_neg (by show ¬ nI 30 ≤ nI l.length; exact nI_ge hl (by omega)), qb_ok (e_firstTrip hm hO hMS hv hg hsp hDb hc.1 hc.2), show 30 - l.length = (30 - (l.length + 1)) + 1 by omega, gp]
      cases hch : chO R cap D (prS pc bs) t sp m 0 with
      | none =>
        refine ⟨σ, by rw [if_pos rfl], fun _ _ _ _ _ _ => rfl, ?_⟩
        rw [List.append_nil]
        exact hP
      | some q =>
        obtain ⟨r, s⟩ := q
        have hq := chO_ok (m := m) m 0 (r, s) (by omega) hch
        have hr : r < m := hq.1
        have h1 : gn t r < s := hq.2.2.1
        have h2 : s ≤ R := hq.2.2.2.1
        have hln : ln m R r = R := by unfold ln; rw [if_pos hr]
        have ha := aft_gn hR hv (r := r) (by omega) h1 (by omega)
        have ho : sp + s * prS pc bs (aft t r s) ≤ D (aft t r s) := by
          have := hq.2.2.2.2
          unfold okT at this
          exact of_decide_eq_true this
        have d1 := hDb _ ha.1
        have p1 := hc.2 _ ha.1
        have m2 : 0 ≤ (s : Int) * prS pc bs (aft t r s) := Int.mul_nonneg (by omega) p1.1
        have e1 : nI (10 * r + s) / 10 = nI r := by
          rw [show (10 : Int32) = nI 10 from rfl, pk_div (by omega) (by omega) (by omega), show (10 * r + s) / 10 = r by omega]
        have e2 : nI (10 * r + s) - nI r * 10 = nI s := by
          rw [show (10 : Int32) = nI 10 from rfl, pk_mul, pk_sub (by omega), show 10 * r + s - r * 10 = s by omega]
        have hne : ¬ nI (10 * r + s) = -6 := by
          intro hq
          have := congrArg Int32.toInt hq
          rw [nI_toInt (by omega), show (-6 : Int32).toInt = -6 from rfl] at this
          omega
        show ∃ σ', (if nI (10 * r + s) = -6 then _ else qb (fX2_add k2 (nI (10 * r + s) / 10) (nI (10 * r + s) - nI (10 * r + s) / 10 * 10) σ) _) = _ ∧ _
        rw [if_neg hne, e1, e2, qb_ok (e_add hP hl)]
        generalize hσ1 : qset (qset (qset σ (k2 + 1) l.length (nI r)) (k2 + 2) l.length (nI s)) k2 2 (nI (l.length + 1)) = σ1
        have f1 : frW k2 σ σ1 := fun k j q1 q2 q3 q4 => by rw [← hσ1, qset_ne (by omega), qset_ne (by omega), qset_ne (by omega)]
        have hO1 := OL.frW hk2 hO f1
        have hg1 : GN σ1 t := fun q hq => by rw [← hσ1, qset_ne (by omega), qset_ne (by omega), qset_ne (by omega)]; exact hg q hq
        have hP1 : PL σ1 k2 (l ++ [(r, s)]).length (lry (l ++ [(r, s)])) (lfa (l ++ [(r, s)])) := by
          rw [List.length_append]
          refine ⟨hP.1, by rw [← hσ1]; exact qset_same, by show l.length + 1 ≤ 30; omega, fun i hi => ?_⟩
          have hi : i < l.length + 1 := hi
          rw [← hσ1, qset_ne (by omega), qset_ne (by omega)]
          rcases Nat.lt_or_ge i l.length with hlt | hge
          · rw [lry_lt hlt, lfa_lt hlt, qset_ne (by omega), qset_ne (by omega), qset_ne (by omega), qset_ne (by omega)]
            exact hP.2.2.2 i hlt
          · have : i = l.length := by omega
            subst this
            rw [lry_eq, lfa_eq, qset_same, qset_ne (by omega), qset_same]
            exact ⟨rfl, rfl⟩
        rw [qb_ok (e_costOf hO1 hR hv hg1 (by omega) h1 (by omega)), iI_add, nI_1]
        show ∃ σ', qb (fX3_put 11 _ _ σ1) _ = _ ∧ _
        rw [qb_ok (e_put (by rw [qlen11]; omega))]
        generalize hσ2 : qset σ1 11 r (nI s) = σ2
        have f2 : frW k2 σ1 σ2 := fun k j q1 q2 q3 q4 => by rw [← hσ2, qset_ne (by omega)]
        have hg2 : GN σ2 (aft t r s) := by
          intro q hq
          rw [← hσ2]
          by_cases he : q = r
          · subst he
            rw [qset_same, ha.2.1]
          · rw [qset_ne (by omega), ha.2.2.1 q hq he]
            exact hg1 q hq
        have hP2 : PL σ2 k2 (l ++ [(r, s)]).length (lry (l ++ [(r, s)])) (lfa (l ++ [(r, s)])) := by
          refine ⟨hP1.1, by rw [← hσ2, qset_ne (by omega)]; exact hP1.2.1, hP1.2.2.1, fun i hi => ?_⟩
          rw [← hσ2, qset_ne (by omega), qset_ne (by omega)]
          exact hP1.2.2.2 i hi
        have hlen : (l ++ [(r, s)]).length = l.length + 1 := by rw [List.length_append]; rfl
        obtain ⟨σ3, z1, z2, z3⟩ := ih (l ++ [(r, s)]) (aft t r s) (sp + s * prS pc bs (aft t r s)) σ2 (OL.frW hk2 hO1 f2) (MS.frW hk2 (MS.frW hk2 hMS f1) f2) hg2 ha.1 ⟨by omega, by omega⟩ hP2 (by omega)
        rw [hlen] at z1 z3
        refine ⟨σ3, z1, (f1.trans f2).trans z2, ?_⟩
        rw [List.append_assoc] at z3
        exact z3
    · refine ⟨σ, by rw [if_pos (by show nI 30 ≤ nI l.length; exact nI_le hl (by omega))], fun _ _ _ _ _ _ => rfl, ?_⟩
      rw [show 30 - l.length = 0 by omega, gp, List.append_nil]
      exact hP
theorem vst0 : vst m R 0 := ⟨by omega, fun r _ => by unfold gn; rw [Nat.zero_div]; omega⟩
theorem gn_0 (r : Nat) : gn 0 r = 0 := by unfold gn; rw [Nat.zero_div]
/-- a plan, written -/
def plW (m R : Nat) (cap : Nat → Int) (D pr : Nat → Int) (sp : Int) : List (Nat × Nat) := gp m R cap D pr 30 0 sp
theorem e_write {k2 : Nat} (hk2 : 12 ≤ k2) (hql : qlen (k2 + 1) = 30 ∧ qlen (k2 + 2) = 30) (hm : okm m R) (hDb : ∀ t, vst m R t → -12000000 ≤ D t ∧ D t ≤ 10000000) (hc : okc m R cap pc bs) {sp : Int} {σ : qSt} (hO : OL σ m R cap pc bs) (hMS : MS σ m R D) (hsp : -12000000 ≤ sp ∧ sp ≤ 10000000) :
    ∃ σ', fX1_write 6 k2 (iI sp) σ = some (0, σ') ∧ frW k2 σ σ' ∧ PL σ' k2 (plW m R cap D (prS pc bs) sp).length (lry (plW m R cap D (prS pc bs) sp)) (lfa (plW m R cap D (prS pc bs) sp)) := by
  unfold fX1_write fX2_empty
  rw [qb_ok rfl]
  show ∃ σ', qb (fX3_putAll 11 0 _) _ = _ ∧ _
  rw [qb_ok e_putAll]
  generalize hσ1 : qfill (qset σ k2 2 0) 11 0 0 = σ1
  have f1 : frW k2 σ σ1 := fun k j q1 q2 q3 q4 => by
    rw [← hσ1]
    unfold qfill
    rw [if_neg (by omega), qset_ne (by omega)]
  have hg1 : GN σ1 0 := fun r hr => by
    rw [← hσ1, gn_0]
    unfold qfill
    rw [if_pos ⟨rfl, by omega, by rw [qlen11]; omega⟩]
    rfl
  have hP1 : PL σ1 k2 ([] : List (Nat × Nat)).length (lry []) (lfa []) := by
    refine ⟨hql, ?_, by decide, fun i hi => absurd hi (Nat.not_lt_zero _)⟩
    rw [← hσ1]
    unfold qfill
    rw [if_neg (by omega), qset_same]
    rfl
  obtain ⟨σ2, z1, z2, z3⟩ := e_write_17 hk2 hm hDb hc qfu [] 0 sp σ1 (OL.frW hk2 hO f1) (MS.frW hk2 hMS f1) hg1 vst0 hsp hP1 (by unfold qfu; simp)
  exact ⟨σ2, z1, f1.trans z2, z3⟩
end PLANS
