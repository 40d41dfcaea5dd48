/-! ===== pure: the model's states; its row of values for the worst case ===== -/
theorem qset_qset {σ : qSt} {k j : Nat} {v w : Int32} : qset (qset σ k j v) k j w = qset σ k j w := by
  funext k' j'
  unfold qset
  split
  · split <;> rfl
  · rfl
theorem qset_id {σ : qSt} {k j : Nat} {v : Int32} (h : σ k j = v) : qset σ k j v = σ := by
  funext k' j'
  unfold qset
  split
  · rename_i h1
    split
    · rename_i h2
      rw [h1, h2, h]
    · rfl
  · rfl
def okF (t R : Nat) : Nat → Nat → Bool
  | 0, _ => true
  | n + 1, j => decide (gn t j ≤ R) && okF t R n (j + 1)
def vsb (m R t : Nat) : Bool := (decide (m = 3) || decide (t < 81)) && okF t R 3 0
section MDP
variable {σ : qSt} {m R o bk : Nat} {sh : Nat → Nat → Nat}
theorem vsb_iff (hm : okm m R) {t : Nat} (ht : t < 729) : vsb m R t = true ↔ vst m R t := by
  have hm1 := hm.1
  unfold vsb vst okF okF okF okF
  simp only [Bool.and_eq_true, Bool.or_eq_true, decide_eq_true_eq, and_true]
  constructor
  · rintro ⟨h1, h2, h3, h4⟩
    refine ⟨ht, fun r hr => ?_⟩
    unfold ln
    rcases (show r = 0 ∨ r = 1 ∨ r = 2 by omega) with rfl | rfl | rfl
    · rw [if_pos (by omega)]; exact h2
    · rw [if_pos (by omega)]; exact h3
    · rcases hm1 with e | e
      · rw [if_neg (by omega), gn2]
        omega
      · rw [if_pos (by omega)]; exact h4
  · rintro ⟨-, h⟩
    have h0 := h 0 (by omega)
    have h1 := h 1 (by omega)
    have h2 := h 2 (by omega)
    have l0 := ln_le (m := m) (R := R) (r := 0)
    have l1 := ln_le (m := m) (R := R) (r := 1)
    have l2 := ln_le (m := m) (R := R) (r := 2)
    refine ⟨?_, show gn t 0 ≤ R by omega, show gn t 1 ≤ R by omega, show gn t 2 ≤ R by omega⟩
    rcases hm1 with e | e
    · right
      unfold ln at h2
      rw [if_neg (by omega), gn2] at h2
      omega
    · exact Or.inl e
theorem e_isState_22 (hG : MG σ m R sh) {t : Nat} (ht : t < 1000) : ∀ n j b, j ≤ 3 → 3 - j < n → fX4_isState_22 18 n (nI t) (if b then 1 else 0) (nI j) σ = some (if b && okF t R (3 - j) j then 1 else 0, σ) := by
  intro n
  have g3 := hG.2.2.1
  induction n with
  | zero => intro j b h1 h2; omega
  | succ n ih =>
    intro j b h1 h2
    unfold fX4_isState_22
    rcases Nat.lt_or_ge j 3 with hj | hj
    · have hg := gn_le t j
      rw [if_neg (by show ¬ nI 3 ≤ nI j; exact nI_ge hj (by omega)), nI_1, show 3 - j = (3 - (j + 1)) + 1 by omega, okF]
      cases b with
      | false =>
        rw [if_pos (show (if false = true then (1 : Int32) else 0) = 0 from rfl)]
        have := ih (j + 1) false (by omega) (by omega)
        rw [if_neg (by decide)] at this
        rw [this]
        rfl
      | true =>
        rw [if_pos rfl, if_neg q10, qb_ok (e_gone (by omega) ht), hG.2.1]
        show (if nI R < nI (gn t j) then _ else _) = _
        by_cases hq : gn t j ≤ R
        · rw [if_neg (nI_nlt hq (by omega))]
          have := ih (j + 1) true (by omega) (by omega)
          rw [if_pos rfl] at this
          rw [this, decide_eq_true hq]
          rfl
        · rw [if_pos (nI_lt (by omega) (by omega))]
          have := ih (j + 1) false (by omega) (by omega)
          rw [if_neg (by decide)] at this
          rw [this, decide_eq_false hq]
          rfl
    · rw [if_pos (by show nI 3 ≤ nI j; exact nI_le hj (by omega)), show 3 - j = 0 by omega, okF, Bool.and_true]
theorem e_isState (hG : MG σ m R sh) {t : Nat} (ht : t < 1000) : fX4_isState 18 (nI t) σ = some (if vsb m R t then 1 else 0, σ) := by
  have g3 := hG.2.2.1
  have key : ∀ b : Bool, qz (fX4_isState_22 18 qfu (nI t) (if b then 1 else 0) 0 σ) = some (if b && okF t R 3 0 then 1 else 0, σ) := by
    intro b
    have := e_isState_22 hG ht qfu 0 b (by omega) (by unfold qfu; omega)
    show qz (fX4_isState_22 18 qfu (nI t) (if b then 1 else 0) (nI 0) σ) = _
    rw [this]
    show qz (some ((if b && okF t R 3 0 then 1 else 0), σ)) = _
    cases (b && okF t R 3 0) <;> rfl
  unfold fX4_isState fX4_isState_b vsb
  rw [hG.1]
  by_cases h3 : m = 3
  · rw [if_pos (by rw [h3]; rfl), decide_eq_true h3]
    exact key true
  · rw [if_neg (by rw [show (3 : Int32) = nI 3 from rfl, nI_eq (by omega) (by omega)]; exact h3), decide_eq_false h3]
    by_cases h81 : t < 81
    · rw [if_neg (by show ¬ nI 81 ≤ nI t; exact nI_ge h81 (by omega)), decide_eq_true h81]
      exact key true
    · rw [if_pos (by show nI 81 ≤ nI t; exact nI_le (by omega) (by omega)), decide_eq_false h81]
      exact key false
theorem e_lastState (hG : MG σ m R sh) : fX4_lastState 18 σ = some (nI (lst m R), σ) := by
  have g3 := hG.2.2.1
  unfold fX4_lastState lst
  rw [hG.1, hG.2.1]
  by_cases h3 : m = 3
  · rw [if_pos (by rw [h3]; rfl), if_pos h3, show (9 : Int32) = nI 9 from rfl, show (81 : Int32) = nI 81 from rfl, pk_mul, pk_mul, nI_add, nI_add]
  · rw [if_neg (by rw [show (3 : Int32) = nI 3 from rfl, nI_eq (by omega) (by omega)]; exact h3), if_neg h3, show (9 : Int32) = nI 9 from rfl, show (0 : Int32) = nI 0 from rfl, pk_mul, nI_add, nI_add, Nat.add_zero]
/-- the place of the state behind a trip -/
theorem e_behind {t r s : Nat} (h1 : gn t r < s) : nI t + ((nI s - nI (gn t r + 1)) + 1) * nI (9 ^ r) = nI (aft t r s) := by
  rw [pk_sub (by omega), nI_1, pk_mul, nI_add]
  unfold aft
  rw [show s - (gn t r + 1) + 1 = s - gn t r by omega]
theorem e_behind2 {t r s : Nat} (h1 : gn t r < s) : nI t + (nI s - nI (gn t r)) * nI (9 ^ r) = nI (aft t r s) := by
  rw [pk_sub (by omega), pk_mul, nI_add]
  rfl
theorem MG.keep {σ σ' : qSt} (h : MG σ m R sh) (hf : ∀ k j, (k = 18 ∧ j < 2) ∨ k = 19 → σ' k j = σ k j) : MG σ' m R sh :=
  ⟨(hf 18 0 (by omega)).trans h.1, (hf 18 1 (by omega)).trans h.2.1, h.2.2.1, fun r s h1 h2 h3 => ⟨(hf 19 _ (by omega)).trans (h.2.2.2 r s h1 h2 h3).1, (h.2.2.2 r s h1 h2 h3).2⟩⟩
theorem qlen22 : qlen 22 = 729 := rfl
theorem qlen23 : qlen 23 = 729 := rfl
theorem qlen24 : qlen 24 = 30 := rfl
/-! most -/
def vS (may : Int) (lf : Nat → Int) : Nat → Nat → Int → Int
  | 0, _, v => v
  | k + 1, s, v => vS may lf k (s + 1) (max v (min may (lf s)))
theorem vS_eq {may : Int} {lf : Nat → Int} : ∀ k s v, vS may lf (k + 1) s v = max v (min may (mxx lf k s)) := by
  intro k
  induction k with
  | zero => intro s v; rfl
  | succ k ih =>
    intro s v
    rw [vS, ih (s + 1) _, mxx]
    omega
theorem vS_bd {may : Int} {lf : Nat → Int} {lo hi : Int} (hm : lo ≤ may ∧ may ≤ hi) : ∀ k s v, (∀ i, s ≤ i → i < s + k → lo ≤ lf i ∧ lf i ≤ hi) → lo ≤ v → v ≤ hi → lo ≤ vS may lf k s v ∧ vS may lf k s v ≤ hi := by
  intro k
  induction k with
  | zero => intro s v _ h1 h2; exact ⟨h1, h2⟩
  | succ k ih =>
    intro s v h h1 h2
    have hs := h s (Nat.le_refl _) (by omega)
    rw [vS]
    exact ih (s + 1) _ (fun i q1 q2 => h i (by omega) (by omega)) (by omega) (by omega)
/-- the ray's steps in the model's row of values; E: the values behind -/
theorem e_layMost_72 {σ1 : qSt} (hG : MG σ1 m R sh) (hm : okm m R) {up low : Nat} {E : Nat → Int} {t r : Nat} (hv : vst m R t) (hr : r < m) {may : Int} (hmay : -2000000 ≤ may ∧ may ≤ 2000000) (hE : ∀ s, gn t r < s → s ≤ R → σ1 23 (aft t r s) = iI (E (aft t r s)) ∧ -1900000 ≤ E (aft t r s) ∧ E (aft t r s) ≤ 2000000) {f : Int32 → Int32 → Int32 → Int32 → qSt → qR} : ∀ n s v, gn t r < s → s ≤ R + 1 → R + 1 - s < n → (-2000000 ≤ v ∧ v ≤ 2000000) →
    fX4_layMost_72 18 f n (nI up) (nI low) (nI t) (nI r) (nI (gn t r + 1)) (iI may) (nI s) (qset σ1 23 t (iI v)) = f (nI up) (nI low) (nI t) (nI (r + 1)) (qset σ1 23 t (iI (vS may (fun s => E (aft t r s) - s) (R + 1 - s) s v))) := by
  intro n
  have hR := hm.2.2
  have hm1 := hm.1
  have hln : ln m R r = R := by unfold ln; rw [if_pos hr]
  have ht := hv.1
  induction n with
  | zero => intro s v h1 h2 h3 _; omega
  | succ n ih =>
    intro s v h1 h2 h3 hvb
    unfold fX4_layMost_72
    have hG' : (qset σ1 23 t (iI v)) 18 1 = nI R := by rw [qset_ne (by omega)]; exact hG.2.1
    rw [hG']
    rcases Nat.lt_or_ge R s with hs | hs
    · rw [if_pos (nI_lt hs (by omega)), show R + 1 - s = 0 by omega, nI_1]
      rfl
    · have ha := aft_gn hR hv (r := r) (by omega) h1 (by omega)
      have hat := ha.1.1
      have hEs := hE s h1 hs
      rw [if_neg (nI_nlt hs (by omega)), qb_ok (e_nines (by omega)), e_behind h1, if_pos (show qin (nI (aft t r s)) (qlen (18 + 5)) = true from (qin_nI (by omega)).mpr (by show _ < 729; omega)), nI_clamp (by omega)]
      have e1 : (qset σ1 23 t (iI v)) (18 + 5) (aft t r s) - nI s = iI (E (aft t r s) - s) := by
        show (qset σ1 23 t (iI v)) 23 (aft t r s) - nI s = _
        rw [qset_ne (by have := ha.2.2.2.1; omega), hEs.1, iI_n, iI_sub]
      rw [e1]
      have own : (if iI may ≤ iI (E (aft t r s) - s) then fX4_layMost_120 18 (fun z1 z2 z3 z4 z5 z6 z7 sg => fX4_layMost_72 18 f n z1 z2 z3 z4 z5 z6 z7 sg) (nI up) (nI low) (nI t) (nI r) (nI (gn t r + 1)) (iI may) (nI s) (iI may) (qset σ1 23 t (iI v)) else fX4_layMost_120 18 (fun z1 z2 z3 z4 z5 z6 z7 sg => fX4_layMost_72 18 f n z1 z2 z3 z4 z5 z6 z7 sg) (nI up) (nI low) (nI t) (nI r) (nI (gn t r + 1)) (iI may) (nI s) (iI (E (aft t r s) - s)) (qset σ1 23 t (iI v))) = fX4_layMost_120 18 (fun z1 z2 z3 z4 z5 z6 z7 sg => fX4_layMost_72 18 f n z1 z2 z3 z4 z5 z6 z7 sg) (nI up) (nI low) (nI t) (nI r) (nI (gn t r + 1)) (iI may) (nI s) (iI (min may (E (aft t r s) - s))) (qset σ1 23 t (iI v)) := by
        by_cases hq : may ≤ E (aft t r s) - s
        · rw [if_pos ((iI_le (by unfold bd; omega) (by unfold bd; omega)).mpr hq), Int.min_eq_left hq]
        · rw [if_neg (fun z => hq ((iI_le (by unfold bd; omega) (by unfold bd; omega)).mp z)), Int.min_eq_right (by omega)]
      rw [own]
      unfold fX4_layMost_120
      have hqt : qin (nI t) (qlen (18 + 5)) = true := (qin_nI (by omega)).mpr (by show _ < 729; omega)
      simp only [hqt, eq_self, if_true]
      rw [nI_clamp (by omega), nI_1]
      have ecur : (qset σ1 23 t (iI v)) (18 + 5) t = iI v := qset_same
      rw [ecur]
      have hend : (if iI (min may (E (aft t r s) - s)) ≤ iI v then fX4_layMost_72 18 f n (nI up) (nI low) (nI t) (nI r) (nI (gn t r + 1)) (iI may) (nI (s + 1)) (qset (qset σ1 23 t (iI v)) (18 + 5) t (iI v)) else fX4_layMost_72 18 f n (nI up) (nI low) (nI t) (nI r) (nI (gn t r + 1)) (iI may) (nI (s + 1)) (qset (qset σ1 23 t (iI v)) (18 + 5) t (iI (min may (E (aft t r s) - s))))) = fX4_layMost_72 18 f n (nI up) (nI low) (nI t) (nI r) (nI (gn t r + 1)) (iI may) (nI (s + 1)) (qset σ1 23 t (iI (max v (min may (E (aft t r s) - s))))) := by
        by_cases hq : min may (E (aft t r s) - s) ≤ v
        · rw [if_pos ((iI_le (by unfold bd; omega) (by unfold bd; omega)).mpr hq), Int.max_eq_left hq]
          show fX4_layMost_72 18 f n _ _ _ _ _ _ _ (qset (qset σ1 23 t (iI v)) 23 t (iI v)) = _
          rw [qset_qset]
        · rw [if_neg (fun z => hq ((iI_le (by unfold bd; omega) (by unfold bd; omega)).mp z)), Int.max_eq_right (by omega)]
          show fX4_layMost_72 18 f n _ _ _ _ _ _ _ (qset (qset σ1 23 t (iI v)) 23 t _) = _
          rw [qset_qset]
      rw [hend, ih (s + 1) _ (by omega) (by omega) (by omega) (by omega), show R + 1 - s = (R + 1 - (s + 1)) + 1 by omega, vS]
end MDP
