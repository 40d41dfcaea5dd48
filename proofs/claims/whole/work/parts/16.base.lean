/-! ===== plain facts of the store and of small numbers ===== -/
theorem qb_ok {x : qR} {f : Int32 → qSt → qR} {r : Int32} {s : qSt} (h : x = some (r, s)) : qb x f = f r s := by rw [h]; rfl
theorem qset_same {σ : qSt} {k j : Nat} {v : Int32} : qset σ k j v k j = v := by simp [qset]
theorem qset_ne {σ : qSt} {k j k' j' : Nat} {v : Int32} (h : ¬ (k' = k ∧ j' = j)) : qset σ k j v k' j' = σ k' j' := by
  unfold qset
  by_cases h1 : k' = k
  · rw [if_pos h1, if_neg (fun h2 => h ⟨h1, h2⟩)]
  · rw [if_neg h1]
theorem qin_nI {j N : Nat} (hj : j < 2 ^ 31) : qin (nI j) N = true ↔ j < N := by
  unfold qin
  rw [nI_clamp hj]
  simp [nI_pos' hj]
def qfill (σ : qSt) (k j : Nat) (v : Int32) : qSt := fun k' j' => if k' = k ∧ j ≤ j' ∧ j' < qlen k then v else σ k' j'
theorem qlen_le (k : Nat) : qlen k ≤ 729 := by
  rcases Nat.lt_or_ge k 25 with h | h
  · have : ∀ k, k < 25 → qlen k ≤ 729 := by decide
    exact this k h
  · unfold qlen
    rw [List.getD_eq_getElem?_getD, List.getElem?_eq_none (by simpa [qnl] using h)]
    decide
theorem qfill_step {σ : qSt} {k j : Nat} {v : Int32} (h : j < qlen k) : qfill (qset σ k j v) k (j + 1) v = qfill σ k j v := by
  funext k' j'
  unfold qfill qset
  by_cases h1 : k' = k
  · subst h1
    by_cases h2 : j' = j
    · subst h2
      rw [if_neg (by omega), if_pos rfl, if_pos rfl, if_pos ⟨rfl, Nat.le_refl _, h⟩]
    · rw [if_pos rfl, if_neg h2]
      by_cases h3 : j + 1 ≤ j' ∧ j' < qlen k'
      · rw [if_pos ⟨rfl, h3⟩, if_pos ⟨rfl, by omega, h3.2⟩]
      · rw [if_neg (fun q => h3 q.2), if_neg (fun q => h3 ⟨by omega, q.2.2⟩)]
  · rw [if_neg (fun q => h1 q.1), if_neg h1, if_neg (fun q => h1 q.1)]
theorem qfill_end {σ : qSt} {k j : Nat} {v : Int32} (h : qlen k ≤ j) : qfill σ k j v = σ := by
  funext k' j'
  unfold qfill
  rw [if_neg (by omega)]
theorem e_putAll_2 {k : Nat} {v : Int32} : ∀ (n j : Nat) (σ : qSt), j ≤ qlen k → qlen k - j < n → fX3_putAll_2 k n v (nI j) σ = some (0, qfill σ k j v) := by
  intro n
  induction n with
  | zero => intro j σ h1 h2; omega
  | succ n ih =>
    intro j σ h1 h2
    have hl := qlen_le k
    unfold fX3_putAll_2
    rcases Nat.lt_or_ge j (qlen k) with h | h
    · rw [if_neg (by show ¬ nI (qlen k) ≤ nI j; exact nI_ge h (by omega)), if_pos ((qin_nI (by omega)).mpr h), nI_clamp (by omega), nI_1, ih (j + 1) _ (by omega) (by omega), qfill_step h]
    · rw [if_pos (by show nI (qlen k) ≤ nI j; exact nI_le h (by omega)), qfill_end h]
theorem e_putAll {k : Nat} {v : Int32} {σ : qSt} : fX3_putAll k v σ = some (0, qfill σ k 0 v) := by
  have hl := qlen_le k
  unfold fX3_putAll
  rw [← nI_0]
  exact e_putAll_2 qfu 0 σ (Nat.zero_le _) (by unfold qfu; omega)
theorem e_lay {k : Nat} {a c : Int32} {σ : qSt} : fX0_lay k a c σ = some (0, qfill (qset (qset σ k 0 a) k 1 c) (k + 1) 0 1) := by
  unfold fX0_lay
  rw [qb_ok e_putAll]
theorem e_begin_7 : ∀ (n j : Nat) (σ : qSt), j ≤ 27 → 27 - j < n → fX4_begin_7 18 n (nI j) σ = some (0, qfill σ 19 j 1) := by
  intro n
  induction n with
  | zero => intro j σ h1 h2; omega
  | succ n ih =>
    intro j σ h1 h2
    have hl : qlen 19 = 27 := rfl
    unfold fX4_begin_7
    rcases Nat.lt_or_ge j 27 with h | h
    · rw [if_neg (by show ¬ nI 27 ≤ nI j; exact nI_ge h (by omega)), if_pos (show qin (nI j) (qlen (18 + 1)) = true from (qin_nI (by omega)).mpr h), nI_clamp (by omega), nI_1, ih (j + 1) _ (by omega) (by omega)]
      show some (0, qfill (qset σ 19 j 1) 19 (j + 1) 1) = _
      rw [qfill_step (by omega)]
    · rw [if_pos (by show nI 27 ≤ nI j; exact nI_le h (by omega)), qfill_end (by omega)]
theorem e_begin {σ : qSt} : fX4_begin 18 σ = some (0, qfill (qset σ 18 5 0) 19 0 1) := by
  unfold fX4_begin
  rw [← nI_0]
  exact e_begin_7 qfu 0 _ (Nat.zero_le _) (by unfold qfu; omega)
