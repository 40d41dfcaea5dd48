/-! ===== pure: rows, plans ===== -/
theorem q_l (n : Nat) : (OfNat.ofNat n : Int32) = nI n := rfl
theorem q_l0 : (0 : Int32) = nI 0 := rfl
theorem q_l1 : (1 : Int32) = nI 1 := rfl
theorem e_at {k j : Nat} {σ : qSt} (hj : j < qlen k) : fX3_at k (nI j) σ = some (σ k j, σ) := by
  have hl := qlen_le k
  unfold fX3_at
  rw [if_neg (nI_pos (by omega)), if_neg (by show ¬ nI (qlen k) ≤ nI j; exact nI_ge hj (by omega)), if_pos ((qin_nI (by omega)).mpr hj), nI_clamp (by omega)]
theorem e_at_out {k j : Nat} {σ : qSt} (hj : qlen k ≤ j) (h : j < 2 ^ 31) : fX3_at k (nI j) σ = some (0, σ) := by
  unfold fX3_at
  rw [if_neg (nI_pos (by omega)), if_pos (by show nI (qlen k) ≤ nI j; exact nI_le hj h)]
theorem e_put {k j : Nat} {v : Int32} {σ : qSt} (hj : j < qlen k) : fX3_put k (nI j) v σ = some (0, qset σ k j v) := by
  have hl := qlen_le k
  unfold fX3_put
  rw [if_neg (nI_pos (by omega)), if_neg (by show ¬ nI (qlen k) ≤ nI j; exact nI_ge hj (by omega)), if_pos ((qin_nI (by omega)).mpr hj), nI_clamp (by omega)]
theorem qz_1 {s : qSt} : qz (some (1, s)) = some (1, s) := rfl
theorem qz_0 {s : qSt} : qz (some (0, s)) = some (0, s) := rfl
/-- a plan in the cells k, k + 1, k + 2 -/
def PL (σ : qSt) (k c : Nat) (ry fa : Nat → Nat) : Prop := (qlen (k + 1) = 30 ∧ qlen (k + 2) = 30) ∧ σ k 2 = nI c ∧ c ≤ 30 ∧ ∀ i, i < c → σ (k + 1) i = nI (ry i) ∧ σ (k + 2) i = nI (fa i)
/-- its trips are trips -/
def PB (c : Nat) (ry fa : Nat → Nat) (m R : Nat) : Prop := ∀ i, i < c → ry i < m ∧ 1 ≤ fa i ∧ fa i ≤ R
section EPLAN
variable {σ : qSt} {k c : Nat} {ry fa : Nat → Nat}
theorem e_phas {i : Nat} (h : PL σ k c ry fa) (hi : i < c) : fX2_has k (nI i) σ = some (1, σ) := by
  obtain ⟨-, h2, h3, -⟩ := h
  unfold fX2_has fX2_has_b
  rw [if_neg (nI_pos (by omega)), if_neg (by rw [h2]; exact nI_ge hi (by omega)), qz_1]
theorem e_phas_out {x : Int32} (h : PL σ k c ry fa) (hx : x < 0 ∨ nI c ≤ x) : fX2_has k x σ = some (0, σ) := by
  obtain ⟨-, h2, h3, -⟩ := h
  unfold fX2_has fX2_has_b
  by_cases h0 : x < 0
  · rw [if_pos h0, qz_0]
  · rw [if_neg h0, if_pos (by rw [h2]; exact hx.resolve_left h0), qz_0]
theorem e_rayOf {i : Nat} (h : PL σ k c ry fa) (hi : i < c) : fX2_rayOf k (nI i) σ = some (nI (ry i), σ) := by
  have h1 := h.1.1
  have h3 := h.2.2.1
  unfold fX2_rayOf
  rw [qb_ok (e_phas h hi), if_neg (by decide), qb_ok (e_at (by omega)), (h.2.2.2 i hi).1]
theorem e_stepsOf {i : Nat} (h : PL σ k c ry fa) (hi : i < c) : fX2_stepsOf k (nI i) σ = some (nI (fa i), σ) := by
  have h1 := h.1.2
  have h3 := h.2.2.1
  unfold fX2_stepsOf
  rw [qb_ok (e_phas h hi), if_neg (by decide), qb_ok (e_at (by omega)), (h.2.2.2 i hi).2]
/-- who: 0, 1, or 2 for one alone -/
def wI (w : Nat) : Int32 := if w = 2 then -1 else nI w
def wF (w i : Nat) : Bool := decide (w = 2 ∨ i % 2 = w)
theorem e_isFor {w i : Nat} (hw : w ≤ 2) (hi : i < 2 ^ 31) : fX2_isFor (wI w) (nI i) σ = some (if wF w i then 1 else 0, σ) := by
  unfold fX2_isFor fX2_isFor_b wI wF
  have hr : nI i - nI i / 2 * 2 = nI (i % 2) := pk_rem (d := 2) hi (by omega) (by omega)
  rw [hr]
  by_cases h2 : w = 2
  · simp [h2, qz_1]
  · have h01 : w = 0 ∨ w = 1 := by omega
    have hi2 : i % 2 = 0 ∨ i % 2 = 1 := by omega
    rcases h01 with rfl | rfl <;> rcases hi2 with e | e <;> rw [e] <;> rfl
/-- the sum of steps of w's trips ahead of n -/
def sA (w : Nat) (fa : Nat → Nat) : Nat → Nat
  | 0 => 0
  | n + 1 => sA w fa n + (if wF w n then fa n else 0)
theorem e_stepsAhead_5 {w a : Nat} (hw : w ≤ 2) (h : PL σ k c ry fa) (ha : a ≤ c) : ∀ n i, i ≤ a → a - i < n → fX2_stepsAhead_5 k n (nI a) (wI w) (nI (sA w fa i)) (nI i) σ = some (nI (sA w fa a), σ) := by
  intro n
  have h3 := h.2.2.1
  induction n with
  | zero => intro i h1 h2; omega
  | succ n ih =>
    intro i h1 h2
    unfold fX2_stepsAhead_5
    rcases Nat.lt_or_ge i a with hi | hi
    · rw [if_neg (nI_ge hi (by omega)), if_neg (by rw [h.2.1]; exact nI_ge (by omega) (by omega)), qb_ok (e_isFor hw (by omega))]
      by_cases hf : wF w i = true
      · rw [if_pos hf, if_neg (by decide), qb_ok (e_stepsOf h (by omega)), nI_add, nI_1]
        have := ih (i + 1) (by omega) (by omega)
        rw [sA, if_pos hf] at this
        exact this
      · rw [if_neg hf, if_pos rfl, nI_1]
        have := ih (i + 1) (by omega) (by omega)
        rw [sA, if_neg hf] at this
        exact this
    · rw [if_pos (nI_le hi (by omega))]
      have : i = a := by omega
      rw [this]
theorem e_stepsAhead {w a : Nat} (hw : w ≤ 2) (h : PL σ k c ry fa) (ha : a ≤ c) : fX2_stepsAhead k (nI a) (wI w) σ = some (nI (sA w fa a), σ) := by
  have h3 := h.2.2.1
  exact e_stepsAhead_5 hw h ha qfu 0 (Nat.zero_le _) (by unfold qfu; omega)
/-- the first i from i on, n of them, with P -/
def fnd (P : Nat → Bool) : Nat → Nat → Option Nat
  | 0, _ => none
  | n + 1, i => if P i then some i else fnd P n (i + 1)
def oI (o : Option Nat) (d : Int32) : Int32 := match o with
  | none => d
  | some i => nI i
def cmT (w : Nat) (ry fa : Nat → Nat) (r s : Nat) (i : Nat) : Bool := wF w i && decide (ry i = r) && decide (s ≤ fa i)
theorem e_firstTo_3 {w r s : Nat} (hw : w ≤ 2) (hr : r < 100) (hs : s < 100) (h : PL σ k c ry fa) (hb : ∀ i, i < c → ry i < 100 ∧ fa i < 100) : ∀ n i, i ≤ c → c - i < n → fX2_firstTo_3 k n (nI r) (nI s) (wI w) (nI i) σ = some (oI (fnd (cmT w ry fa r s) (c - i) i) (-1), σ) := by
  intro n
  have h3 := h.2.2.1
  induction n with
  | zero => intro i h1 h2; omega
  | succ n ih =>
    intro i h1 h2
    unfold fX2_firstTo_3
    rcases Nat.lt_or_ge i c with hi | hi
    · have hbi := hb i hi
      have ih' := ih (i + 1) (by omega) (by omega)
      rw [show c - i = (c - (i + 1)) + 1 by omega, fnd]
      rw [if_neg (by rw [h.2.1]; exact nI_ge hi (by omega)), qb_ok (e_isFor hw (by omega))]
      by_cases hf : wF w i = true
      · rw [if_pos hf, if_neg (by decide), qb_ok (e_rayOf h hi)]
        by_cases hr2 : ry i = r
        · rw [if_pos (by rw [hr2]), qb_ok (e_stepsOf h hi)]
          by_cases hs2 : s ≤ fa i
          · rw [if_neg (nI_nlt hs2 (by omega)), if_pos (by simp [cmT, hf, hr2, hs2])]
            rfl
          · rw [if_pos (nI_lt (by omega) (by omega)), if_neg (by simp [cmT, hs2]), nI_1]
            exact ih'
        · rw [if_neg (by rw [nI_eq (by omega) (by omega)]; exact hr2), if_neg (by simp [cmT, hr2]), nI_1]
          exact ih'
      · rw [if_neg hf, if_pos rfl, if_neg (by simp [cmT, hf]), nI_1]
        exact ih'
    · rw [if_pos (by rw [h.2.1]; exact nI_le hi (by omega)), show c - i = 0 by omega]
      rfl
theorem e_firstTo {w r s : Nat} (hw : w ≤ 2) (hr : r < 100) (hs : s < 100) (h : PL σ k c ry fa) (hb : ∀ i, i < c → ry i < 100 ∧ fa i < 100) : fX2_firstTo k (nI r) (nI s) (wI w) σ = some (oI (fnd (cmT w ry fa r s) c 0) (-1), σ) := by
  have h3 := h.2.2.1
  exact e_firstTo_3 hw hr hs h hb qfu 0 (Nat.zero_le _) (by unfold qfu; omega)
/-- how far ray r has been gone by the trips ahead of n -/
def fR (ry fa : Nat → Nat) (r : Nat) : Nat → Nat
  | 0 => 0
  | n + 1 => if ry n = r then max (fR ry fa r n) (fa n) else fR ry fa r n
theorem fR_le {r R : Nat} : ∀ n, (∀ i, i < n → fa i ≤ R) → fR ry fa r n ≤ R := by
  intro n
  induction n with
  | zero => intro _; exact Nat.zero_le _
  | succ n ih =>
    intro h
    have h1 := ih (fun i hi => h i (by omega))
    have h2 := h n (by omega)
    unfold fR
    split
    · omega
    · exact h1
theorem e_farthest_5 {r a : Nat} (hr : r < 100) (h : PL σ k c ry fa) (hb : ∀ i, i < c → ry i < 100 ∧ fa i < 100) (ha : a ≤ c) : ∀ n i, i ≤ a → a - i < n → fX2_farthest_5 k n (nI r) (nI a) (nI (fR ry fa r i)) (nI i) σ = some (nI (fR ry fa r a), σ) := by
  intro n
  have h3 := h.2.2.1
  induction n with
  | zero => intro i h1 h2; omega
  | succ n ih =>
    intro i h1 h2
    unfold fX2_farthest_5
    rcases Nat.lt_or_ge i a with hi | hi
    · have hbi := hb i (by omega)
      have hf : fR ry fa r i ≤ 100 := fR_le i (fun j hj => by have := (hb j (by omega)).2; omega)
      have ih' := ih (i + 1) (by omega) (by omega)
      rw [if_neg (nI_ge hi (by omega)), if_neg (by rw [h.2.1]; exact nI_ge (by omega) (by omega)), qb_ok (e_rayOf h (by omega))]
      by_cases hr2 : ry i = r
      · rw [if_pos (by rw [hr2]), qb_ok (e_stepsOf h (by omega)), nI_1]
        rw [fR, if_pos hr2] at ih'
        have : (if nI (fR ry fa r i) < nI (fa i) then nI (fa i) else nI (fR ry fa r i)) = nI (max (fR ry fa r i) (fa i)) := by
          rcases Nat.lt_or_ge (fR ry fa r i) (fa i) with q | q
          · rw [if_pos (nI_lt q (by omega)), Nat.max_eq_right (by omega)]
          · rw [if_neg (nI_nlt q (by omega)), Nat.max_eq_left q]
        rw [this]
        exact ih'
      · rw [if_neg (by rw [nI_eq (by omega) (by omega)]; exact hr2), nI_1]
        rw [fR, if_neg hr2] at ih'
        exact ih'
    · rw [if_pos (nI_le hi (by omega))]
      have : i = a := by omega
      rw [this]
theorem e_farthest {r a : Nat} (hr : r < 100) (h : PL σ k c ry fa) (hb : ∀ i, i < c → ry i < 100 ∧ fa i < 100) (ha : a ≤ c) : fX2_farthest k (nI r) (nI a) σ = some (nI (fR ry fa r a), σ) := by
  have h3 := h.2.2.1
  exact e_farthest_5 hr h hb ha qfu 0 (Nat.zero_le _) (by unfold qfu; omega)
theorem e_add {r s : Int32} (h : PL σ k c ry fa) (hc : c < 30) : fX2_add k r s σ = some (1, qset (qset (qset σ (k + 1) c r) (k + 2) c s) k 2 (nI (c + 1))) := by
  have h1 := h.1.1
  have h2 := h.1.2
  unfold fX2_add fX2_add_b
  have e1 : qset σ (k + 1) c r k 2 = nI c := by rw [qset_ne (by omega)]; exact h.2.1
  have e2 : qset (qset σ (k + 1) c r) (k + 2) c s k 2 = nI c := by rw [qset_ne (by omega)]; exact e1
  rw [if_pos (by rw [h.2.1]; exact nI_lt (b := 30) hc (by omega)), h.2.1, qb_ok (e_put (by omega)), e1, qb_ok (e_put (by omega)), e2, nI_1, qz_1]
theorem e_add_full {r s : Int32} (h : PL σ k c ry fa) (hc : c = 30) : fX2_add k r s σ = some (0, σ) := by
  unfold fX2_add fX2_add_b
  rw [if_neg (by rw [h.2.1]; exact nI_nlt (b := 30) (by omega) (by omega)), qz_0]
end EPLAN
