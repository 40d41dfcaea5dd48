/-! ===== pure: the class's answers that only read ===== -/
theorem wI2 : wI 2 = -1 := rfl
theorem wI0 : wI 0 = 0 := rfl
theorem wI1 : wI 1 = 1 := rfl
theorem fnd_in {P : Nat → Bool} : ∀ n i j, fnd P n i = some j → i ≤ j ∧ j < i + n ∧ P j = true := by
  intro n
  induction n with
  | zero => intro i j h; cases h
  | succ n ih =>
    intro i j h
    unfold fnd at h
    split at h
    · cases h
      rename_i hp
      exact ⟨Nat.le_refl _, by omega, hp⟩
    · have := ih (i + 1) j h
      exact ⟨by omega, by omega, this.2.2⟩
theorem fnd_none {P : Nat → Bool} : ∀ n i, fnd P n i = none ↔ ∀ j, i ≤ j → j < i + n → P j = false := by
  intro n
  induction n with
  | zero => intro i; exact ⟨fun _ j h1 h2 => by omega, fun _ => rfl⟩
  | succ n ih =>
    intro i
    unfold fnd
    by_cases hp : P i = true
    · rw [if_pos hp]
      constructor
      · intro h; cases h
      · intro h
        have := h i (Nat.le_refl _) (by omega)
        rw [hp] at this
        cases this
    · rw [if_neg hp, ih (i + 1)]
      constructor
      · intro h j h1 h2
        by_cases hj : j = i
        · subst hj; simpa using hp
        · exact h j (by omega) (by omega)
      · intro h j h1 h2
        exact h j (by omega) (by omega)
theorem sA_le {w R : Nat} {fa : Nat → Nat} : ∀ n, (∀ i, i < n → fa i ≤ R) → sA w fa n ≤ n * R := by
  intro n
  induction n with
  | zero => intro _; simp [sA]
  | succ n ih =>
    intro h
    have h1 := ih (fun i hi => h i (by omega))
    have h2 := h n (by omega)
    unfold sA
    rw [Nat.succ_mul]
    split <;> omega
/-- the way of a place -/
def wy (o bk c : Nat) (ry fa : Nat → Nat) (r s : Nat) : Option Nat := (fnd (cmT 2 ry fa r s) c 0).map (fun i => (o + bk) * sA 2 fa i + o * s)
theorem m18 {a b : Nat} (ha : a ≤ 18) (hb : b ≤ 240) : a * b ≤ 4320 := Nat.mul_le_mul ha hb
theorem m9 {a b : Nat} (ha : a ≤ 9) (hb : b ≤ 8) : a * b ≤ 72 := Nat.mul_le_mul ha hb
theorem wy_le {o bk c m R : Nat} {ry fa : Nat → Nat} {r s v : Nat} (hc : c ≤ 30) (hB : PB c ry fa m R) (hR : R ≤ 8) (ho : o ≤ 9) (hb : bk ≤ 9) (hs : s ≤ 8) (h : wy o bk c ry fa r s = some v) : o * s ≤ v ∧ v ≤ 4392 := by
  unfold wy at h
  cases hf : fnd (cmT 2 ry fa r s) c 0 with
  | none => rw [hf] at h; cases h
  | some i =>
    rw [hf] at h
    cases h
    have h1 := (fnd_in c 0 i hf).2.1
    have h2 : sA 2 fa i ≤ i * 8 := sA_le i (fun j hj => by have := (hB j (by omega)).2.2; omega)
    have h3 := m18 (a := o + bk) (b := sA 2 fa i) (by omega) (by omega)
    have h4 := m9 ho hs
    show o * s ≤ (o + bk) * sA 2 fa i + o * s ∧ (o + bk) * sA 2 fa i + o * s ≤ 4392
    omega
section ECALLS
variable {σ : qSt} {m R o bk c : Nat} {sh : Nat → Nat → Nat} {ry fa : Nat → Nat}
theorem PB.b100 (hB : PB c ry fa m R) (hm : m ≤ 3) (hR : R ≤ 8) : ∀ i, i < c → ry i < 100 ∧ fa i < 100 := fun i hi => by have := hB i hi; omega
theorem e_whole {x : Nat} (hO : CO σ o bk) : fX3_wholeTrips 0 (nI x) σ = some (nI ((o + bk) * x), σ) := by
  unfold fX3_wholeTrips
  rw [hO.1, hO.2.1, nI_add, pk_mul]
theorem e_wayTo {r s : Nat} (hO : CO σ o bk) (hP : PL σ 3 c ry fa) (hB : PB c ry fa m R) (hm : m ≤ 3) (hR : R ≤ 8) (hr : r < 100) (hs : s < 100) : fX3_wayTo 0 (nI r) (nI s) σ = some (oI (wy o bk c ry fa r s) (-6), σ) := by
  have hb := hB.b100 hm hR
  have hc := hP.2.2.1
  unfold fX3_wayTo wy
  rw [← wI2, qb_ok (e_firstTo (k := 3) (by omega) hr hs hP hb)]
  cases hf : fnd (cmT 2 ry fa r s) c 0 with
  | none =>
    rw [if_neg (by decide)]
    rfl
  | some i =>
    have h1 := (fnd_in c 0 i hf).2.1
    rw [if_pos (by exact nI_pos' (by omega))]
    show qb (fX2_stepsAhead 3 (nI i) (wI 2) σ) _ = _
    rw [qb_ok (e_stepsAhead (by omega) hP (by omega)), qb_ok (e_whole hO), hO.1, pk_mul, nI_add]
    rfl
/-- places that no trip comes to: rays from r on, n of them -/
def cmS (R c : Nat) (ry fa : Nat → Nat) : Nat → Nat → Nat
  | 0, _ => 0
  | n + 1, r => (R - fR ry fa r c) + cmS R c ry fa n (r + 1)
theorem cmS_le : ∀ n r, cmS R c ry fa n r ≤ n * R := by
  intro n
  induction n with
  | zero => intro r; simp [cmS]
  | succ n ih => intro r; unfold cmS; have := ih (r + 1); rw [Nat.succ_mul]; omega
theorem e_countMissed_4 (hG : CG σ m R sh) (hP : PL σ 3 c ry fa) (hB : PB c ry fa m R) : ∀ n r a, r ≤ m → m - r < n → fX3_countMissed_4 0 n (nI a) (nI r) σ = some (nI (a + cmS R c ry fa (m - r) r), σ) := by
  intro n
  have g3 := hG.2.2.1
  have hb := hB.b100 (by omega) (by omega)
  have hc := hP.2.2.1
  induction n with
  | zero => intro r a h1 h2; omega
  | succ n ih =>
    intro r a h1 h2
    unfold fX3_countMissed_4
    rcases Nat.lt_or_ge r m with hr | hr
    · have hf : fR ry fa r c ≤ R := fR_le c (fun i hi => (hB i hi).2.2)
      rw [if_neg (by show ¬ σ 1 0 ≤ nI r; rw [hG.1]; exact nI_ge hr (by omega))]
      show qb (fX2_farthest 3 (nI r) (σ 3 2) σ) _ = _
      rw [hP.2.1, qb_ok (e_farthest (by omega) hP hb (Nat.le_refl _))]
      show fX3_countMissed_4 0 n (nI a + (σ 1 1 - nI _)) (nI r + 1) σ = _
      rw [hG.2.1, pk_sub hf, nI_add, nI_1, ih (r + 1) _ (by omega) (by omega), show m - r = (m - (r + 1)) + 1 by omega, cmS, Nat.add_assoc]
    · rw [if_pos (by show σ 1 0 ≤ nI r; rw [hG.1]; exact nI_le hr (by omega)), show m - r = 0 by omega]
      rfl
theorem e_countMissed (hG : CG σ m R sh) (hP : PL σ 3 c ry fa) (hB : PB c ry fa m R) : fX3_countMissed 0 σ = some (nI (cmS R c ry fa m 0), σ) := by
  have g3 := hG.2.2.1
  have := e_countMissed_4 hG hP hB qfu 0 0 (by omega) (by unfold qfu; omega)
  rw [Nat.zero_add] at this
  exact this
/-- what a trip comes to -/
theorem fR_ge {r : Nat} : ∀ n s, 1 ≤ s → (s ≤ fR ry fa r n ↔ ∃ i, i < n ∧ ry i = r ∧ s ≤ fa i) := by
  intro n
  induction n with
  | zero =>
    intro s hs
    constructor
    · intro h; simp [fR] at h; omega
    · rintro ⟨i, h, -⟩; omega
  | succ n ih =>
    intro s hs
    unfold fR
    by_cases hr : ry n = r
    · rw [if_pos hr]
      constructor
      · intro h
        rcases Nat.le_total (fR ry fa r n) (fa n) with q | q
        · rw [Nat.max_eq_right q] at h
          exact ⟨n, by omega, hr, h⟩
        · rw [Nat.max_eq_left q] at h
          obtain ⟨i, h1, h2⟩ := (ih s hs).mp h
          exact ⟨i, by omega, h2⟩
      · rintro ⟨i, h1, h2, h3⟩
        by_cases hi : i = n
        · subst hi
          exact Nat.le_trans h3 (Nat.le_max_right _ _)
        · exact Nat.le_trans ((ih s hs).mpr ⟨i, by omega, h2, h3⟩) (Nat.le_max_left _ _)
    · rw [if_neg hr, ih s hs]
      constructor
      · rintro ⟨i, h1, h2⟩; exact ⟨i, by omega, h2⟩
      · rintro ⟨i, h1, h2, h3⟩
        by_cases hi : i = n
        · subst hi; exact absurd h2 hr
        · exact ⟨i, by omega, h2, h3⟩
theorem fnd_far {r s : Nat} (hs : 1 ≤ s) : fnd (cmT 2 ry fa r s) c 0 = none ↔ fR ry fa r c < s := by
  rw [fnd_none]
  constructor
  · intro h
    rcases Nat.lt_or_ge (fR ry fa r c) s with q | q
    · exact q
    · obtain ⟨i, h1, h2, h3⟩ := (fR_ge c s hs).mp q
      have := h i (by omega) (by omega)
      simp [cmT, wF, h2, h3] at this
  · intro h j h1 h2
    cases hq : cmT 2 ry fa r s j with
    | false => rfl
    | true =>
      simp [cmT, wF] at hq
      have := (fR_ge (ry := ry) (fa := fa) (r := r) c s hs).mpr ⟨j, by omega, hq.1, hq.2⟩
      omega
theorem cmS_0 : ∀ n r0, cmS R c ry fa n r0 = 0 → ∀ r, r0 ≤ r → r < r0 + n → R ≤ fR ry fa r c := by
  intro n
  induction n with
  | zero => intro r0 _ r h1 h2; omega
  | succ n ih =>
    intro r0 h r h1 h2
    unfold cmS at h
    by_cases hr : r = r0
    · subst hr; omega
    · exact ih (r0 + 1) (by omega) r (by omega) (by omega)
/-- if none is missed, every place has a way -/
theorem wy_all (h : cmS R c ry fa m 0 = 0) {r s : Nat} (hr : r < m) (h1 : 1 ≤ s) (h2 : s ≤ R) : ∃ v, wy o bk c ry fa r s = some v := by
  have hf := cmS_0 m 0 h r (by omega) (by omega)
  unfold wy
  cases hq : fnd (cmT 2 ry fa r s) c 0 with
  | some i => exact ⟨_, rfl⟩
  | none => rw [fnd_far h1] at hq; omega
def wyN (o bk c : Nat) (ry fa : Nat → Nat) (r s : Nat) : Nat := (wy o bk c ry fa r s).getD 0
theorem wyN_some {r s v : Nat} (h : wy o bk c ry fa r s = some v) : oI (wy o bk c ry fa r s) (-6) = nI (wyN o bk c ry fa r s) := by
  unfold wyN; rw [h]; rfl
/-- the worst place so far: steps from s on, n of them; rays from r on, n of them -/
def wpI (W : Nat → Nat → Nat) (r : Nat) : Nat → Nat → Nat × Nat → Nat × Nat
  | 0, _, q => q
  | n + 1, s, q => wpI W r n (s + 1) (if W r s * q.2 ≤ W q.1 q.2 * s then q else (r, s))
def wpO (W : Nat → Nat → Nat) (R : Nat) : Nat → Nat → Nat × Nat → Nat × Nat
  | 0, _, q => q
  | n + 1, r, q => wpO W R n (r + 1) (wpI W r R 1 q)
def okq (m R : Nat) (q : Nat × Nat) : Prop := q.1 < m ∧ 1 ≤ q.2 ∧ q.2 ≤ R
theorem wpI_ok {W : Nat → Nat → Nat} {r : Nat} (hr : r < m) : ∀ n s q, 1 ≤ s → s + n ≤ R + 1 → okq m R q → okq m R (wpI W r n s q) := by
  intro n
  induction n with
  | zero => intro s q h1 h2 h; exact h
  | succ n ih =>
    intro s q h1 h2 h
    unfold wpI
    refine ih (s + 1) _ (by omega) (by omega) ?_
    split
    · exact h
    · exact ⟨hr, h1, by show s ≤ R; omega⟩
theorem wpO_ok {W : Nat → Nat → Nat} : ∀ n r q, r + n ≤ m → okq m R q → okq m R (wpO W R n r q) := by
  intro n
  induction n with
  | zero => intro r q h1 h; exact h
  | succ n ih =>
    intro r q h1 h
    unfold wpO
    exact ih (r + 1) _ (by omega) (wpI_ok (by omega) R 1 q (by omega) (by omega) h)
theorem mW {a b : Nat} (ha : a ≤ 4392) (hb : b ≤ 8) : a * b ≤ 35136 := Nat.mul_le_mul ha hb
section WORST
variable (hG : CG σ m R sh) (hO : CO σ o bk) (hP : PL σ 3 c ry fa) (hB : PB c ry fa m R) (h0 : cmS R c ry fa m 0 = 0)
theorem wyN_le {r s : Nat} (hG : CG σ m R sh) (hO : CO σ o bk) (hP : PL σ 3 c ry fa) (hB : PB c ry fa m R) (h0 : cmS R c ry fa m 0 = 0) (hr : r < m) (h1 : 1 ≤ s) (h2 : s ≤ R) : oI (wy o bk c ry fa r s) (-6) = nI (wyN o bk c ry fa r s) ∧ o * s ≤ wyN o bk c ry fa r s ∧ wyN o bk c ry fa r s ≤ 4392 := by
  have g3 := hG.2.2.1
  obtain ⟨v, hv⟩ := wy_all (o := o) (bk := bk) h0 hr h1 h2
  have hle := wy_le hP.2.2.1 hB (by omega) hO.2.2.2.1 hO.2.2.2.2.2 (by omega) hv
  refine ⟨wyN_some hv, ?_⟩
  unfold wyN
  rw [hv]
  exact hle
theorem e_worstPlace_29 (hG : CG σ m R sh) (hO : CO σ o bk) (hP : PL σ 3 c ry fa) (hB : PB c ry fa m R) (h0 : cmS R c ry fa m 0 = 0) {r : Nat} (hr : r < m) {f : Int32 → Int32 → Int32 → Int32 → qSt → qR} : ∀ n s q, okq m R q → 1 ≤ s → s ≤ R + 1 → R + 1 - s < n →
    fX3_worstPlace_29 0 f n (nI q.1) (nI q.2) (nI (wyN o bk c ry fa q.1 q.2)) (nI r) (nI s) σ = (fun q : Nat × Nat => f (nI q.1) (nI q.2) (nI (wyN o bk c ry fa q.1 q.2)) (nI (r + 1)) σ) (wpI (wyN o bk c ry fa) r (R + 1 - s) s q) := by
  intro n
  have g3 := hG.2.2.1
  induction n with
  | zero => intro s q _ h1 h2 h3; omega
  | succ n ih =>
    intro s q hq h1 h2 h3
    unfold fX3_worstPlace_29
    rcases Nat.lt_or_ge R s with hs | hs
    · rw [if_pos (by show σ 1 1 < nI s; rw [hG.2.1]; exact nI_lt hs (by omega)), show R + 1 - s = 0 by omega, nI_1]
      rfl
    · rw [if_neg (by show ¬ σ 1 1 < nI s; rw [hG.2.1]; exact nI_nlt hs (by omega)), qb_ok (e_wayTo hO hP hB (by omega) (by omega) (by omega) (by omega))]
      have w1 := wyN_le hG hO hP hB h0 hr h1 hs
      have w2 := wyN_le hG hO hP hB h0 hq.1 hq.2.1 hq.2.2
      have q2 := hq.2.2
      have z1 := mW (b := q.2) w1.2.2 (by omega)
      have z2 := mW (b := s) w2.2.2 (by omega)
      rw [w1.1, pk_mul, pk_mul, nI_1, show R + 1 - s = (R + 1 - (s + 1)) + 1 by omega, wpI]
      by_cases hle : wyN o bk c ry fa r s * q.2 ≤ wyN o bk c ry fa q.1 q.2 * s
      · rw [if_pos (nI_le hle (by omega)), if_pos hle]
        exact ih (s + 1) q hq (by omega) (by omega) (by omega)
      · rw [if_neg (nI_ge (by omega) (by omega)), if_neg hle]
        exact ih (s + 1) (r, s) ⟨hr, h1, hs⟩ (by omega) (by omega) (by omega)
theorem e_worstPlace_14 (hG : CG σ m R sh) (hO : CO σ o bk) (hP : PL σ 3 c ry fa) (hB : PB c ry fa m R) (h0 : cmS R c ry fa m 0 = 0) : ∀ n r q, okq m R q → r ≤ m → m - r < n →
    fX3_worstPlace_14 0 n (nI q.1) (nI q.2) (nI (wyN o bk c ry fa q.1 q.2)) (nI r) σ = some (nI (10 * (wpO (wyN o bk c ry fa) R (m - r) r q).1 + (wpO (wyN o bk c ry fa) R (m - r) r q).2), σ) := by
  intro n
  have g3 := hG.2.2.1
  induction n with
  | zero => intro r q _ h1 h2; omega
  | succ n ih =>
    intro r q hq h1 h2
    unfold fX3_worstPlace_14
    rcases Nat.lt_or_ge r m with hr | hr
    · rw [if_neg (by show ¬ σ 1 0 ≤ nI r; rw [hG.1]; exact nI_ge hr (by omega)), show (1 : Int32) = nI 1 from rfl, e_worstPlace_29 hG hO hP hB h0 hr qfu 1 q hq (by omega) (by omega) (by unfold qfu; omega)]
      show fX3_worstPlace_14 0 n _ _ _ _ σ = _
      rw [ih (r + 1) _ (wpI_ok hr _ 1 q (by omega) (by omega) hq) (by omega) (by omega), show m - r = (m - (r + 1)) + 1 by omega, wpO, show R + 1 - 1 = R by omega]
    · rw [if_pos (by show σ 1 0 ≤ nI r; rw [hG.1]; exact nI_le hr (by omega)), show m - r = 0 by omega, show (10 : Int32) = nI 10 from rfl, pk_mul, nI_add]
      rfl
/-- the worst place -/
def wpl (o bk c : Nat) (ry fa : Nat → Nat) (m R : Nat) : Nat × Nat := wpO (wyN o bk c ry fa) R m 0 (0, 1)
theorem wpl_ok (h : 2 ≤ m ∧ m ≤ 3 ∧ 1 ≤ R ∧ R ≤ 8) : okq m R (wpl o bk c ry fa m R) := wpO_ok m 0 (0, 1) (by omega) ⟨by show 0 < m; omega, Nat.le_refl _, by show 1 ≤ R; omega⟩
theorem e_worstPlace (hG : CG σ m R sh) (hO : CO σ o bk) (hP : PL σ 3 c ry fa) (hB : PB c ry fa m R) (h0 : cmS R c ry fa m 0 = 0) : fX3_worstPlace 0 σ = some (nI (10 * (wpl o bk c ry fa m R).1 + (wpl o bk c ry fa m R).2), σ) := by
  have g3 := hG.2.2.1
  unfold fX3_worstPlace
  rw [show (0 : Int32) = nI 0 from rfl, show (1 : Int32) = nI 1 from rfl, qb_ok (e_wayTo hO hP hB (by omega) (by omega) (by omega) (by omega)), (wyN_le hG hO hP hB h0 (r := 0) (s := 1) (by omega) (by omega) (by omega)).1]
  exact e_worstPlace_14 hG hO hP hB h0 qfu 0 (0, 1) ⟨by show 0 < m; omega, Nat.le_refl _, by show 1 ≤ R; omega⟩ (by omega) (by unfold qfu; omega)
end WORST
end ECALLS
