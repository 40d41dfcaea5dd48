/-! ===== pure: ground, fractions, ways ===== -/
/-- the class's ground -/
def CG (σ : qSt) (m R : Nat) (sh : Nat → Nat → Nat) : Prop := σ 1 0 = nI m ∧ σ 1 1 = nI R ∧ (2 ≤ m ∧ m ≤ 3 ∧ 1 ≤ R ∧ R ≤ 8) ∧ ∀ r s, r < m → 1 ≤ s → s ≤ R → σ 2 (9 * r + s) = nI (sh r s) ∧ sh r s ≤ 100
def CO (σ : qSt) (o bk : Nat) : Prop := σ 0 0 = nI o ∧ σ 0 1 = nI bk ∧ 1 ≤ o ∧ o ≤ 9 ∧ 1 ≤ bk ∧ bk ≤ 9
/-- the model's -/
def MG (σ : qSt) (m R : Nat) (sh : Nat → Nat → Nat) : Prop := σ 18 0 = nI m ∧ σ 18 1 = nI R ∧ (2 ≤ m ∧ m ≤ 3 ∧ 1 ≤ R ∧ R ≤ 8) ∧ ∀ r s, r < m → 1 ≤ s → s ≤ R → σ 19 (9 * r + s) = nI (sh r s) ∧ sh r s ≤ 100
def MO (σ : qSt) (o bk : Nat) : Prop := σ 18 2 = nI o ∧ σ 18 3 = nI bk ∧ 1 ≤ o ∧ o ≤ 9 ∧ 1 ≤ bk ∧ bk ≤ 9
def MP (σ : qSt) (c : Nat) (ry fa : Nat → Nat) : Prop := σ 18 5 = nI c ∧ c ≤ 30 ∧ ∀ i, i < c → σ 20 i = nI (ry i) ∧ σ 21 i = nI (fa i)
def plc (m R : Nat) (x y : Int32) : Prop := ∃ r s, r < m ∧ 1 ≤ s ∧ s ≤ R ∧ x = nI r ∧ y = nI s
theorem plc_or (m R : Nat) (hm : m < 100) (hR : R < 100) (x y : Int32) : plc m R x y ∨ (¬ plc m R x y ∧ (x < 0 ∨ nI m ≤ x ∨ y < 1 ∨ nI R < y)) := by
  rcases pk_ix x (n := m) (by omega) with h | h | ⟨r, hr, rfl⟩
  · refine Or.inr ⟨?_, Or.inl h⟩
    rintro ⟨r, s, h1, -, -, rfl, -⟩
    exact nI_pos (by omega) h
  · refine Or.inr ⟨?_, Or.inr (Or.inl h)⟩
    rintro ⟨r, s, h1, -, -, rfl, -⟩
    exact nI_ge h1 (by omega) h
  · rcases pk_ix y (n := R + 1) (by omega) with h | h | ⟨s, hs, rfl⟩
    · refine Or.inr ⟨?_, Or.inr (Or.inr (Or.inl ?_))⟩
      · rintro ⟨r', s, -, h1, h2, -, rfl⟩
        exact nI_pos (by omega) h
      · have a := Int32.lt_iff_toInt_lt.mp h
        apply Int32.lt_iff_toInt_lt.mpr
        have e0 : (0 : Int32).toInt = 0 := rfl
        have e1 : (1 : Int32).toInt = 1 := rfl
        omega
    · refine Or.inr ⟨?_, Or.inr (Or.inr (Or.inr ?_))⟩
      · rintro ⟨r', s, -, h1, h2, -, rfl⟩
        exact nI_ge (show s < R + 1 by omega) (by omega) h
      · have a := Int32.le_iff_toInt_le.mp h
        apply Int32.lt_iff_toInt_lt.mpr
        rw [nI_toInt (by omega)] at a ⊢
        omega
    · rcases Nat.lt_or_ge s 1 with h0 | h0
      · refine Or.inr ⟨?_, Or.inr (Or.inr (Or.inl (nI_lt (b := 1) h0 (by omega))))⟩
        rintro ⟨r', s', -, h1, h2, -, h3⟩
        rw [nI_eq (by omega) (by omega)] at h3
        omega
      · exact Or.inl ⟨r, s, hr, h0, by omega, rfl, rfl⟩
section ECLASS
variable {σ : qSt} {m R o bk c : Nat} {sh : Nat → Nat → Nat} {ry fa : Nat → Nat}
theorem e_has {r s : Nat} (h : CG σ m R sh) (hr : r < m) (h1 : 1 ≤ s) (h2 : s ≤ R) : fX0_has 1 (nI r) (nI s) σ = some (1, σ) := by
  obtain ⟨g1, g2, g3, -⟩ := h
  unfold fX0_has fX0_has_b
  rw [if_neg (nI_pos (by omega)), if_neg (by rw [g1]; exact nI_ge hr (by omega)), if_neg (by exact nI_nlt (b := 1) h1 (by omega)), if_neg (by rw [g2]; exact nI_nlt h2 (by omega)), qz_1]
theorem e_has_out {x y : Int32} (h : CG σ m R sh) (hx : x < 0 ∨ nI m ≤ x ∨ y < 1 ∨ nI R < y) : fX0_has 1 x y σ = some (0, σ) := by
  obtain ⟨g1, g2, g3, -⟩ := h
  unfold fX0_has fX0_has_b
  rw [g1, g2]
  by_cases a1 : x < 0
  · rw [if_pos a1, qz_0]
  · rw [if_neg a1]
    by_cases a2 : nI m ≤ x
    · rw [if_pos a2, qz_0]
    · rw [if_neg a2]
      by_cases a3 : y < 1
      · rw [if_pos a3, qz_0]
      · rw [if_neg a3, if_pos (((hx.resolve_left a1).resolve_left a2).resolve_left a3), qz_0]
theorem e_ix {r s : Nat} : nI r * 9 + nI s = nI (9 * r + s) := by
  rw [show (9 : Int32) = nI 9 from rfl, pk_mul, nI_add, Nat.mul_comm]
theorem e_ix2 {r s : Nat} : 9 * nI r + nI s = nI (9 * r + s) := by
  rw [show (9 : Int32) = nI 9 from rfl, pk_mul, nI_add]
theorem e_shareAt {r s : Nat} (h : CG σ m R sh) (hr : r < m) (h1 : 1 ≤ s) (h2 : s ≤ R) : fX0_shareAt 1 (nI r) (nI s) σ = some (nI (sh r s), σ) := by
  have g3 := h.2.2.1
  have hq : 9 * r + s < qlen (1 + 1) := by show 9 * r + s < 27; omega
  unfold fX0_shareAt
  rw [qb_ok (e_has h hr h1 h2), if_neg (by decide), e_ix, qb_ok (e_at hq)]
  show some (σ 2 (9 * r + s), σ) = _
  rw [(h.2.2.2 r s hr h1 h2).1]
theorem e_shareAt_out {x y : Int32} (h : CG σ m R sh) (hx : x < 0 ∨ nI m ≤ x ∨ y < 1 ∨ nI R < y) : fX0_shareAt 1 x y σ = some (0, σ) := by
  unfold fX0_shareAt
  rw [qb_ok (e_has_out h hx), if_pos rfl]
theorem e_setShare {r s : Nat} {v : Int32} (h : CG σ m R sh) (hr : r < m) (h1 : 1 ≤ s) (h2 : s ≤ R) : fX0_setShare 1 (nI r) (nI s) v σ = some (0, qset σ 2 (9 * r + s) v) := by
  have g3 := h.2.2.1
  have hq : 9 * r + s < qlen (1 + 1) := by show 9 * r + s < 27; omega
  unfold fX0_setShare
  rw [qb_ok (e_has h hr h1 h2), if_neg (by decide), e_ix, qb_ok (e_put hq)]
/-- sums over places: steps from s on, n of them; rays from r on, n of them -/
def sIn (f : Nat → Nat) : Nat → Nat → Nat
  | 0, _ => 0
  | n + 1, s => f s + sIn f n (s + 1)
def sOut (f : Nat → Nat → Nat) (R : Nat) : Nat → Nat → Nat
  | 0, _ => 0
  | n + 1, r => sIn (f r) R 1 + sOut f R n (r + 1)
theorem e_allShares_14 (h : CG σ m R sh) {r : Nat} (hr : r < m) {f : Int32 → Int32 → qSt → qR} : ∀ n s a, s ≤ R + 1 → 1 ≤ s → R + 1 - s < n → fX0_allShares_14 1 f n (nI a) (nI r) (nI s) σ = f (nI (a + sIn (sh r) (R + 1 - s) s)) (nI (r + 1)) σ := by
  intro n
  have g3 := h.2.2.1
  induction n with
  | zero => intro s a h1 h2 h3; omega
  | succ n ih =>
    intro s a h1 h2 h3
    unfold fX0_allShares_14
    rcases Nat.lt_or_ge R s with hs | hs
    · rw [if_pos (by rw [h.2.1]; exact nI_lt hs (by omega)), show R + 1 - s = 0 by omega, nI_1]
      rfl
    · rw [if_neg (by rw [h.2.1]; exact nI_nlt hs (by omega)), qb_ok (e_shareAt h hr h2 hs), nI_add, nI_1, ih (s + 1) _ (by omega) (by omega) (by omega), show R + 1 - s = (R + 1 - (s + 1)) + 1 by omega, sIn, Nat.add_assoc]
theorem e_allShares_4 (h : CG σ m R sh) : ∀ n r a, r ≤ m → m - r < n → fX0_allShares_4 1 n (nI a) (nI r) σ = some (nI (a + sOut sh R (m - r) r), σ) := by
  intro n
  have g3 := h.2.2.1
  induction n with
  | zero => intro r a h1 h2; omega
  | succ n ih =>
    intro r a h1 h2
    unfold fX0_allShares_4
    rcases Nat.lt_or_ge r m with hr | hr
    · rw [if_neg (by rw [h.1]; exact nI_ge hr (by omega)), show (1 : Int32) = nI 1 from rfl, e_allShares_14 h hr qfu 1 a (by omega) (by omega) (by unfold qfu; omega)]
      show fX0_allShares_4 1 n _ _ σ = _
      rw [ih (r + 1) _ (by omega) (by omega), show m - r = (m - (r + 1)) + 1 by omega, sOut, show R + 1 - 1 = R by omega, Nat.add_assoc]
    · rw [if_pos (by rw [h.1]; exact nI_le hr (by omega)), show m - r = 0 by omega]
      rfl
theorem e_allShares (h : CG σ m R sh) : fX0_allShares 1 σ = some (nI (sOut sh R m 0), σ) := by
  have g3 := h.2.2.1
  have := e_allShares_4 h qfu 0 0 (by omega) (by unfold qfu; omega)
  rw [Nat.zero_add] at this
  exact this
theorem e_sharedSteps_14 (h : CG σ m R sh) {r : Nat} (hr : r < m) {f : Int32 → Int32 → qSt → qR} : ∀ n s a, s ≤ R + 1 → 1 ≤ s → R + 1 - s < n → fX0_sharedSteps_14 1 f n (nI a) (nI r) (nI s) σ = f (nI (a + sIn (fun s => sh r s * s) (R + 1 - s) s)) (nI (r + 1)) σ := by
  intro n
  have g3 := h.2.2.1
  induction n with
  | zero => intro s a h1 h2 h3; omega
  | succ n ih =>
    intro s a h1 h2 h3
    unfold fX0_sharedSteps_14
    rcases Nat.lt_or_ge R s with hs | hs
    · rw [if_pos (by rw [h.2.1]; exact nI_lt hs (by omega)), show R + 1 - s = 0 by omega, nI_1]
      rfl
    · rw [if_neg (by rw [h.2.1]; exact nI_nlt hs (by omega)), qb_ok (e_shareAt h hr h2 hs), pk_mul, nI_add, nI_1, ih (s + 1) _ (by omega) (by omega) (by omega), show R + 1 - s = (R + 1 - (s + 1)) + 1 by omega, sIn, Nat.add_assoc]
theorem e_sharedSteps_4 (h : CG σ m R sh) : ∀ n r a, r ≤ m → m - r < n → fX0_sharedSteps_4 1 n (nI a) (nI r) σ = some (nI (a + sOut (fun r s => sh r s * s) R (m - r) r), σ) := by
  intro n
  have g3 := h.2.2.1
  induction n with
  | zero => intro r a h1 h2; omega
  | succ n ih =>
    intro r a h1 h2
    unfold fX0_sharedSteps_4
    rcases Nat.lt_or_ge r m with hr | hr
    · rw [if_neg (by rw [h.1]; exact nI_ge hr (by omega)), show (1 : Int32) = nI 1 from rfl, e_sharedSteps_14 h hr qfu 1 a (by omega) (by omega) (by unfold qfu; omega)]
      show fX0_sharedSteps_4 1 n _ _ σ = _
      rw [ih (r + 1) _ (by omega) (by omega), show m - r = (m - (r + 1)) + 1 by omega, sOut, show R + 1 - 1 = R by omega, Nat.add_assoc]
    · rw [if_pos (by rw [h.1]; exact nI_le hr (by omega)), show m - r = 0 by omega]
      rfl
theorem e_sharedSteps (h : CG σ m R sh) : fX0_sharedSteps 1 σ = some (nI (sOut (fun r s => sh r s * s) R m 0), σ) := by
  have g3 := h.2.2.1
  have := e_sharedSteps_4 h qfu 0 0 (by omega) (by unfold qfu; omega)
  rw [Nat.zero_add] at this
  exact this
end ECLASS
/-! fractions -/
theorem e_gcdC : ∀ k a d n j (σ : qSt), d < 2 ^ k → a < 2 ^ 31 → k ≤ 31 → 2 * k + 1 < n → j + 2 * k + 1 ≤ 64 → fX3_commonDivisor_7 n (nI a) (nI d) (nI j) σ = some (nI (Nat.gcd a d), σ) := by
  intro k
  induction k with
  | zero =>
    intro a d n j σ hd ha hk hn hj
    have h0 : d = 0 := by omega
    subst h0
    match n, hn with
    | n + 1, _ =>
      unfold fX3_commonDivisor_7
      rw [if_neg (by show ¬ nI 64 ≤ nI j; exact nI_ge (by omega) (by omega)), if_pos (by show nI 0 ≤ nI 0; exact nI_le (by omega) (by omega)), Nat.gcd_zero_right]
  | succ k ih =>
    intro a d n j σ hd ha hk hn hj
    have hp : 2 ^ (k + 1) ≤ 2 ^ 31 := Nat.pow_le_pow_right (by omega) hk
    have hp2 : 2 ^ (k + 1) = 2 * 2 ^ k := by rw [Nat.pow_succ]; omega
    match n, hn with
    | n + 1, hn =>
      unfold fX3_commonDivisor_7
      rw [if_neg (by show ¬ nI 64 ≤ nI j; exact nI_ge (by omega) (by omega))]
      rcases Nat.eq_zero_or_pos d with h0 | h0
      · subst h0
        rw [if_pos (by show nI 0 ≤ nI 0; exact nI_le (by omega) (by omega)), Nat.gcd_zero_right]
      · rw [if_neg (by show ¬ nI d ≤ nI 0; exact nI_ge h0 (by omega)), if_neg (nI_ne0 h0 (by omega)), pk_rem ha h0 (by omega), nI_1]
        have hr := Nat.mod_lt a h0
        match n, hn with
        | n + 1, hn =>
          unfold fX3_commonDivisor_7
          rw [if_neg (by show ¬ nI 64 ≤ nI (j + 1); exact nI_ge (by omega) (by omega))]
          have hg : Nat.gcd a d = Nat.gcd d (a % d) := by rw [Nat.gcd_comm a d, Nat.gcd_rec d a, Nat.gcd_comm]
          rcases Nat.eq_zero_or_pos (a % d) with h1 | h1
          · rw [h1, if_pos (by show nI 0 ≤ nI 0; exact nI_le (by omega) (by omega)), hg, h1, Nat.gcd_zero_right]
          · rw [if_neg (by show ¬ nI (a % d) ≤ nI 0; exact nI_ge h1 (by omega)), if_neg (nI_ne0 h1 (by omega)), pk_rem (by omega) h1 (by omega), nI_1]
            have hg2 : Nat.gcd d (a % d) = Nat.gcd (a % d) (d % (a % d)) := by rw [Nat.gcd_comm d (a % d), Nat.gcd_rec (a % d) d, Nat.gcd_comm]
            have hlt : d % (a % d) < 2 ^ k := by
              have q1 := Nat.mod_lt d h1
              have q2 := Nat.div_add_mod d (a % d)
              have q3 : 1 ≤ d / (a % d) := (Nat.le_div_iff_mul_le h1).mpr (by omega)
              have q4 : (a % d) * 1 ≤ (a % d) * (d / (a % d)) := Nat.mul_le_mul_left _ q3
              omega
            rw [hg, hg2]
            exact ih (a % d) (d % (a % d)) n (j + 1 + 1) σ hlt (by omega) (by omega) (by omega) (by omega)
theorem e_commonDivisor {a d : Nat} {σ : qSt} (ha : a < 2 ^ 31) (hd : d < 2 ^ 31) : fX3_commonDivisor (nI a) (nI d) σ = some (nI (Nat.gcd a d), σ) :=
  e_gcdC 31 a d qfu 0 σ hd ha (by omega) (by unfold qfu; omega) (by omega)
theorem e_gcdM : ∀ k a d n (σ : qSt), d < 2 ^ k → a < 2 ^ 31 → k ≤ 31 → 2 * k + 1 < n → fX4_common_4 n (nI a) (nI d) σ = some (nI (Nat.gcd a d), σ) := by
  intro k
  induction k with
  | zero =>
    intro a d n σ hd ha hk hn
    have h0 : d = 0 := by omega
    subst h0
    match n, hn with
    | n + 1, _ =>
      unfold fX4_common_4
      rw [if_pos (show nI 0 = 0 from rfl), Nat.gcd_zero_right]
  | succ k ih =>
    intro a d n σ hd ha hk hn
    have hp : 2 ^ (k + 1) ≤ 2 ^ 31 := Nat.pow_le_pow_right (by omega) hk
    have hp2 : 2 ^ (k + 1) = 2 * 2 ^ k := by rw [Nat.pow_succ]; omega
    match n, hn with
    | n + 1, hn =>
      unfold fX4_common_4
      rcases Nat.eq_zero_or_pos d with h0 | h0
      · subst h0
        rw [if_pos (show nI 0 = 0 from rfl), Nat.gcd_zero_right]
      · rw [if_neg (nI_ne0 h0 (by omega)), if_neg (nI_ne0 h0 (by omega)), pk_rem ha h0 (by omega)]
        have hr := Nat.mod_lt a h0
        match n, hn with
        | n + 1, hn =>
          unfold fX4_common_4
          have hg : Nat.gcd a d = Nat.gcd d (a % d) := by rw [Nat.gcd_comm a d, Nat.gcd_rec d a, Nat.gcd_comm]
          rcases Nat.eq_zero_or_pos (a % d) with h1 | h1
          · rw [h1, if_pos (show nI 0 = 0 from rfl), hg, h1, Nat.gcd_zero_right]
          · rw [if_neg (nI_ne0 h1 (by omega)), if_neg (nI_ne0 h1 (by omega)), pk_rem (by omega) h1 (by omega)]
            have hg2 : Nat.gcd d (a % d) = Nat.gcd (a % d) (d % (a % d)) := by rw [Nat.gcd_comm d (a % d), Nat.gcd_rec (a % d) d, Nat.gcd_comm]
            have hlt : d % (a % d) < 2 ^ k := by
              have q1 := Nat.mod_lt d h1
              have q2 := Nat.div_add_mod d (a % d)
              have q3 : 1 ≤ d / (a % d) := (Nat.le_div_iff_mul_le h1).mpr (by omega)
              have q4 : (a % d) * 1 ≤ (a % d) * (d / (a % d)) := Nat.mul_le_mul_left _ q3
              omega
            rw [hg, hg2]
            exact ih (a % d) (d % (a % d)) n σ hlt (by omega) (by omega) (by omega)
theorem e_common {a d : Nat} {σ : qSt} (ha : a < 2 ^ 31) (hd : d < 2 ^ 31) : fX4_common (nI a) (nI d) σ = some (nI (Nat.gcd a d), σ) :=
  e_gcdM 31 a d qfu σ hd ha (by omega) (by unfold qfu; omega)
/-- a fraction's upper (w = 0) or lower number in lowest terms -/
def lowv (a d : Nat) (w : Int32) : Nat := if w = 0 then a / Nat.gcd a d else d / Nat.gcd a d
theorem e_lowest {a d : Nat} {w : Int32} {σ : qSt} (ha : a < 2 ^ 31) (hd : d < 2 ^ 31) (h0 : 0 < d) : fX3_lowest (nI a) (nI d) w σ = some (nI (lowv a d w), σ) := by
  have hg : 0 < Nat.gcd a d := Nat.gcd_pos_of_pos_right _ h0
  have hl : Nat.gcd a d ≤ d := Nat.gcd_le_right _ h0
  unfold fX3_lowest lowv
  rw [qb_ok (e_commonDivisor ha hd), if_pos (by show nI 1 ≤ nI (Nat.gcd a d); exact nI_le hg (by omega)), if_neg (nI_ne0 hg (by omega)), if_neg (nI_ne0 hg (by omega)), pk_div ha hg (by omega), pk_div hd hg (by omega)]
  by_cases hw : w = 0
  · rw [if_pos hw, if_pos hw]
  · rw [if_neg hw, if_neg hw]
theorem e_term {a d : Nat} {w : Int32} {σ : qSt} (ha : a < 2 ^ 31) (hd : d < 2 ^ 31) (h0 : 0 < d) : fX4_term (nI a) (nI d) w σ = some (nI (lowv a d w), σ) := by
  have hg : 0 < Nat.gcd a d := Nat.gcd_pos_of_pos_right _ h0
  have hl : Nat.gcd a d ≤ d := Nat.gcd_le_right _ h0
  unfold fX4_term lowv fX4_term_9
  rw [qb_ok (e_common ha hd), qb_ok (e_common ha hd), if_neg (nI_ne0 hg (by omega)), if_neg (nI_ne0 hg (by omega)), pk_div ha hg (by omega), pk_div hd hg (by omega)]
  by_cases hw : w = 0
  · rw [if_pos hw, if_pos hw]
  · rw [if_neg hw, if_neg hw]
