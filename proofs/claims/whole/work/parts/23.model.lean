/-! ===== pure: the model's answers that only read ===== -/
theorem e_in {x a c : Int32} {σ : qSt} (h1 : ¬ x < a) (h2 : ¬ c < x) : fX4_in x a c σ = some (1, σ) := by
  unfold fX4_in fX4_in_b
  rw [if_neg h1, if_neg h2, qz_1]
theorem e_in_out {x a c : Int32} {σ : qSt} (h : x < a ∨ c < x) : fX4_in x a c σ = some (0, σ) := by
  unfold fX4_in fX4_in_b
  by_cases h1 : x < a
  · rw [if_pos h1, qz_0]
  · rw [if_neg h1, if_pos (h.resolve_left h1), qz_0]
/-- one less: an index's bound -/
theorem n_pred {x : Int32} {n : Nat} (hn : n < 2 ^ 31) (h1 : 1 ≤ n) : nI n - 1 < x ↔ nI n ≤ x := by
  rw [show nI n - 1 = nI (n - 1) from pk_sub (b := 1) h1, Int32.lt_iff_toInt_lt, Int32.le_iff_toInt_le, nI_toInt (by omega), nI_toInt hn]
  omega
theorem n_pred0 {x : Int32} : nI 0 - 1 < x ↔ ¬ x < 0 := by
  rw [show nI 0 - 1 = -1 from rfl, Int32.lt_iff_toInt_lt, Int32.lt_iff_toInt_lt, show (-1 : Int32).toInt = -1 from rfl, show (0 : Int32).toInt = 0 from rfl]
  omega
/-- x in 0 .. n - 1, or not -/
theorem e_inN {x : Int32} {n : Nat} {σ : qSt} (hn : n < 2 ^ 31) (h : x < 0 ∨ nI n ≤ x) : fX4_in x 0 (nI n - 1) σ = some (0, σ) := by
  apply e_in_out
  rcases Nat.eq_zero_or_pos n with h0 | h0
  · subst h0
    rw [n_pred0]
    by_cases h1 : x < 0
    · exact Or.inl h1
    · exact Or.inr h1
  · rw [n_pred hn h0]
    exact h
theorem e_inI {i n : Nat} {σ : qSt} (hn : n < 2 ^ 31) (h : i < n) : fX4_in (nI i) 0 (nI n - 1) σ = some (1, σ) := by
  apply e_in
  · exact nI_pos (by omega)
  · rw [n_pred hn (by omega)]
    exact nI_ge h hn
section EMODEL
variable {σ : qSt} {m R o bk c : Nat} {sh : Nat → Nat → Nat} {ry fa : Nat → Nat}
theorem e_isPlace {r s : Nat} (h : MG σ m R sh) (hr : r < m) (h1 : 1 ≤ s) (h2 : s ≤ R) : fX4_isPlace 18 (nI r) (nI s) σ = some (1, σ) := by
  obtain ⟨g1, g2, g3, -⟩ := h
  unfold fX4_isPlace fX4_isPlace_b
  rw [g1, qb_ok (e_inI (by omega) hr), if_neg (by decide), g2, qb_ok (e_in (by exact nI_nlt (b := 1) h1 (by omega)) (nI_nlt h2 (by omega))), if_neg (by decide), qz_1]
theorem e_isPlace_out {x y : Int32} (h : MG σ m R sh) (hx : x < 0 ∨ nI m ≤ x ∨ y < 1 ∨ nI R < y) : fX4_isPlace 18 x y σ = some (0, σ) := by
  obtain ⟨g1, g2, g3, -⟩ := h
  unfold fX4_isPlace fX4_isPlace_b
  rw [g1]
  by_cases a : x < 0 ∨ nI m ≤ x
  · rw [qb_ok (e_inN (by omega) a), if_pos rfl, qz_0]
  · have hm : fX4_in x 0 (nI m - 1) σ = some (1, σ) := e_in (fun q => a (Or.inl q)) (by rw [n_pred (by omega) (by omega)]; exact fun q => a (Or.inr q))
    have hy : y < 1 ∨ nI R < y := (hx.resolve_left (fun q => a (Or.inl q))).resolve_left (fun q => a (Or.inr q))
    rw [qb_ok hm, if_neg (by decide), g2, qb_ok (e_in_out hy), if_pos rfl, qz_0]
theorem qlen_20 : qlen 20 = 30 := rfl
theorem qlen_21 : qlen 21 = 30 := rfl
theorem qlen_19 : qlen 19 = 27 := rfl
theorem e_costAhead_4 {a : Nat} (hO : MO σ o bk) (hP : MP σ c ry fa) (ha : a ≤ c) : ∀ n i, i ≤ a → a - i < n → fX4_costAhead_4 18 n (nI a) (nI ((o + bk) * sA 2 fa i)) (nI i) σ = some (nI ((o + bk) * sA 2 fa a), σ) := by
  intro n
  have h3 := hP.2.1
  induction n with
  | zero => intro i h1 h2; omega
  | succ n ih =>
    intro i h1 h2
    unfold fX4_costAhead_4
    rcases Nat.lt_or_ge i a with hi | hi
    · rw [if_neg (nI_ge hi (by omega)), if_pos (show qin (nI i) (qlen (18 + 3)) = true from (qin_nI (by omega)).mpr (by show i < 30; omega)), nI_clamp (by omega), nI_1]
      show fX4_costAhead_4 18 n (nI a) (nI ((o + bk) * sA 2 fa i) + σ 21 i * (σ 18 2 + σ 18 3)) (nI (i + 1)) σ = _
      rw [(hP.2.2 i (by omega)).2, hO.1, hO.2.1, nI_add, pk_mul, nI_add]
      have := ih (i + 1) (by omega) (by omega)
      rw [sA, if_pos (by simp [wF]), Nat.mul_add, Nat.mul_comm (o + bk) (fa i)] at this
      exact this
    · rw [if_pos (nI_le hi (by omega))]
      have : i = a := by omega
      rw [this]
theorem e_costAhead {a : Nat} (hO : MO σ o bk) (hP : MP σ c ry fa) (ha : a ≤ c) : fX4_costAhead 18 (nI a) σ = some (nI ((o + bk) * sA 2 fa a), σ) := by
  have h3 := hP.2.1
  exact e_costAhead_4 hO hP ha qfu 0 (Nat.zero_le _) (by unfold qfu; omega)
theorem e_comes_2 {r s : Nat} (hr : r < 100) (hs : s < 100) (hP : MP σ c ry fa) (hb : ∀ i, i < c → ry i < 100 ∧ fa i < 100) : ∀ n i, i ≤ c → c - i < n → fX4_comes_2 18 n (nI r) (nI s) (nI i) σ = some (oI (fnd (cmT 2 ry fa r s) (c - i) i) (-6), σ) := by
  intro n
  have h3 := hP.2.1
  induction n with
  | zero => intro i h1 h2; omega
  | succ n ih =>
    intro i h1 h2
    unfold fX4_comes_2
    rcases Nat.lt_or_ge i c with hi | hi
    · have hbi := hb i hi
      have ih' := ih (i + 1) (by omega) (by omega)
      rw [show c - i = (c - (i + 1)) + 1 by omega, fnd]
      rw [if_neg (by rw [hP.1]; exact nI_ge hi (by omega)), if_pos (show qin (nI i) (qlen (18 + 2)) = true from (qin_nI (by omega)).mpr (by show i < 30; omega)), if_pos (show qin (nI i) (qlen (18 + 3)) = true from (qin_nI (by omega)).mpr (by show i < 30; omega)), nI_clamp (by omega), nI_1]
      show (if σ 20 i = nI r then if σ 21 i < nI s then _ else _ else _) = _
      rw [(hP.2.2 i hi).1, (hP.2.2 i hi).2]
      by_cases hr2 : ry i = r
      · rw [if_pos (by rw [hr2])]
        by_cases hs2 : s ≤ fa i
        · rw [if_neg (nI_nlt hs2 (by omega)), if_pos (by simp [cmT, wF, hr2, hs2])]
          rfl
        · rw [if_pos (nI_lt (by omega) (by omega)), if_neg (by simp [cmT, hs2])]
          exact ih'
      · rw [if_neg (by rw [nI_eq (by omega) (by omega)]; exact hr2), if_neg (by simp [cmT, hr2])]
        exact ih'
    · rw [if_pos (by rw [hP.1]; exact nI_le hi (by omega)), show c - i = 0 by omega]
      rfl
theorem e_comes {r s : Nat} (hr : r < 100) (hs : s < 100) (hP : MP σ c ry fa) (hb : ∀ i, i < c → ry i < 100 ∧ fa i < 100) : fX4_comes 18 (nI r) (nI s) σ = some (oI (fnd (cmT 2 ry fa r s) c 0) (-6), σ) := by
  have h3 := hP.2.1
  exact e_comes_2 hr hs hP hb qfu 0 (Nat.zero_le _) (by unfold qfu; omega)
theorem e_wayOf {r s : Nat} (hO : MO σ o bk) (hP : MP σ c ry fa) (hB : PB c ry fa m R) (hm : m ≤ 3) (hR : R ≤ 8) (hr : r < 100) (hs : s < 100) : fX4_wayOf 18 (nI r) (nI s) σ = some (oI (wy o bk c ry fa r s) (-6), σ) := by
  have hb := hB.b100 hm hR
  have hc := hP.2.1
  unfold fX4_wayOf wy
  rw [qb_ok (e_comes hr hs hP hb)]
  cases hf : fnd (cmT 2 ry fa r s) c 0 with
  | none =>
    rw [if_neg (by decide)]
    rfl
  | some i =>
    have h1 := (fnd_in c 0 i hf).2.1
    rw [if_pos (by exact nI_pos' (by omega))]
    show qb (fX4_costAhead 18 (nI i) σ) _ = _
    rw [qb_ok (e_costAhead hO hP (by omega)), hO.1, pk_mul, nI_add]
    rfl
/-- the x-th of what is missed, by rays: steps from s on, k of them, n passed; rays from r on -/
def mIn (x : Int32) (r : Nat) : Nat → Nat → Nat → Int32 ⊕ Nat
  | 0, _, n => .inr n
  | k + 1, s, n => if nI n = x then .inl (nI (10 * r + s)) else mIn x r k (s + 1) (n + 1)
def mOut (x : Int32) (R : Nat) (g : Nat → Nat) : Nat → Nat → Nat → Int32 ⊕ Nat
  | 0, _, n => .inr n
  | k + 1, r, n => match mIn x r (R - g r) (g r + 1) n with
    | .inl v => .inl v
    | .inr n' => mOut x R g k (r + 1) n'
theorem mIn_n {x : Int32} {r : Nat} : ∀ k s n n', mIn x r k s n = .inr n' → n' = n + k := by
  intro k
  induction k with
  | zero => intro s n n' h; cases h; rfl
  | succ k ih =>
    intro s n n' h
    unfold mIn at h
    split at h
    · cases h
    · have := ih _ _ _ h
      omega
theorem e_missedAt_15 (hG : MG σ m R sh) (hP : MP σ c ry fa) (hB : PB c ry fa m R) {x : Int32} {r : Nat} (hr : r < m) {f : Int32 → Int32 → Int32 → qSt → qR} : ∀ k s n, 1 ≤ s → s ≤ R + 1 → R + 1 - s < k →
    fX4_missedAt_15 18 f k x (nI n) (nI r) (nI s) σ = (match mIn x r (R + 1 - max s (fR ry fa r c + 1)) (max s (fR ry fa r c + 1)) n with
      | .inl v => some (v, σ)
      | .inr n' => f x (nI n') (nI (r + 1)) σ) := by
  intro k
  have g3 := hG.2.2.1
  have hb := hB.b100 (by omega) (by omega)
  have hf : fR ry fa r c ≤ R := fR_le c (fun i hi => (hB i hi).2.2)
  induction k with
  | zero => intro s n h1 h2 h3; omega
  | succ k ih =>
    intro s n h1 h2 h3
    unfold fX4_missedAt_15
    rcases Nat.lt_or_ge R s with hs | hs
    · rw [if_pos (by rw [hG.2.1]; exact nI_lt hs (by omega)), show R + 1 - max s (fR ry fa r c + 1) = 0 by omega, nI_1]
      rfl
    · rw [if_neg (by rw [hG.2.1]; exact nI_nlt hs (by omega)), qb_ok (e_comes (by omega) (by omega) hP hb), nI_1, nI_1]
      rcases Nat.lt_or_ge (fR ry fa r c) s with hq | hq
      · rw [(fnd_far h1).mpr hq, if_neg (by decide), show max s (fR ry fa r c + 1) = s by omega, show R + 1 - s = (R + 1 - (s + 1)) + 1 by omega, mIn]
        by_cases hx : nI n = x
        · rw [if_pos hx, if_pos hx, show (10 : Int32) = nI 10 from rfl, pk_mul, nI_add]
        · rw [if_neg hx, if_neg hx, ih (s + 1) (n + 1) (by omega) (by omega) (by omega), show max (s + 1) (fR ry fa r c + 1) = s + 1 by omega]
      · cases hfn : fnd (cmT 2 ry fa r s) c 0 with
        | none => rw [fnd_far h1] at hfn; omega
        | some i =>
          have hi := (fnd_in c 0 i hfn).2.1
          have hc := hP.2.1
          rw [if_pos (by exact nI_pos' (by omega)), ih (s + 1) n (by omega) (by omega) (by omega), show max (s + 1) (fR ry fa r c + 1) = max s (fR ry fa r c + 1) by omega]
theorem e_missedAt_4 (hG : MG σ m R sh) (hP : MP σ c ry fa) (hB : PB c ry fa m R) {x : Int32} : ∀ k r n, r ≤ m → m - r < k →
    fX4_missedAt_4 18 k x (nI n) (nI r) σ = (match mOut x R (fun r => fR ry fa r c) (m - r) r n with
      | .inl v => some (v, σ)
      | .inr n' => if x = -1 then some (nI n', σ) else some (-6, σ)) := by
  intro k
  have g3 := hG.2.2.1
  induction k with
  | zero => intro r n h1 h2; omega
  | succ k ih =>
    intro r n h1 h2
    unfold fX4_missedAt_4
    rcases Nat.lt_or_ge r m with hr | hr
    · have hf : fR ry fa r c ≤ R := fR_le c (fun i hi => (hB i hi).2.2)
      rw [if_neg (by rw [hG.1]; exact nI_ge hr (by omega)), show (1 : Int32) = nI 1 from rfl, e_missedAt_15 hG hP hB hr qfu 1 n (by omega) (by omega) (by unfold qfu; omega), show m - r = (m - (r + 1)) + 1 by omega, mOut, show max 1 (fR ry fa r c + 1) = fR ry fa r c + 1 by omega, show R + 1 - (fR ry fa r c + 1) = R - fR ry fa r c by omega]
      cases hq : mIn x r (R - fR ry fa r c) (fR ry fa r c + 1) n with
      | inl v => rfl
      | inr n' => exact ih (r + 1) n' (by omega) (by omega)
    · rw [if_pos (by rw [hG.1]; exact nI_le hr (by omega)), show m - r = 0 by omega]
      rfl
theorem e_missedAt (hG : MG σ m R sh) (hP : MP σ c ry fa) (hB : PB c ry fa m R) {x : Int32} : fX4_missedAt 18 x σ = (match mOut x R (fun r => fR ry fa r c) m 0 0 with
      | .inl v => some (v, σ)
      | .inr n' => if x = -1 then some (nI n', σ) else some (-6, σ)) := by
  have g3 := hG.2.2.1
  exact e_missedAt_4 hG hP hB qfu 0 0 (by omega) (by unfold qfu; omega)
theorem mIn_m1 {r : Nat} : ∀ k s n, n + k < 1000 → mIn (-1) r k s n = .inr (n + k) := by
  intro k
  induction k with
  | zero => intro s n _; rfl
  | succ k ih =>
    intro s n h
    unfold mIn
    rw [if_neg, ih (s + 1) (n + 1) (by omega), show n + 1 + k = n + (k + 1) by omega]
    intro hq
    have := congrArg Int32.toInt hq
    rw [nI_toInt (by omega), show (-1 : Int32).toInt = -1 from rfl] at this
    omega
theorem mOut_m1 : ∀ k r n, R ≤ 8 → n + k * R < 500 → mOut (-1) R (fun r => fR ry fa r c) k r n = .inr (n + cmS R c ry fa k r) := by
  intro k
  induction k with
  | zero => intro r n _ _; rfl
  | succ k ih =>
    intro r n hR h
    rw [Nat.succ_mul] at h
    unfold mOut cmS
    rw [mIn_m1 _ _ _ (by omega)]
    show mOut _ _ _ _ _ _ = _
    rw [ih (r + 1) _ hR (by omega), Nat.add_assoc]
theorem m24 {a b : Nat} (ha : a ≤ 3) (hb : b ≤ 8) : a * b ≤ 24 := Nat.mul_le_mul ha hb
theorem e_missedAll (hG : MG σ m R sh) (hP : MP σ c ry fa) (hB : PB c ry fa m R) : fX4_missedAt 18 (-1) σ = some (nI (cmS R c ry fa m 0), σ) := by
  have g3 := hG.2.2.1
  have := m24 (a := m) (b := R) (by omega) (by omega)
  rw [e_missedAt hG hP hB, mOut_m1 m 0 0 (by omega) (by omega)]
  show (if (-1 : Int32) = -1 then _ else _) = _
  rw [if_pos rfl, Nat.zero_add]
end EMODEL
