/-! ===== pure: mean, missed, finds, both, end, told ===== -/
section EREADS2
variable {σ : qSt} {m R o bk c : Nat} {sh : Nat → Nat → Nat} {ry fa : Nat → Nat}
theorem e_mean_27 (hG : CG σ m R sh) (hO : CO σ o bk) (hP : PL σ 3 c ry fa) (hB : PB c ry fa m R) (h0 : cmS R c ry fa m 0 = 0) {r : Nat} (hr : r < m) {f : Int32 → Int32 → qSt → qR} : ∀ n s a, 1 ≤ s → s ≤ R + 1 → R + 1 - s < n →
    fX3_mean_27 0 f n (nI a) (nI r) (nI s) σ = f (nI (a + sIn (fun s => sh r s * wyN o bk c ry fa r s) (R + 1 - s) s)) (nI (r + 1)) σ := by
  intro n
  have g3 := hG.2.2.1
  induction n with
  | zero => intro s a h1 h2 h3; omega
  | succ n ih =>
    intro s a h1 h2 h3
    unfold fX3_mean_27
    rcases Nat.lt_or_ge R s with hs | hs
    · rw [if_pos (by show σ 1 1 < nI s; rw [hG.2.1]; exact nI_lt hs (by omega)), show R + 1 - s = 0 by omega, nI_1]
      rfl
    · rw [if_neg (by show ¬ σ 1 1 < nI s; rw [hG.2.1]; exact nI_nlt hs (by omega))]
      show qb (fX0_shareAt 1 _ _ σ) _ = _
      rw [qb_ok (e_shareAt hG hr h1 hs), qb_ok (e_wayTo hO hP hB (by omega) (by omega) (by omega) (by omega)), (wyN_le hG hO hP hB h0 hr h1 hs).1, pk_mul, nI_add, nI_1, ih (s + 1) _ (by omega) (by omega) (by omega), show R + 1 - s = (R + 1 - (s + 1)) + 1 by omega, sIn, Nat.add_assoc]
theorem e_mean_14 (hG : CG σ m R sh) (hO : CO σ o bk) (hP : PL σ 3 c ry fa) (hB : PB c ry fa m R) (h0 : cmS R c ry fa m 0 = 0) : ∀ n r a, r ≤ m → m - r < n →
    fX3_mean_14 0 n (nI a) (nI r) σ = some (nI (a + sOut (fun r s => sh r s * wyN o bk c ry fa r s) R (m - r) r), σ) := by
  intro n
  have g3 := hG.2.2.1
  induction n with
  | zero => intro r a h1 h2; omega
  | succ n ih =>
    intro r a h1 h2
    unfold fX3_mean_14
    rcases Nat.lt_or_ge r m with hr | hr
    · rw [if_neg (by show ¬ σ 1 0 ≤ nI r; rw [hG.1]; exact nI_ge hr (by omega)), show (1 : Int32) = nI 1 from rfl, e_mean_27 hG hO hP hB h0 hr qfu 1 a (by omega) (by omega) (by unfold qfu; omega)]
      show fX3_mean_14 0 n _ _ σ = _
      rw [ih (r + 1) _ (by omega) (by omega), show m - r = (m - (r + 1)) + 1 by omega, sOut, show R + 1 - 1 = R by omega, Nat.add_assoc]
    · rw [if_pos (by show σ 1 0 ≤ nI r; rw [hG.1]; exact nI_le hr (by omega)), show m - r = 0 by omega]
      rfl
theorem e_mean4_25 (hG : CG σ m R sh) (hO : CO σ o bk) (hP : PL σ 3 c ry fa) (hG' : MG σ m R sh) (hO' : MO σ o bk) (hP' : MP σ c ry fa) (hB : PB c ry fa m R) (h0 : cmS R c ry fa m 0 = 0) {r : Nat} (hr : r < m) {f : Int32 → Int32 → qSt → qR} : ∀ n s a, 1 ≤ s → s ≤ R + 1 → R + 1 - s < n →
    fX4_mean_25 18 f n (nI a) (nI r) (nI s) σ = f (nI (a + sIn (fun s => sh r s * wyN o bk c ry fa r s) (R + 1 - s) s)) (nI (r + 1)) σ := by
  intro n
  have g3 := hG.2.2.1
  induction n with
  | zero => intro s a h1 h2 h3; omega
  | succ n ih =>
    intro s a h1 h2 h3
    unfold fX4_mean_25
    rcases Nat.lt_or_ge R s with hs | hs
    · rw [if_pos (by rw [hG'.2.1]; exact nI_lt hs (by omega)), show R + 1 - s = 0 by omega, nI_1]
      rfl
    · rw [if_neg (by rw [hG'.2.1]; exact nI_nlt hs (by omega)), e_ix2, if_pos (show qin (nI (9 * r + s)) (qlen (18 + 1)) = true from (qin_nI (by omega)).mpr (by show 9 * r + s < 27; omega)), nI_clamp (by omega), qb_ok (e_wayOf hO' hP' hB (by omega) (by omega) (by omega) (by omega)), (wyN_le hG hO hP hB h0 hr h1 hs).1]
      show fX4_mean_25 18 f n (nI a + σ 19 (9 * r + s) * _) _ _ σ = _
      rw [(hG'.2.2.2 r s hr h1 hs).1, pk_mul, nI_add, nI_1, ih (s + 1) _ (by omega) (by omega) (by omega), show R + 1 - s = (R + 1 - (s + 1)) + 1 by omega, sIn, Nat.add_assoc]
theorem e_mean4_15 (hG : CG σ m R sh) (hO : CO σ o bk) (hP : PL σ 3 c ry fa) (hG' : MG σ m R sh) (hO' : MO σ o bk) (hP' : MP σ c ry fa) (hB : PB c ry fa m R) (h0 : cmS R c ry fa m 0 = 0) : ∀ n r a, r ≤ m → m - r < n →
    fX4_mean_15 18 n (nI a) (nI r) σ = some (nI (a + sOut (fun r s => sh r s * wyN o bk c ry fa r s) R (m - r) r), σ) := by
  intro n
  have g3 := hG.2.2.1
  induction n with
  | zero => intro r a h1 h2; omega
  | succ n ih =>
    intro r a h1 h2
    unfold fX4_mean_15
    rcases Nat.lt_or_ge r m with hr | hr
    · rw [if_neg (by rw [hG'.1]; exact nI_ge hr (by omega)), show (1 : Int32) = nI 1 from rfl, e_mean4_25 hG hO hP hG' hO' hP' hB h0 hr qfu 1 a (by omega) (by omega) (by unfold qfu; omega)]
      show fX4_mean_15 18 n _ _ σ = _
      rw [ih (r + 1) _ (by omega) (by omega), show m - r = (m - (r + 1)) + 1 by omega, sOut, show R + 1 - 1 = R by omega, Nat.add_assoc]
    · rw [if_pos (by rw [hG'.1]; exact nI_le hr (by omega)), show m - r = 0 by omega]
      rfl
theorem b_mean (h : RV σ m R o bk sh c ry fa) : ∃ v, fX3_mean 0 σ = some (v, σ) ∧ fX4_mean 18 σ = some (v, σ) := by
  obtain ⟨hG, hO, hP, hG', hO', hP', hB⟩ := h
  have g3 := hG.2.2.1
  have h24 := m24 (a := m) (b := R) (by omega) (by omega)
  have hle := cmS_le (R := R) (c := c) (ry := ry) (fa := fa) m 0
  unfold fX3_mean fX4_mean
  rw [qb_ok (e_countMissed hG hP hB), qb_ok (e_missedAll hG' hP' hB)]
  rcases Nat.eq_zero_or_pos (cmS R c ry fa m 0) with h0 | h0
  · refine ⟨nI (0 + sOut (fun r s => sh r s * wyN o bk c ry fa r s) R (m - 0) 0), ?_, ?_⟩
    · rw [h0, if_pos (by decide)]
      exact e_mean_14 hG hO hP hB h0 qfu 0 0 (by omega) (by unfold qfu; omega)
    · rw [h0, if_pos (by decide)]
      exact e_mean4_15 hG hO hP hG' hO' hP' hB h0 qfu 0 0 (by omega) (by unfold qfu; omega)
  · refine ⟨-3, ?_, ?_⟩
    · rw [if_neg (by exact nI_nle h0 (by omega))]
    · rw [if_neg (by exact nI_nle h0 (by omega))]
/-! missed -/
theorem e_missed_44 (hG : CG σ m R sh) {x : Int32} {r : Nat} (hr : r < m) {f : Int32 → Int32 → qSt → qR} : ∀ k s n, s ≤ R + 1 → R + 1 - s < k →
    fX3_missed_44 0 f k (x - nI n) (nI r) (nI s) σ = (match mIn x r (R + 1 - s) s n with
      | .inl v => some (v, σ)
      | .inr n' => f (x - nI n') (nI (r + 1)) σ) := by
  intro k
  have g3 := hG.2.2.1
  induction k with
  | zero => intro s n h1 h2; omega
  | succ k ih =>
    intro s n h1 h2
    unfold fX3_missed_44
    rcases Nat.lt_or_ge R s with hs | hs
    · rw [if_pos (by show σ 1 1 < nI s; rw [hG.2.1]; exact nI_lt hs (by omega)), show R + 1 - s = 0 by omega, nI_1]
      rfl
    · rw [if_neg (by show ¬ σ 1 1 < nI s; rw [hG.2.1]; exact nI_nlt hs (by omega)), show R + 1 - s = (R + 1 - (s + 1)) + 1 by omega, mIn, nI_1]
      by_cases hx : nI n = x
      · rw [if_pos hx, if_pos (by rw [hx]; exact Int32.sub_self x), show (10 : Int32) = nI 10 from rfl, pk_mul, nI_add]
      · rw [if_neg hx, if_neg (by
          intro hq
          apply hx
          have : x = nI n := by
            have h9 := congrArg (· + nI n) hq
            simpa using h9
          exact this.symm)]
        have e1 : x - nI n + -1 = x - nI (n + 1) := by
          rw [← nI_1]
          grind
        rw [e1]
        exact ih (s + 1) (n + 1) (by omega) (by omega)
theorem e_missed_14 (hG : CG σ m R sh) (hP : PL σ 3 c ry fa) (hB : PB c ry fa m R) {x : Int32} : ∀ k r n, r ≤ m → m - r < k →
    fX3_missed_14 0 k (x - nI n) (nI r) σ = (match mOut x R (fun r => fR ry fa r c) (m - r) r n with
      | .inl v => some (v, σ)
      | .inr _ => some (-6, σ)) := by
  intro k
  have g3 := hG.2.2.1
  have hb := hB.b100 (by omega) (by omega)
  induction k with
  | zero => intro r n h1 h2; omega
  | succ k ih =>
    intro r n h1 h2
    unfold fX3_missed_14
    rcases Nat.lt_or_ge r m with hr | hr
    · have hf : fR ry fa r c ≤ R := fR_le c (fun i hi => (hB i hi).2.2)
      rw [if_neg (by show ¬ σ 1 0 ≤ nI r; rw [hG.1]; exact nI_ge hr (by omega))]
      show qb (fX2_farthest 3 (nI r) (σ 3 2) σ) _ = _
      rw [hP.2.1, qb_ok (e_farthest (by omega) hP hb (Nat.le_refl _)), nI_1, e_missed_44 hG hr qfu _ n (by omega) (by unfold qfu; omega), show m - r = (m - (r + 1)) + 1 by omega, mOut, show R + 1 - (fR ry fa r c + 1) = R - fR ry fa r c by omega]
      cases hq : mIn x r (R - fR ry fa r c) (fR ry fa r c + 1) n with
      | inl v => rfl
      | inr n' => exact ih (r + 1) n' (by omega) (by omega)
    · rw [if_pos (by show σ 1 0 ≤ nI r; rw [hG.1]; exact nI_le hr (by omega)), show m - r = 0 by omega]
      rfl
theorem b_missed (h : RV σ m R o bk sh c ry fa) (x : Int32) : ∃ v, fX3_missed 0 x σ = some (v, σ) ∧ fX4_missed 18 x σ = some (v, σ) := by
  obtain ⟨hG, hO, hP, hG', hO', hP', hB⟩ := h
  have g3 := hG.2.2.1
  unfold fX3_missed fX4_missed
  by_cases hx : x = -1
  · subst hx
    refine ⟨nI (cmS R c ry fa m 0), ?_, ?_⟩
    · rw [if_pos rfl, qb_ok (e_countMissed hG hP hB)]
    · rw [qb_ok (e_missedAll hG' hP' hB)]
  · have h1 := e_missed_14 (x := x) hG hP hB qfu 0 0 (by omega) (by unfold qfu; omega)
    rw [show x - nI 0 = x from Int32.sub_zero x] at h1
    have h2 := e_missedAt (x := x) hG' hP' hB
    rw [if_neg hx]
    show ∃ v, fX3_missed_14 0 qfu x (nI 0) σ = _ ∧ _
    rw [h1]
    show ∃ v, (match mOut x R (fun r => fR ry fa r c) m 0 0 with | .inl v => some (v, σ) | .inr _ => some (-6, σ)) = _ ∧ _
    cases hq : mOut x R (fun r => fR ry fa r c) m 0 0 with
    | inl v =>
      rw [hq] at h2
      exact ⟨v, rfl, by rw [qb_ok h2]⟩
    | inr n =>
      rw [hq] at h2
      have h2 : fX4_missedAt 18 x σ = if x = -1 then some (nI n, σ) else some (-6, σ) := h2
      rw [if_neg hx] at h2
      exact ⟨-6, rfl, by rw [qb_ok h2]⟩
/-! finds -/
theorem e_finds_20 (hP : MP σ c ry fa) (hb : ∀ i, i < c → ry i < 100 ∧ fa i < 100) {i : Nat} (hi : i < c) : ∀ k j, j ≤ i → i - j < k →
    fX4_finds_20 18 k (nI i) (nI (fR ry fa (ry i) j)) (nI j) σ = some (if fa i ≤ fR ry fa (ry i) i then -6 else nI (10 * ry i + fR ry fa (ry i) i + 1), σ) := by
  intro k
  have hc := hP.2.1
  have hbi := hb i hi
  induction k with
  | zero => intro j h1 h2; omega
  | succ k ih =>
    intro j h1 h2
    unfold fX4_finds_20
    have hfj : fR ry fa (ry i) j ≤ 100 := fR_le j (fun t ht => by have := (hb t (by omega)).2; omega)
    have hli : qin (nI i) (qlen (18 + 2)) = true := (qin_nI (by omega)).mpr (by show i < 30; omega)
    have hli' : qin (nI i) (qlen (18 + 3)) = true := (qin_nI (by omega)).mpr (by show i < 30; omega)
    have hlj : qin (nI j) (qlen (18 + 2)) = true := (qin_nI (by omega)).mpr (by show j < 30; omega)
    have hlj' : qin (nI j) (qlen (18 + 3)) = true := (qin_nI (by omega)).mpr (by show j < 30; omega)
    simp only [hli, hli', hlj, hlj', eq_self, if_true]
    rw [nI_clamp (show i < 2 ^ 31 by omega), nI_clamp (show j < 2 ^ 31 by omega), nI_1]
    show (if nI i ≤ nI j then (if σ 21 i ≤ _ then _ else some (10 * σ 20 i + _ + 1, σ)) else if σ 20 j = σ 20 i then (if σ 21 j ≤ _ then _ else fX4_finds_20 18 k (nI i) (σ 21 j) _ σ) else _) = _
    rcases Nat.lt_or_ge j i with hj | hj
    · have ih' := ih (j + 1) (by omega) (by omega)
      have hbj := hb j (by omega)
      rw [if_neg (nI_ge hj (by omega)), (hP.2.2 j (by omega)).1, (hP.2.2 j (by omega)).2, (hP.2.2 i hi).1]
      by_cases hr : ry j = ry i
      · rw [if_pos (by rw [hr])]
        rw [fR, if_pos hr] at ih'
        by_cases hq : fa j ≤ fR ry fa (ry i) j
        · rw [if_pos (nI_le hq (by omega))]
          rw [Nat.max_eq_left hq] at ih'
          exact ih'
        · rw [if_neg (nI_ge (by omega) (by omega))]
          rw [Nat.max_eq_right (by omega)] at ih'
          exact ih'
      · rw [if_neg (by rw [nI_eq (by omega) (by omega)]; exact hr)]
        rw [fR, if_neg hr] at ih'
        exact ih'
    · have : j = i := by omega
      subst this
      rw [if_pos (nI_le (Nat.le_refl _) (by omega)), (hP.2.2 j hi).1, (hP.2.2 j hi).2]
      by_cases hq : fa j ≤ fR ry fa (ry j) j
      · rw [if_pos (nI_le hq (by omega)), if_pos hq]
      · rw [if_neg (nI_ge (by omega) (by omega)), if_neg hq, show (10 : Int32) = nI 10 from rfl, pk_mul, nI_add, nI_1]
theorem b_finds (h : RV σ m R o bk sh c ry fa) (x : Int32) : ∃ v, fX3_finds 0 x σ = some (v, σ) ∧ fX4_finds 18 x σ = some (v, σ) := by
  obtain ⟨hG, hO, hP, hG', hO', hP', hB⟩ := h
  have g3 := hG.2.2.1
  have hb := hB.b100 (by omega) (by omega)
  have hc := hP'.2.1
  unfold fX3_finds fX4_finds
  rw [hP'.1]
  show ∃ v, qb (fX2_has 3 x σ) _ = _ ∧ _
  have hout : (x < 0 ∨ nI c ≤ x) ∨ ∃ i, i < c ∧ x = nI i := by
    rcases pk_ix x (n := c) (by omega) with h | h | h
    · exact Or.inl (Or.inl h)
    · exact Or.inl (Or.inr h)
    · exact Or.inr h
  rcases hout with hx | ⟨i, hi, rfl⟩
  · refine ⟨-1, ?_, ?_⟩
    · rw [qb_ok (e_phas_out hP hx), if_pos rfl]
    · rw [qb_ok (e_inN (by omega) hx), if_pos rfl]
  · have hbi := hb i hi
    have hf : fR ry fa (ry i) i ≤ 100 := fR_le i (fun t ht => by have := (hb t (by omega)).2; omega)
    refine ⟨if fa i ≤ fR ry fa (ry i) i then -6 else nI (10 * ry i + fR ry fa (ry i) i + 1), ?_, ?_⟩
    · rw [qb_ok (e_phas hP hi), if_neg q10]
      show qb (fX2_rayOf 3 _ σ) _ = _
      rw [qb_ok (e_rayOf hP hi)]
      show qb (fX2_farthest 3 _ _ σ) _ = _
      rw [qb_ok (e_farthest (by omega) hP hb (by omega))]
      show qb (fX2_stepsOf 3 _ σ) _ = _
      rw [qb_ok (e_stepsOf hP hi)]
      by_cases hq : fa i ≤ fR ry fa (ry i) i
      · rw [if_pos (nI_le hq (by omega)), if_pos hq]
      · rw [if_neg (nI_ge (by omega) (by omega)), if_neg hq, show (10 : Int32) = nI 10 from rfl, pk_mul, nI_add, nI_1]
    · rw [qb_ok (e_inI (by omega) hi), if_neg q10]
      exact e_finds_20 hP' hb hi qfu 0 (by omega) (by unfold qfu; omega)
end EREADS2
