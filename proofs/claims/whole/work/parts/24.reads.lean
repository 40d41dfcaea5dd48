/-! ===== pure: calls that only read, class and model ===== -/
def RV (σ : qSt) (m R o bk : Nat) (sh : Nat → Nat → Nat) (c : Nat) (ry fa : Nat → Nat) : Prop := CG σ m R sh ∧ CO σ o bk ∧ PL σ 3 c ry fa ∧ MG σ m R sh ∧ MO σ o bk ∧ MP σ c ry fa ∧ PB c ry fa m R
theorem q10 : ¬ (1 : Int32) = 0 := by decide
section EREADS
variable {σ : qSt} {m R o bk c : Nat} {sh : Nat → Nat → Nat} {ry fa : Nat → Nat}
theorem e_in01 {x : Int32} {n : Nat} (hn : n < 100) : (∃ w, w ≤ n ∧ x = nI w) ∨ (x < 0 ∨ nI n < x) := by
  rcases pk_ix x (n := n + 1) (by omega) with h | h | ⟨w, hw, rfl⟩
  · exact Or.inr (Or.inl h)
  · refine Or.inr (Or.inr ?_)
    have a := Int32.le_iff_toInt_le.mp h
    apply Int32.lt_iff_toInt_lt.mpr
    rw [nI_toInt (by omega)] at a ⊢
    omega
  · exact Or.inl ⟨w, by omega, rfl⟩
theorem b_shareOf (h : RV σ m R o bk sh c ry fa) (x y : Int32) : ∃ v, fX3_shareOf 0 x y σ = some (v, σ) ∧ fX4_shareOf 18 x y σ = some (v, σ) := by
  obtain ⟨hG, hO, hP, hG', hO', hP', hB⟩ := h
  have g3 := hG.2.2.1
  unfold fX3_shareOf fX4_shareOf
  show ∃ v, qb (fX0_has 1 x y σ) _ = _ ∧ _
  rcases plc_or m R (by omega) (by omega) x y with ⟨r, s, hr, h1, h2, rfl, rfl⟩ | ⟨-, hx⟩
  · refine ⟨nI (sh r s), ?_, ?_⟩
    · rw [qb_ok (e_has hG hr h1 h2), if_neg q10]
      show qb (fX0_shareAt 1 _ _ σ) _ = _
      rw [qb_ok (e_shareAt hG hr h1 h2)]
    · rw [qb_ok (e_isPlace hG' hr h1 h2), if_neg q10, e_ix2, if_pos (show qin (nI (9 * r + s)) (qlen (18 + 1)) = true from (qin_nI (by omega)).mpr (by show 9 * r + s < 27; omega)), nI_clamp (by omega)]
      show some (σ 19 (9 * r + s), σ) = _
      rw [(hG'.2.2.2 r s hr h1 h2).1]
  · refine ⟨-1, ?_, ?_⟩
    · rw [qb_ok (e_has_out hG hx), if_pos rfl]
    · rw [qb_ok (e_isPlace_out hG' hx), if_pos rfl]
theorem b_tripOf (h : RV σ m R o bk sh c ry fa) (x y : Int32) : ∃ v, fX3_tripOf 0 x y σ = some (v, σ) ∧ fX4_tripOf 18 x y σ = some (v, σ) := by
  obtain ⟨hG, hO, hP, hG', hO', hP', hB⟩ := h
  have hc := hP'.2.1
  unfold fX3_tripOf fX4_tripOf
  rw [hP'.1]
  show ∃ v, qb (fX2_has 3 x σ) _ = _ ∧ _
  have hout : (x < 0 ∨ nI c ≤ x) ∨ ∃ i, i < c ∧ x = nI i := by
    rcases pk_ix x (n := c) (by omega) with h | h | h
    · exact Or.inl (Or.inl h)
    · exact Or.inl (Or.inr h)
    · exact Or.inr h
  rcases hout with hx | ⟨i, hi, rfl⟩
  · refine ⟨-1, ?_, ?_⟩
    · rw [qb_ok (e_phas_out hP hx), if_pos rfl]
    · rw [qb_ok (e_inN (by omega) hx), if_pos rfl]
  · rw [qb_ok (e_phas hP hi), qb_ok (e_inI (by omega) hi), if_neg q10, if_neg q10]
    by_cases y0 : y = 0
    · refine ⟨nI (ry i), ?_, ?_⟩
      · rw [if_pos y0]
        show qb (fX2_rayOf 3 _ σ) _ = _
        rw [qb_ok (e_rayOf hP hi)]
      · rw [if_pos y0, if_pos (show qin (nI i) (qlen (18 + 2)) = true from (qin_nI (by omega)).mpr (by show i < 30; omega)), nI_clamp (by omega)]
        show some (σ 20 i, σ) = _
        rw [(hP'.2.2 i hi).1]
    · rw [if_neg y0, if_neg y0]
      by_cases y1 : y = 1
      · refine ⟨nI (fa i), ?_, ?_⟩
        · rw [if_pos y1]
          show qb (fX2_stepsOf 3 _ σ) _ = _
          rw [qb_ok (e_stepsOf hP hi)]
        · rw [if_pos y1, if_pos (show qin (nI i) (qlen (18 + 3)) = true from (qin_nI (by omega)).mpr (by show i < 30; omega)), nI_clamp (by omega)]
          show some (σ 21 i, σ) = _
          rw [(hP'.2.2 i hi).2]
      · rw [if_neg y1, if_neg y1]
        by_cases y2 : y = 2
        · refine ⟨nI ((o + bk) * sA 2 fa i), ?_, ?_⟩
          · rw [if_pos y2, ← wI2]
            show qb (fX2_stepsAhead 3 _ _ σ) _ = _
            rw [qb_ok (e_stepsAhead (by omega) hP (by omega)), qb_ok (e_whole hO)]
          · rw [if_pos y2, qb_ok (e_costAhead hO' hP' (by omega))]
        · exact ⟨-2, by rw [if_neg y2], by rw [if_neg y2]⟩
theorem b_way (h : RV σ m R o bk sh c ry fa) (x y : Int32) : ∃ v, fX3_way 0 x y σ = some (v, σ) ∧ fX4_way 18 x y σ = some (v, σ) := by
  obtain ⟨hG, hO, hP, hG', hO', hP', hB⟩ := h
  have g3 := hG.2.2.1
  unfold fX3_way fX4_way
  show ∃ v, qb (fX0_has 1 x y σ) _ = _ ∧ _
  rcases plc_or m R (by omega) (by omega) x y with ⟨r, s, hr, h1, h2, rfl, rfl⟩ | ⟨-, hx⟩
  · refine ⟨oI (wy o bk c ry fa r s) (-6), ?_, ?_⟩
    · rw [qb_ok (e_has hG hr h1 h2), if_neg q10, qb_ok (e_wayTo hO hP hB (by omega) (by omega) (by omega) (by omega))]
    · rw [qb_ok (e_isPlace hG' hr h1 h2), if_neg q10, qb_ok (e_wayOf hO' hP' hB (by omega) (by omega) (by omega) (by omega))]
  · refine ⟨-1, ?_, ?_⟩
    · rw [qb_ok (e_has_out hG hx), if_pos rfl]
    · rw [qb_ok (e_isPlace_out hG' hx), if_pos rfl]
theorem in_lit {w : Nat} {n : Nat} {σ : qSt} (hw : w ≤ n) (hn : n < 100) : fX4_in (nI w) 0 (nI n) σ = some (1, σ) := e_in (nI_pos (by omega)) (nI_nlt hw (by omega))
theorem b_late (h : RV σ m R o bk sh c ry fa) (x y z : Int32) : ∃ v, fX3_late 0 x y z σ = some (v, σ) ∧ fX4_late 18 x y z σ = some (v, σ) := by
  obtain ⟨hG, hO, hP, hG', hO', hP', hB⟩ := h
  have g3 := hG.2.2.1
  unfold fX3_late fX4_late
  show ∃ v, qb (fX0_has 1 x y σ) _ = _ ∧ _
  rcases plc_or m R (by omega) (by omega) x y with ⟨r, s, hr, h1, h2, rfl, rfl⟩ | ⟨-, hx⟩
  · rw [qb_ok (e_has hG hr h1 h2), qb_ok (e_isPlace hG' hr h1 h2), if_neg q10, if_neg q10]
    rcases e_in01 (x := z) (n := 1) (by omega) with ⟨w, hw, rfl⟩ | hz
    · rw [if_neg (nI_pos (by omega)), if_pos (by exact nI_le (b := 1) hw (by omega)), qb_ok (show fX4_in (nI w) 0 1 σ = some (1, σ) from in_lit (n := 1) hw (by omega)), if_neg q10]
      rw [qb_ok (e_wayTo hO hP hB (by omega) (by omega) (by omega) (by omega)), qb_ok (e_wayOf hO' hP' hB (by omega) (by omega) (by omega) (by omega))]
      cases hv : wy o bk c ry fa r s with
      | none => exact ⟨-6, rfl, rfl⟩
      | some v =>
        have hle := wy_le hP.2.2.1 hB (by omega) hO.2.2.2.1 hO.2.2.2.2.2 (by omega) hv
        have ho : 1 ≤ o * s := Nat.mul_le_mul hO.2.2.1 h1
        refine ⟨nI (lowv v (o * s) (nI w)), ?_, ?_⟩
        · rw [if_neg (by
            intro hq
            have := congrArg Int32.toInt hq
            rw [show oI (some v) (-6) = nI v from rfl, nI_toInt (by omega), show (-6 : Int32).toInt = -6 from rfl] at this
            omega), hO.1, pk_mul]
          show qb (fX3_lowest (nI v) _ _ σ) _ = _
          rw [qb_ok (e_lowest (by omega) (by omega) ho)]
        · rw [if_pos (by exact nI_pos' (by omega)), hO'.1, pk_mul]
          show qb (fX4_term (nI v) _ _ σ) _ = _
          rw [qb_ok (e_term (by omega) (by omega) ho)]
    · refine ⟨-2, ?_, ?_⟩
      · by_cases z0 : z < 0
        · rw [if_pos z0]
        · rw [if_neg z0, if_neg (by
            intro hq
            have a := Int32.lt_iff_toInt_lt.mp (hz.resolve_left z0)
            have b' := Int32.le_iff_toInt_le.mp hq
            rw [nI_toInt (by omega)] at a
            rw [show (1 : Int32).toInt = 1 from rfl] at b'
            omega)]
      · rw [qb_ok (show fX4_in z 0 1 σ = some (0, σ) from e_in_out hz), if_pos rfl]
  · refine ⟨-1, ?_, ?_⟩
    · rw [qb_ok (e_has_out hG hx), if_pos rfl]
    · rw [qb_ok (e_isPlace_out hG' hx), if_pos rfl]
theorem e_worst_42 (hG : CG σ m R sh) (hO : CO σ o bk) (hP : PL σ 3 c ry fa) (hG' : MG σ m R sh) (hO' : MO σ o bk) (hP' : MP σ c ry fa) (hB : PB c ry fa m R) (h0 : cmS R c ry fa m 0 = 0) {x : Int32} {r : Nat} (hr : r < m) {f : Int32 → Int32 → Int32 → Int32 → qSt → qR} : ∀ n s q, okq m R q → 1 ≤ s → s ≤ R + 1 → R + 1 - s < n →
    fX4_worst_42 18 f n x (nI q.1) (nI q.2) (nI r) (nI s) σ = (fun q : Nat × Nat => f x (nI q.1) (nI q.2) (nI (r + 1)) σ) (wpI (wyN o bk c ry fa) r (R + 1 - s) s q) := by
  intro n
  have g3 := hG.2.2.1
  induction n with
  | zero => intro s q _ h1 h2 h3; omega
  | succ n ih =>
    intro s q hq h1 h2 h3
    unfold fX4_worst_42
    rcases Nat.lt_or_ge R s with hs | hs
    · rw [if_pos (by rw [hG'.2.1]; exact nI_lt hs (by omega)), show R + 1 - s = 0 by omega, nI_1]
      rfl
    · have q1 := hq.1
      have q2 := hq.2.2
      rw [if_neg (by rw [hG'.2.1]; exact nI_nlt hs (by omega)), qb_ok (e_wayOf hO' hP' hB (by omega) (by omega) (by omega) (by omega)), qb_ok (e_wayOf hO' hP' hB (by omega) (by omega) (by omega) (by omega))]
      have w1 := wyN_le hG hO hP hB h0 hr h1 hs
      have w2 := wyN_le hG hO hP hB h0 hq.1 hq.2.1 hq.2.2
      have z1 := mW (b := q.2) w1.2.2 (by omega)
      have z2 := mW (b := s) w2.2.2 (by omega)
      rw [w1.1, w2.1, pk_mul, pk_mul, nI_1, show R + 1 - s = (R + 1 - (s + 1)) + 1 by omega, wpI]
      by_cases hle : wyN o bk c ry fa r s * q.2 ≤ wyN o bk c ry fa q.1 q.2 * s
      · rw [if_pos (nI_le hle (by omega)), if_pos hle]
        exact ih (s + 1) q hq (by omega) (by omega) (by omega)
      · rw [if_neg (nI_ge (by omega) (by omega)), if_neg hle]
        exact ih (s + 1) (r, s) ⟨hr, h1, hs⟩ (by omega) (by omega) (by omega)
/-- what worst answers of the worst place -/
def wAns (o : Nat) (W : Nat → Nat → Nat) (x : Int32) (q : Nat × Nat) : Int32 := if x = 2 then nI q.1 else if x = 3 then nI q.2 else nI (lowv (W q.1 q.2) (o * q.2) x)
theorem e_worst_30 (hG : CG σ m R sh) (hO : CO σ o bk) (hP : PL σ 3 c ry fa) (hG' : MG σ m R sh) (hO' : MO σ o bk) (hP' : MP σ c ry fa) (hB : PB c ry fa m R) (h0 : cmS R c ry fa m 0 = 0) {x : Int32} : ∀ n r q, okq m R q → r ≤ m → m - r < n →
    fX4_worst_30 18 n x (nI q.1) (nI q.2) (nI r) σ = some (wAns o (wyN o bk c ry fa) x (wpO (wyN o bk c ry fa) R (m - r) r q), σ) := by
  intro n
  have g3 := hG.2.2.1
  induction n with
  | zero => intro r q _ h1 h2; omega
  | succ n ih =>
    intro r q hq h1 h2
    unfold fX4_worst_30
    rcases Nat.lt_or_ge r m with hr | hr
    · rw [if_neg (by rw [hG'.1]; exact nI_ge hr (by omega)), show (1 : Int32) = nI 1 from rfl, e_worst_42 hG hO hP hG' hO' hP' hB h0 hr qfu 1 q hq (by omega) (by omega) (by unfold qfu; omega)]
      show fX4_worst_30 18 n x _ _ _ σ = _
      rw [ih (r + 1) _ (wpI_ok hr _ 1 q (by omega) (by omega) hq) (by omega) (by omega), show m - r = (m - (r + 1)) + 1 by omega, wpO, show R + 1 - 1 = R by omega]
    · rw [if_pos (by rw [hG'.1]; exact nI_le hr (by omega)), show m - r = 0 by omega]
      show _ = some (wAns o (wyN o bk c ry fa) x q, σ)
      unfold wAns
      have q1 := hq.1
      have q2 := hq.2.2
      by_cases x2 : x = 2
      · rw [if_pos x2, if_pos x2]
      · rw [if_neg x2, if_neg x2]
        by_cases x3 : x = 3
        · rw [if_pos x3, if_pos x3]
        · have w2 := wyN_le hG hO hP hB h0 hq.1 hq.2.1 hq.2.2
          have ho : 1 ≤ o * q.2 := Nat.mul_le_mul hO.2.2.1 hq.2.1
          rw [if_neg x3, if_neg x3, qb_ok (e_wayOf hO' hP' hB (by omega) (by omega) (by omega) (by omega)), w2.1, hO'.1, pk_mul, qb_ok (e_term (by omega) (by omega) ho)]
theorem b_worst (h : RV σ m R o bk sh c ry fa) (x : Int32) : ∃ v, fX3_worst 0 x σ = some (v, σ) ∧ fX4_worst 18 x σ = some (v, σ) := by
  obtain ⟨hG, hO, hP, hG', hO', hP', hB⟩ := h
  have g3 := hG.2.2.1
  unfold fX3_worst fX4_worst
  rcases e_in01 (x := x) (n := 3) (by omega) with ⟨w, hw, rfl⟩ | hz
  · have h24 := m24 (a := m) (b := R) (by omega) (by omega)
    have hle := cmS_le (R := R) (c := c) (ry := ry) (fa := fa) m 0
    rw [if_neg (nI_pos (by omega)), if_pos (by exact nI_le (b := 3) hw (by omega)), qb_ok (show fX4_in (nI w) 0 3 σ = some (1, σ) from in_lit (n := 3) hw (by omega)), if_neg q10, qb_ok (e_countMissed hG hP hB), qb_ok (e_missedAll hG' hP' hB)]
    rcases Nat.eq_zero_or_pos (cmS R c ry fa m 0) with h0 | h0
    · have hq := wpl_ok (o := o) (bk := bk) (c := c) (ry := ry) (fa := fa) g3
      have q1 := hq.1
      have q2 := hq.2.2
      refine ⟨wAns o (wyN o bk c ry fa) (nI w) (wpl o bk c ry fa m R), ?_, ?_⟩
      · rw [h0, if_pos (by decide), qb_ok (e_worstPlace hG hO hP hB h0)]
        generalize wpl o bk c ry fa m R = q at *
        have e1 : nI (10 * q.1 + q.2) / 10 = nI q.1 := by
          rw [show (10 : Int32) = nI 10 from rfl, pk_div (by omega) (by omega) (by omega), show (10 * q.1 + q.2) / 10 = q.1 by omega]
        have e2 : nI (10 * q.1 + q.2) - nI q.1 * 10 = nI q.2 := by
          rw [show (10 : Int32) = nI 10 from rfl, pk_mul, pk_sub (by omega), show 10 * q.1 + q.2 - q.1 * 10 = q.2 by omega]
        rw [e1, e2]
        unfold wAns
        by_cases x2 : nI w = 2
        · rw [if_pos x2, if_pos x2]
        · rw [if_neg x2, if_neg x2]
          by_cases x3 : nI w = 3
          · rw [if_pos x3, if_pos x3]
          · have w2 := wyN_le hG hO hP hB h0 hq.1 hq.2.1 hq.2.2
            have ho : 1 ≤ o * q.2 := Nat.mul_le_mul hO.2.2.1 hq.2.1
            have hm9 := m9 (a := o) (b := q.2) hO.2.2.2.1 (by omega)
            rw [if_neg x3, if_neg x3, qb_ok (e_wayTo hO hP hB (by omega) (by omega) (by omega) (by omega)), w2.1, hO.1, pk_mul, qb_ok (e_lowest (by omega) (by omega) ho)]
      · rw [h0, if_pos (by decide)]
        exact e_worst_30 hG hO hP hG' hO' hP' hB h0 qfu 0 (0, 1) ⟨by show 0 < m; omega, Nat.le_refl _, by show 1 ≤ R; omega⟩ (by omega) (by unfold qfu; omega)
    · refine ⟨-3, ?_, ?_⟩
      · rw [if_neg (by exact nI_nle h0 (by omega))]
      · rw [if_neg (by exact nI_nle h0 (by omega))]
  · refine ⟨-2, ?_, ?_⟩
    · by_cases z0 : x < 0
      · rw [if_pos z0]
      · rw [if_neg z0, if_neg (by
          intro hq
          have a := Int32.lt_iff_toInt_lt.mp (hz.resolve_left z0)
          have b' := Int32.le_iff_toInt_le.mp hq
          rw [nI_toInt (by omega)] at a
          rw [show (3 : Int32).toInt = 3 from rfl] at b'
          omega)]
    · rw [qb_ok (show fX4_in x 0 3 σ = some (0, σ) from e_in_out hz), if_pos rfl]
end EREADS
