/-! ===== pure: both, end, told ===== -/
section ETWO
variable {σ : qSt} {m R o bk c : Nat} {sh : Nat → Nat → Nat} {ry fa : Nat → Nat}
theorem cmT_par {w r s i : Nat} (hw : w < 2) (h : i % 2 ≠ w) : cmT w ry fa r s i = false := by
  have : ¬ (w = 2 ∨ i % 2 = w) := by omega
  simp [cmT, wF, this]
theorem e_comesBy_3 {w r s : Nat} (hw : w < 2) (hr : r < 100) (hs : s < 100) (hP : MP σ c ry fa) (hb : ∀ i, i < c → ry i < 100 ∧ fa i < 100) : ∀ n i, i % 2 = w → i ≤ c + 1 → c + 2 - i < n → fX4_comesBy_3 18 n (nI r) (nI s) (nI i) σ = some (oI (fnd (cmT w ry fa r s) (c - i) i) (-6), σ) := by
  intro n
  have h3 := hP.2.1
  induction n with
  | zero => intro i h0 h1 h2; omega
  | succ n ih =>
    intro i h0 h1 h2
    unfold fX4_comesBy_3
    rcases Nat.lt_or_ge i c with hi | hi
    · have hbi := hb i hi
      have ih' := ih (i + 2) (by omega) (by omega) (by omega)
      have hnext : fnd (cmT w ry fa r s) (c - (i + 1)) (i + 1) = fnd (cmT w ry fa r s) (c - (i + 2)) (i + 2) := by
        rcases Nat.lt_or_ge (i + 1) c with hq | hq
        · rw [show c - (i + 1) = (c - (i + 2)) + 1 by omega, fnd, if_neg (by rw [cmT_par hw (by omega)]; decide)]
        · rw [show c - (i + 1) = 0 by omega, show c - (i + 2) = 0 by omega]
          rfl
      rw [show c - i = (c - (i + 1)) + 1 by omega, fnd, hnext]
      rw [if_neg (by rw [hP.1]; exact nI_ge hi (by omega)), if_pos (show qin (nI i) (qlen (18 + 2)) = true from (qin_nI (by omega)).mpr (by show i < 30; omega)), if_pos (show qin (nI i) (qlen (18 + 3)) = true from (qin_nI (by omega)).mpr (by show i < 30; omega)), nI_clamp (by omega), show (2 : Int32) = nI 2 from rfl, nI_add]
      show (if σ 20 i = nI r then if σ 21 i < nI s then _ else _ else _) = _
      rw [(hP.2.2 i hi).1, (hP.2.2 i hi).2]
      by_cases hr2 : ry i = r
      · rw [if_pos (by rw [hr2])]
        by_cases hs2 : s ≤ fa i
        · rw [if_neg (nI_nlt hs2 (by omega)), if_pos (by simp [cmT, wF, hr2, hs2, h0])]
          rfl
        · rw [if_pos (nI_lt (by omega) (by omega)), if_neg (by simp [cmT, hs2])]
          exact ih'
      · rw [if_neg (by rw [nI_eq (by omega) (by omega)]; exact hr2), if_neg (by simp [cmT, hr2])]
        exact ih'
    · rw [if_pos (by rw [hP.1]; exact nI_le hi (by omega)), show c - i = 0 by omega]
      rfl
theorem e_comesBy {w r s : Nat} (hw : w < 2) (hr : r < 100) (hs : s < 100) (hP : MP σ c ry fa) (hb : ∀ i, i < c → ry i < 100 ∧ fa i < 100) : fX4_comesBy 18 (nI w) (nI r) (nI s) σ = some (oI (fnd (cmT w ry fa r s) c 0) (-6), σ) := by
  have h3 := hP.2.1
  unfold fX4_comesBy
  rw [e_comesBy_3 hw hr hs hP hb qfu w (by omega) (by omega) (by unfold qfu; omega)]
  have : fnd (cmT w ry fa r s) (c - w) w = fnd (cmT w ry fa r s) c 0 := by
    rcases (show w = 0 ∨ w = 1 by omega) with rfl | rfl
    · rfl
    · rcases Nat.eq_zero_or_pos c with h0 | h0
      · subst h0; rfl
      · conv => rhs; rw [show c = (c - 1) + 1 by omega, fnd, if_neg (by rw [cmT_par hw (by decide)]; decide)]
  rw [this]
theorem sA_par {w i : Nat} (hw : w < 2) (h : i % 2 ≠ w) : sA w fa (i + 1) = sA w fa i := by
  have : ¬ (w = 2 ∨ i % 2 = w) := by omega
  simp [sA, wF, this]
theorem e_aheadOf_6 {w a : Nat} (hw : w < 2) (hO : MO σ o bk) (hP : MP σ c ry fa) (haw : a % 2 = w) (ha : a ≤ c) : ∀ n i, i % 2 = w → i ≤ a → a - i < n → fX4_aheadOf_6 18 n (nI a) (nI ((o + bk) * sA w fa i)) (nI i) σ = some (nI ((o + bk) * sA w fa a), σ) := by
  intro n
  have h3 := hP.2.1
  induction n with
  | zero => intro i h0 h1 h2; omega
  | succ n ih =>
    intro i h0 h1 h2
    unfold fX4_aheadOf_6
    rcases Nat.lt_or_ge i a with hi | hi
    · rw [if_neg (nI_ge hi (by omega)), if_pos (show qin (nI i) (qlen (18 + 3)) = true from (qin_nI (by omega)).mpr (by show i < 30; omega)), nI_clamp (by omega), show (2 : Int32) = nI 2 from rfl, nI_add]
      show fX4_aheadOf_6 18 n (nI a) (nI ((o + bk) * sA w fa i) + σ 21 i * (σ 18 2 + σ 18 3)) (nI (i + 2)) σ = _
      rw [(hP.2.2 i (by omega)).2, hO.1, hO.2.1, nI_add, pk_mul, nI_add]
      have := ih (i + 2) (by omega) (by omega) (by omega)
      rw [sA_par (i := i + 1) hw (by omega), sA, if_pos (by simp [wF, h0]), Nat.mul_add, Nat.mul_comm (o + bk) (fa i)] at this
      exact this
    · rw [if_pos (nI_le hi (by omega))]
      have : i = a := by omega
      rw [this]
theorem e_aheadOf {a : Nat} (hO : MO σ o bk) (hP : MP σ c ry fa) (ha : a ≤ c) : fX4_aheadOf 18 (nI a) σ = some (nI ((o + bk) * sA (a % 2) fa a), σ) := by
  have h3 := hP.2.1
  unfold fX4_aheadOf
  have hr : nI a - nI a / 2 * 2 = nI (a % 2) := pk_rem (d := 2) (by omega) (by omega) (by omega)
  rw [hr]
  have h0 : sA (a % 2) fa (a % 2) = 0 := by
    rcases (show a % 2 = 0 ∨ a % 2 = 1 by omega) with q | q
    · rw [q]; rfl
    · rw [q]; rfl
  have := e_aheadOf_6 (w := a % 2) (by omega) hO hP rfl ha qfu (a % 2) (by omega) (by omega) (by unfold qfu; omega)
  rw [h0] at this
  exact this
/-- the trip by which a place is met -/
def mt (c : Nat) (ry fa : Nat → Nat) (r s : Nat) : Option Nat := match fnd (cmT 0 ry fa r s) c 0, fnd (cmT 1 ry fa r s) c 0 with
  | none, q => q
  | some i, none => some i
  | some i, some j => if sA 0 fa i ≤ sA 1 fa j then some i else some j
theorem mt_in {r s i : Nat} (h : mt c ry fa r s = some i) : i < c := by
  unfold mt at h
  cases h1 : fnd (cmT 0 ry fa r s) c 0 with
  | none =>
    rw [h1] at h
    have := fnd_in c 0 i h
    omega
  | some a =>
    rw [h1] at h
    have ha := (fnd_in c 0 a h1).2.1
    cases h2 : fnd (cmT 1 ry fa r s) c 0 with
    | none => rw [h2] at h; cases h; omega
    | some d =>
      rw [h2] at h
      have hd := (fnd_in c 0 d h2).2.1
      simp only at h
      split at h <;> cases h <;> omega
theorem cmT_w {w r s i : Nat} (hw : w < 2) (h : cmT w ry fa r s i = true) : i % 2 = w := by
  rcases Nat.lt_or_ge (i % 2) w with q | q
  · rw [cmT_par hw (by omega)] at h; cases h
  · rcases Nat.lt_or_ge w (i % 2) with q' | q'
    · rw [cmT_par hw (by omega)] at h; cases h
    · omega
theorem e_meets (hP : PL σ 3 c ry fa) (hb : ∀ i, i < c → ry i < 100 ∧ fa i < 100) (hf8 : ∀ i, i < c → fa i ≤ 8) {r s : Nat} (hr : r < 100) (hs : s < 100) : fX3_tripThatMeets 0 (nI r) (nI s) σ = some (oI (mt c ry fa r s) (-1), σ) := by
  have hc := hP.2.2.1
  unfold fX3_tripThatMeets
  rw [← wI0, qb_ok (e_firstTo (k := 3) (w := 0) (by omega) hr hs hP hb), ← wI1, qb_ok (e_firstTo (k := 3) (w := 1) (by omega) hr hs hP hb)]
  unfold mt
  cases h1 : fnd (cmT 0 ry fa r s) c 0 with
  | none => rfl
  | some i =>
    have hi := (fnd_in c 0 i h1).2.1
    rw [if_pos (by exact nI_pos' (by omega))]
    cases h2 : fnd (cmT 1 ry fa r s) c 0 with
    | none => rfl
    | some j =>
      have hj := (fnd_in c 0 j h2).2.1
      have a1 : sA 0 fa i ≤ i * 8 := sA_le i (fun t ht => hf8 t (by omega))
      have a2 : sA 1 fa j ≤ j * 8 := sA_le j (fun t ht => hf8 t (by omega))
      rw [if_pos (by exact nI_pos' (by omega))]
      show qb (fX2_stepsAhead 3 (nI j) (wI 1) σ) _ = _
      rw [qb_ok (e_stepsAhead (by omega) hP (by omega))]
      show qb (fX2_stepsAhead 3 (nI i) (wI 0) σ) _ = _
      rw [qb_ok (e_stepsAhead (by omega) hP (by omega))]
      show (if nI (sA 0 fa i) ≤ nI (sA 1 fa j) then some (nI i, σ) else some (nI j, σ)) = _
      by_cases hq : sA 0 fa i ≤ sA 1 fa j
      · rw [if_pos (nI_le hq (by omega))]
        show _ = some (oI (if sA 0 fa i ≤ sA 1 fa j then some i else some j) (-1), σ)
        rw [if_pos hq]
        rfl
      · rw [if_neg (nI_ge (by omega) (by omega))]
        show _ = some (oI (if sA 0 fa i ≤ sA 1 fa j then some i else some j) (-1), σ)
        rw [if_neg hq]
        rfl
/-- what both answers -/
def bAns (o bk : Nat) (fa : Nat → Nat) (s i : Nat) (z : Int32) : Int32 :=
  if z = 0 then nI ((o + bk) * sA (i % 2) fa i + o * s) else if z = 1 then nI ((o + bk) * (sA (i % 2) fa i + fa i)) else if z = 2 then nI (i % 2) else nI (lowv ((o + bk) * sA (i % 2) fa i + o * s) (o * s) (z - 3))
theorem e_both_98 (hO : MO σ o bk) (hP : MP σ c ry fa) (hf8 : ∀ i, i < c → fa i ≤ 8) {s i : Nat} {z : Int32} (hi : i < c) (h1 : 1 ≤ s) (h2 : s ≤ 8) : fX4_both_98 18 (nI s) z (nI i) σ = some (bAns o bk fa s i z, σ) := by
  have hc := hP.2.1
  have a1 : sA (i % 2) fa i ≤ i * 8 := sA_le i (fun t ht => hf8 t (by omega))
  have a2 := m18 (a := o + bk) (b := sA (i % 2) fa i) (by have := hO.2.2.2.1; have := hO.2.2.2.2.2; omega) (by omega)
  have a3 := m9 (a := o) (b := s) hO.2.2.2.1 h2
  have a4 : 1 ≤ o * s := Nat.mul_le_mul hO.2.2.1 h1
  unfold fX4_both_98 bAns
  rw [qb_ok (e_aheadOf hO hP (by omega)), hO.1, pk_mul, nI_add]
  by_cases z0 : z = 0
  · rw [if_pos z0, if_pos z0]
  · rw [if_neg z0, if_neg z0]
    by_cases z1 : z = 1
    · rw [if_pos z1, if_pos z1, qb_ok (e_aheadOf hO hP (by omega)), if_pos (show qin (nI i) (qlen (18 + 3)) = true from (qin_nI (by omega)).mpr (by show i < 30; omega)), nI_clamp (by omega)]
      show some (_ + σ 21 i * (σ 18 2 + σ 18 3), σ) = _
      rw [(hP.2.2 i hi).2, hO.1, hO.2.1, nI_add, pk_mul, nI_add, Nat.mul_comm (fa i) (o + bk), ← Nat.mul_add]
    · rw [if_neg z1, if_neg z1]
      by_cases z2 : z = 2
      · have hr : nI i - nI i / 2 * 2 = nI (i % 2) := pk_rem (d := 2) (by omega) (by omega) (by omega)
        rw [if_pos z2, if_pos z2, hr]
      · rw [if_neg z2, if_neg z2, qb_ok (e_term (by omega) (by omega) a4)]
theorem mul_cmp {k a d : Nat} (hk : 1 ≤ k) (hk2 : k ≤ 18) (ha : a ≤ 240) (hd : d ≤ 240) : nI (k * d) < nI (k * a) ↔ ¬ a ≤ d := by
  have h1 := m18 hk2 ha
  have h2 := m18 hk2 hd
  rw [nI_ltI (by omega) (by omega)]
  constructor
  · intro h q
    have := Nat.mul_le_mul_left k q
    omega
  · intro h
    exact Nat.mul_lt_mul_of_pos_left (by omega) hk
theorem b_both (h : RV σ m R o bk sh c ry fa) (x y z : Int32) : ∃ v, fX3_both 0 x y z σ = some (v, σ) ∧ fX4_both 18 x y z σ = some (v, σ) := by
  obtain ⟨hG, hO, hP, hG', hO', hP', hB⟩ := h
  have g3 := hG.2.2.1
  have hc := hP'.2.1
  have hb := hB.b100 (by omega) (by omega)
  have hf8 : ∀ i, i < c → fa i ≤ 8 := fun i hi => by have := (hB i hi).2.2; omega
  unfold fX3_both fX4_both
  show ∃ v, qb (fX0_has 1 x y σ) _ = _ ∧ _
  rcases plc_or m R (by omega) (by omega) x y with ⟨r, s, hr, h1, h2, rfl, rfl⟩ | ⟨-, hx⟩
  · rw [qb_ok (e_has hG hr h1 h2), qb_ok (e_isPlace hG' hr h1 h2), if_neg q10, if_neg q10]
    rcases e_in01 (x := z) (n := 4) (by omega) with ⟨w, hw, hzw⟩ | hz
    · have hz0 : ¬ z < 0 := by rw [hzw]; exact nI_pos (by omega)
      have hz4 : z ≤ 4 := by rw [hzw]; exact nI_le (b := 4) hw (by omega)
      rw [if_neg hz0, if_pos hz4, qb_ok (show fX4_in z 0 4 σ = some (1, σ) by rw [hzw]; exact in_lit (n := 4) hw (by omega)), if_neg q10]
      rw [qb_ok (e_meets hP hb hf8 (by omega) (by omega)), show (0 : Int32) = nI 0 from rfl, show (1 : Int32) = nI 1 from rfl, qb_ok (e_comesBy (w := 0) (by omega) (by omega) (by omega) hP' hb), qb_ok (e_comesBy (w := 1) (by omega) (by omega) (by omega) hP' hb)]
      show ∃ v, qb (fX2_has 3 _ σ) _ = _ ∧ _
      cases hm : mt c ry fa r s with
      | none =>
        refine ⟨-6, ?_, ?_⟩
        · show qb (fX2_has 3 (-1) σ) _ = _
          rw [qb_ok (e_phas_out hP (Or.inl (by decide)))]
          rfl
        · unfold mt at hm
          cases h1' : fnd (cmT 0 ry fa r s) c 0 with
          | none =>
            cases h2' : fnd (cmT 1 ry fa r s) c 0 with
            | none => rfl
            | some j => rw [h1', h2'] at hm; cases hm
          | some i =>
            cases h2' : fnd (cmT 1 ry fa r s) c 0 with
            | none => rw [h1', h2'] at hm; cases hm
            | some j => rw [h1', h2'] at hm; simp only at hm; split at hm <;> cases hm
      | some i =>
        have hi := mt_in hm
        have a1 : sA (i % 2) fa i ≤ i * 8 := sA_le i (fun t ht => hf8 t (by omega))
        have a2 := m18 (a := o + bk) (b := sA (i % 2) fa i) (by have := hO.2.2.2.1; have := hO.2.2.2.2.2; omega) (by omega)
        have a3 := m9 (a := o) (b := s) hO.2.2.2.1 (by omega)
        have a4 : 1 ≤ o * s := Nat.mul_le_mul hO.2.2.1 h1
        refine ⟨bAns o bk fa s i z, ?_, ?_⟩
        · have hrm : nI i - nI i / 2 * 2 = nI (i % 2) := pk_rem (d := 2) (by omega) (by omega) (by omega)
          have hwi : nI (i % 2) = wI (i % 2) := by unfold wI; rw [if_neg (by omega)]
          show qb (fX2_has 3 (nI i) σ) _ = _
          rw [qb_ok (e_phas hP hi), if_neg (by decide)]
          show qb (fX2_stepsAhead 3 (nI i) (nI i - nI i / 2 * 2) σ) _ = _
          rw [hrm, hwi, qb_ok (e_stepsAhead (by omega) hP (by omega)), qb_ok (e_whole hO), hO.1, pk_mul, nI_add]
          unfold bAns
          by_cases z0 : z = 0
          · rw [if_pos (show z = nI 0 from z0), if_pos z0]
          · rw [if_neg (show ¬ z = nI 0 from z0), if_neg z0]
            by_cases z1 : z = 1
            · rw [if_pos (show z = nI 1 from z1), if_pos z1]
              show qb (fX2_stepsOf 3 (nI i) σ) _ = _
              rw [qb_ok (e_stepsOf hP hi), nI_add, qb_ok (e_whole hO)]
            · rw [if_neg (show ¬ z = nI 1 from z1), if_neg z1]
              by_cases z2 : z = 2
              · rw [if_pos z2, if_pos z2]
                show some (nI i - nI i / 2 * 2, σ) = _
                rw [hrm]
              · rw [if_neg z2, if_neg z2, qb_ok (e_lowest (by omega) (by omega) a4)]
        · unfold mt at hm
          have hsum : o + bk ≤ 18 ∧ 1 ≤ o + bk := by have := hO.2.2.2.1; have := hO.2.2.2.2.2; have := hO.2.2.1; omega
          cases h1' : fnd (cmT 0 ry fa r s) c 0 with
          | none =>
            rw [h1'] at hm
            have hm : fnd (cmT 1 ry fa r s) c 0 = some i := hm
            rw [hm, if_neg (by decide), if_pos (by exact nI_pos' (by omega))]
            show fX4_both_54 18 (nI s) z (-6) (nI i) σ = _
            unfold fX4_both_54 fX4_both_84
            rw [if_neg (nI_pos (by omega)), if_pos (by decide), if_pos rfl, e_both_98 hO' hP' hf8 hi h1 (by omega)]
          | some a =>
            have ha := (fnd_in c 0 a h1').2.1
            have hap := cmT_w (by omega) (fnd_in c 0 a h1').2.2
            rw [h1'] at hm
            rw [if_pos (by exact nI_pos' (by omega))]
            cases h2' : fnd (cmT 1 ry fa r s) c 0 with
            | none =>
              rw [h2'] at hm
              cases hm
              show fX4_both_54 18 (nI s) z (nI i) (-6) σ = _
              unfold fX4_both_54 fX4_both_84
              rw [if_pos (by decide), if_neg (by decide), e_both_98 hO' hP' hf8 hi h1 (by omega)]
            | some d =>
              have hd := (fnd_in c 0 d h2').2.1
              have hdp := cmT_w (by omega) (fnd_in c 0 d h2').2.2
              rw [h2'] at hm
              have hm : (if sA 0 fa a ≤ sA 1 fa d then some a else some d) = some i := hm
              have b1 : sA 0 fa a ≤ a * 8 := sA_le a (fun t ht => hf8 t (by omega))
              have b2 : sA 1 fa d ≤ d * 8 := sA_le d (fun t ht => hf8 t (by omega))
              show fX4_both_54 18 (nI s) z (nI a) (nI d) σ = _
              unfold fX4_both_54 fX4_both_84
              rw [if_neg (nI_pos (by omega)), if_neg (nI_pos (by omega)), qb_ok (e_aheadOf hO' hP' (by omega)), qb_ok (e_aheadOf hO' hP' (by omega)), hap, hdp]
              by_cases hq : sA 0 fa a ≤ sA 1 fa d
              · rw [if_pos hq] at hm
                cases hm
                rw [if_neg (by rw [mul_cmp hsum.2 hsum.1 (by omega) (by omega)]; exact fun q => q hq), if_neg q10, e_both_98 hO' hP' hf8 hi h1 (by omega)]
              · rw [if_neg hq] at hm
                cases hm
                rw [if_pos ((mul_cmp hsum.2 hsum.1 (by omega) (by omega)).mpr hq), if_pos rfl, e_both_98 hO' hP' hf8 hi h1 (by omega)]
    · refine ⟨-2, ?_, ?_⟩
      · by_cases z0 : z < 0
        · rw [if_pos z0]
        · rw [if_neg z0, if_neg (by
            intro hq
            have a := Int32.lt_iff_toInt_lt.mp (hz.resolve_left z0)
            have b' := Int32.le_iff_toInt_le.mp hq
            rw [nI_toInt (by omega)] at a
            rw [show (4 : Int32).toInt = 4 from rfl] at b'
            omega)]
      · rw [qb_ok (show fX4_in z 0 4 σ = some (0, σ) from e_in_out hz), if_pos rfl]
  · refine ⟨-1, ?_, ?_⟩
    · rw [qb_ok (e_has_out hG hx), if_pos rfl]
    · rw [qb_ok (e_isPlace_out hG' hx), if_pos rfl]
/-! end -/
theorem e_end_6 (hO : MO σ o bk) (hP : MP σ c ry fa) : ∀ n i, i ≤ c → c - i < n → fX4_end_6 18 n (nI ((o + bk) * sA 0 fa i)) (nI ((o + bk) * sA 1 fa i)) (nI i) σ = (if nI ((o + bk) * sA 0 fa c) ≤ nI ((o + bk) * sA 1 fa c) then some (nI ((o + bk) * sA 1 fa c), σ) else some (nI ((o + bk) * sA 0 fa c), σ)) := by
  intro n
  have h3 := hP.2.1
  induction n with
  | zero => intro i h1 h2; omega
  | succ n ih =>
    intro i h1 h2
    unfold fX4_end_6 fX4_end_41
    rcases Nat.lt_or_ge i c with hi | hi
    · have hr : nI i - nI i / 2 * 2 = nI (i % 2) := pk_rem (d := 2) (by omega) (by omega) (by omega)
      have hq : qin (nI i) (qlen (18 + 3)) = true := (qin_nI (by omega)).mpr (by show i < 30; omega)
      have ih' := ih (i + 1) (by omega) (by omega)
      rw [if_neg (by rw [hP.1]; exact nI_ge hi (by omega)), hr]
      simp only [hq, eq_self, if_true]
      rw [nI_clamp (by omega), nI_1]
      show (if nI (i % 2) = 0 then (if nI (i % 2) = 1 then fX4_end_6 18 n (_ + σ 21 i * (σ 18 2 + σ 18 3)) (_ + σ 21 i * (σ 18 2 + σ 18 3)) _ σ else fX4_end_6 18 n (_ + σ 21 i * (σ 18 2 + σ 18 3)) (_ + 0) _ σ) else (if nI (i % 2) = 1 then fX4_end_6 18 n (_ + 0) (_ + σ 21 i * (σ 18 2 + σ 18 3)) _ σ else fX4_end_6 18 n (_ + 0) (_ + 0) _ σ)) = _
      rw [(hP.2.2 i (by omega)).2, hO.1, hO.2.1, nI_add, pk_mul, nI_add, nI_add, Int32.add_zero, Int32.add_zero]
      rcases (show i % 2 = 0 ∨ i % 2 = 1 by omega) with e | e
      · rw [e, if_pos (show nI 0 = 0 from rfl), if_neg (by decide)]
        rw [sA, if_pos (by simp [wF, e]), sA_par (by omega) (by omega), Nat.mul_add, Nat.mul_comm (o + bk) (fa i)] at ih'
        exact ih'
      · rw [e, if_neg (by decide), if_pos (show nI 1 = 1 from rfl)]
        rw [sA_par (by omega) (by omega), sA, if_pos (by simp [wF, e]), Nat.mul_add, Nat.mul_comm (o + bk) (fa i)] at ih'
        exact ih'
    · rw [if_pos (by rw [hP.1]; exact nI_le hi (by omega))]
      have : i = c := by omega
      rw [this]
theorem b_end (h : RV σ m R o bk sh c ry fa) : ∃ v, fX3_end 0 σ = some (v, σ) ∧ fX4_end 18 σ = some (v, σ) := by
  obtain ⟨hG, hO, hP, hG', hO', hP', hB⟩ := h
  have g3 := hG.2.2.1
  have hc := hP'.2.1
  have hf8 : ∀ i, i < c → fa i ≤ 8 := fun i hi => by have := (hB i hi).2.2; omega
  have b1 : sA 0 fa c ≤ c * 8 := sA_le c (fun t ht => hf8 t ht)
  have b2 : sA 1 fa c ≤ c * 8 := sA_le c (fun t ht => hf8 t ht)
  have hsum : o + bk ≤ 18 ∧ 1 ≤ o + bk := by have := hO.2.2.2.1; have := hO.2.2.2.2.2; have := hO.2.2.1; omega
  have m1 := m18 (a := o + bk) (b := sA 0 fa c) hsum.1 (by omega)
  have m2 := m18 (a := o + bk) (b := sA 1 fa c) hsum.1 (by omega)
  have hM := e_end_6 hO' hP' qfu 0 (by omega) (by unfold qfu; omega)
  unfold fX3_end fX4_end
  show ∃ v, qb (fX2_stepsAhead 3 (σ 3 2) (wI 0) σ) _ = _ ∧ fX4_end_6 18 qfu (nI ((o + bk) * sA 0 fa 0)) (nI ((o + bk) * sA 1 fa 0)) (nI 0) σ = _
  rw [hM, hP.2.1, qb_ok (e_stepsAhead (by omega) hP (Nat.le_refl _))]
  show ∃ v, qb (fX2_stepsAhead 3 (nI c) (wI 1) σ) _ = _ ∧ _
  rw [qb_ok (e_stepsAhead (by omega) hP (Nat.le_refl _))]
  rcases Nat.lt_or_ge (sA 0 fa c) (sA 1 fa c) with hq | hq
  · refine ⟨nI ((o + bk) * sA 1 fa c), ?_, ?_⟩
    · rw [if_pos (nI_lt hq (by omega)), qb_ok (e_whole hO)]
    · rw [if_pos (nI_le (Nat.mul_le_mul_left _ (by omega)) (by omega))]
  · refine ⟨nI ((o + bk) * sA 0 fa c), ?_, ?_⟩
    · rw [if_neg (nI_nlt hq (by omega)), qb_ok (e_whole hO)]
    · have := Nat.mul_le_mul_left (o + bk) hq
      rcases Nat.eq_or_lt_of_le this with e | e
      · rw [e, if_pos (nI_le (Nat.le_refl _) (by omega))]
      · rw [if_neg (nI_ge e (by omega))]
/-! told -/
theorem e_nines {r : Nat} (hr : r < 3) : fX4_nines (nI r) σ = some (nI (9 ^ r), σ) := by
  unfold fX4_nines
  rcases (show r = 0 ∨ r = 1 ∨ r = 2 by omega) with rfl | rfl | rfl <;> rfl
theorem p9 {r : Nat} (hr : r < 3) : 1 ≤ 9 ^ r ∧ 9 ^ r ≤ 81 := by
  rcases (show r = 0 ∨ r = 1 ∨ r = 2 by omega) with rfl | rfl | rfl <;> decide
theorem e_gone {r t : Nat} (hr : r < 3) (ht : t < 1000) : fX4_gone (nI t) (nI r) σ = some (nI (t / 9 ^ r % 9), σ) := by
  have hp := p9 hr
  have hd : t / 9 ^ r ≤ t := Nat.div_le_self _ _
  unfold fX4_gone
  rw [qb_ok (e_nines hr), if_neg (nI_ne0 hp.1 (by omega)), pk_div (by omega) hp.1 (by omega), show (9 : Int32) = nI 9 from rfl, pk_rem (by omega) (by omega) (by omega)]
theorem e_rest_21 (hG : MG σ m R sh) {x : Int32} {r : Nat} (hr : r < m) {f : Int32 → Int32 → Int32 → qSt → qR} : ∀ n s a, 1 ≤ s → s ≤ R + 1 → R + 1 - s < n →
    fX4_rest_21 18 f n x (nI a) (nI r) (nI s) σ = f x (nI (a + sIn (sh r) (R + 1 - s) s)) (nI (r + 1)) σ := by
  intro n
  have g3 := hG.2.2.1
  induction n with
  | zero => intro s a h1 h2 h3; omega
  | succ n ih =>
    intro s a h1 h2 h3
    unfold fX4_rest_21
    rcases Nat.lt_or_ge R s with hs | hs
    · rw [if_pos (by rw [hG.2.1]; exact nI_lt hs (by omega)), show R + 1 - s = 0 by omega, nI_1]
      rfl
    · rw [if_neg (by rw [hG.2.1]; exact nI_nlt hs (by omega)), e_ix2, if_pos (show qin (nI (9 * r + s)) (qlen (18 + 1)) = true from (qin_nI (by omega)).mpr (by show 9 * r + s < 27; omega)), nI_clamp (by omega), nI_1]
      show fX4_rest_21 18 f n x (nI a + σ 19 (9 * r + s)) _ _ σ = _
      rw [(hG.2.2.2 r s hr h1 hs).1, nI_add, ih (s + 1) _ (by omega) (by omega) (by omega), show R + 1 - s = (R + 1 - (s + 1)) + 1 by omega, sIn, Nat.add_assoc]
/-- what is unfound in the state t: rays from r on, n of them -/
def rsS (sh : Nat → Nat → Nat) (R t : Nat) : Nat → Nat → Nat
  | 0, _ => 0
  | n + 1, r => sIn (sh r) (R - t / 9 ^ r % 9) (t / 9 ^ r % 9 + 1) + rsS sh R t n (r + 1)
theorem e_rest_4 (hG : MG σ m R sh) {t : Nat} (ht : t < 1000) (hg : ∀ r, r < m → t / 9 ^ r % 9 ≤ R) : ∀ n r a, r ≤ m → m - r < n →
    fX4_rest_4 18 n (nI t) (nI a) (nI r) σ = some (nI (a + rsS sh R t (m - r) r), σ) := by
  intro n
  have g3 := hG.2.2.1
  induction n with
  | zero => intro r a h1 h2; omega
  | succ n ih =>
    intro r a h1 h2
    unfold fX4_rest_4
    rcases Nat.lt_or_ge r m with hr | hr
    · have hgr := hg r hr
      rw [if_neg (by rw [hG.1]; exact nI_ge hr (by omega)), qb_ok (e_gone (by omega) ht), nI_1, e_rest_21 hG hr qfu _ a (by omega) (by omega) (by unfold qfu; omega)]
      show fX4_rest_4 18 n _ _ _ σ = _
      rw [ih (r + 1) _ (by omega) (by omega), show m - r = (m - (r + 1)) + 1 by omega, rsS, show R + 1 - (t / 9 ^ r % 9 + 1) = R - t / 9 ^ r % 9 by omega, Nat.add_assoc]
    · rw [if_pos (by rw [hG.1]; exact nI_le hr (by omega)), show m - r = 0 by omega]
      rfl
theorem e_rest (hG : MG σ m R sh) {t : Nat} (ht : t < 1000) (hg : ∀ r, r < m → t / 9 ^ r % 9 ≤ R) : fX4_rest 18 (nI t) σ = some (nI (rsS sh R t m 0), σ) := by
  have g3 := hG.2.2.1
  have := e_rest_4 hG ht hg qfu 0 0 (by omega) (by unfold qfu; omega)
  rw [Nat.zero_add] at this
  exact this
theorem rsS_0 : ∀ n r, rsS sh R 0 n r = sOut sh R n r := by
  intro n
  induction n with
  | zero => intro r; rfl
  | succ n ih => intro r; unfold rsS sOut; rw [ih (r + 1), Nat.zero_div]; rfl
theorem b_told (h : RV σ m R o bk sh c ry fa) (x : Int32) : ∃ v, fX3_told 0 x σ = some (v, σ) ∧ fX4_told 18 x σ = some (v, σ) := by
  obtain ⟨hG, hO, hP, hG', hO', hP', hB⟩ := h
  have g3 := hG.2.2.1
  unfold fX3_told fX4_told
  show ∃ v, (if x = 0 then some (σ 1 0, σ) else if x = 1 then some (σ 1 1, σ) else if x = 2 then some (σ 0 0, σ) else if x = 3 then some (σ 0 1, σ) else if x = 4 then some (σ 3 2, σ) else if x = 5 then qb (fX0_allShares 1 σ) _ else if x = 6 then qb (fX2_stepsAhead 3 (σ 3 2) (wI 2) σ) _ else _) = _ ∧ _
  rw [hP.2.1, hP'.1, hG.1, hG.2.1, hG'.1, hG'.2.1, hO.1, hO.2.1, hO'.1, hO'.2.1, qb_ok (e_allShares hG), qb_ok (e_stepsAhead (by omega) hP (Nat.le_refl _)), qb_ok (e_whole hO), show (0 : Int32) = nI 0 from rfl, qb_ok (e_rest hG' (t := 0) (by omega) (fun r _ => by simp)), rsS_0, qb_ok (e_costAhead hO' hP' (Nat.le_refl _))]
  by_cases h0 : x = nI 0
  · exact ⟨_, if_pos h0, if_pos h0⟩
  rw [if_neg h0]
  by_cases h1 : x = 1
  · exact ⟨_, if_pos h1, if_pos h1⟩
  rw [if_neg h1]
  by_cases h2 : x = 2
  · exact ⟨_, if_pos h2, if_pos h2⟩
  rw [if_neg h2]
  by_cases h3 : x = 3
  · exact ⟨_, if_pos h3, if_pos h3⟩
  rw [if_neg h3]
  by_cases h4 : x = 4
  · exact ⟨_, if_pos h4, if_pos h4⟩
  rw [if_neg h4]
  by_cases h5 : x = 5
  · exact ⟨_, if_pos h5, if_pos h5⟩
  rw [if_neg h5]
  by_cases h6 : x = 6
  · exact ⟨_, if_pos h6, if_pos h6⟩
  rw [if_neg h6]
  exact ⟨_, rfl, rfl⟩
end ETWO
