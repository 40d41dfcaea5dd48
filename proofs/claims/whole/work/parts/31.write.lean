/-! ===== pure: the class writes the first plan ===== -/
def cx (t : Nat) : Nat := 81 * gn t 0 + 9 * gn t 1 + gn t 2
theorem tt_inv {t : Nat} (h : t < 729) : tt (gn t 0) (gn t 1) (gn t 2) = t := by
  rw [gn0, gn1, gn2]
  have e : t / 81 = t / 9 / 9 := by rw [Nat.div_div_eq_div_mul]
  rw [e]
  unfold tt
  omega
/-- the row of values -/
def MS (σ : qSt) (m R : Nat) (D : Nat → Int) : Prop := ∀ t, vst m R t → σ 9 (cx t) = iI (D t)
def GN (σ : qSt) (t : Nat) : Prop := ∀ r, r < 3 → σ 11 r = nI (gn t r)
/-- the first trip, by steps, then by rays -/
def okT (D pr : Nat → Int) (t : Nat) (sp : Int) (r s : Nat) : Bool := decide (sp + s * pr (aft t r s) ≤ D (aft t r s))
def chO (R : Nat) (cap : Nat → Int) (D pr : Nat → Int) (t : Nat) (sp : Int) : Nat → Nat → Option (Nat × Nat)
  | 0, _ => none
  | n + 1, r => if sp ≤ cap (gn t r + 1) then (match fnd (okT D pr t sp r) (R - gn t r) (gn t r + 1) with
      | some s => some (r, s)
      | none => chO R cap D pr t sp n (r + 1)) else chO R cap D pr t sp n (r + 1)
/-- the plan from a state on -/
def gp (m R : Nat) (cap : Nat → Int) (D pr : Nat → Int) : Nat → Nat → Int → List (Nat × Nat)
  | 0, _, _ => []
  | n + 1, t, sp => match chO R cap D pr t sp m 0 with
    | none => []
    | some q => q :: gp m R cap D pr n (aft t q.1 q.2) (sp + q.2 * pr (aft t q.1 q.2))
def lry (l : List (Nat × Nat)) (i : Nat) : Nat := (l.getD i (0, 0)).1
def lfa (l : List (Nat × Nat)) (i : Nat) : Nat := (l.getD i (0, 0)).2
theorem chO_ok {m R : Nat} {cap : Nat → Int} {D pr : Nat → Int} {t : Nat} {sp : Int} : ∀ n r q, r + n ≤ m → chO R cap D pr t sp n r = some q → q.1 < m ∧ sp ≤ cap (gn t q.1 + 1) ∧ gn t q.1 < q.2 ∧ q.2 ≤ R ∧ okT D pr t sp q.1 q.2 = true := by
  intro n
  induction n with
  | zero => intro r q _ h; cases h
  | succ n ih =>
    intro r q hr h
    unfold chO at h
    split at h
    · rename_i hc
      cases hf : fnd (okT D pr t sp r) (R - gn t r) (gn t r + 1) with
      | none => rw [hf] at h; exact ih (r + 1) q (by omega) h
      | some s =>
        rw [hf] at h
        cases h
        have := fnd_in _ _ _ hf
        exact ⟨by show r < m; omega, hc, by show gn t r < s; omega, by show s ≤ R; omega, this.2.2⟩
    · exact ih (r + 1) q (by omega) h
section WR
variable {m R : Nat} {cap : Nat → Int} {pc : Nat → Nat → Int} {bs : Int} {σ : qSt} {D : Nat → Int}
theorem qlen11 : qlen 11 = 3 := rfl
def pp (pc : Nat → Nat → Int) (bs : Int) (t r s : Nat) : Nat → Int
  | 0 => bs
  | j + 1 => pp pc bs t r s j + pc j (if j = r then s else gn t j)
def ip (t r s : Nat) : Nat → Nat
  | 0 => 0
  | j + 1 => ip t r s j * 9 + (if j = r then s else gn t j)
theorem gn_le (t r : Nat) : gn t r ≤ 8 := by
  have : gn t r < 9 := Nat.mod_lt _ (by decide)
  omega
theorem e_costOf_8 (hO : OL σ m R cap pc bs) {t r s : Nat} (hR : R ≤ 8) (hv : vst m R t) (hg : GN σ t) (hr : r < 3) (hs : s ≤ ln m R r) : ∀ n j, j ≤ 3 → 3 - j < n → fX1_costOf_8 6 n (nI r) (nI s) (iI (pp pc bs t r s j)) (nI j) σ = some (iI (pp pc bs t r s 3 * s), σ) := by
  intro n
  have hl := ln_le (m := m) (R := R) (r := r)
  induction n with
  | zero => intro j h1 h2; omega
  | succ n ih =>
    intro j h1 h2
    unfold fX1_costOf_8 fX1_costOf_43
    rcases Nat.lt_or_ge j 3 with hj | hj
    · have hgj := gn_le t j
      have ih' := ih (j + 1) (by omega) (by omega)
      rw [if_neg (by show ¬ nI 3 ≤ nI j; exact nI_ge hj (by omega))]
      by_cases he : j = r
      · subst he
        rw [if_pos rfl, e_ix]
        show qb (fX3_at 8 _ σ) _ = _
        rw [qb_ok (e_at (by rw [qlen8]; omega)), hO.2.2.2.2 j s hj hs, iI_add, nI_1]
        rw [pp, if_pos rfl] at ih'
        exact ih'
      · rw [if_neg (by rw [nI_eq (by omega) (by omega)]; exact he)]
        show qb (fX3_at 11 _ σ) _ = _
        rw [qb_ok (e_at (by rw [qlen11]; omega)), hg j hj, e_ix]
        show qb (fX3_at 8 _ σ) _ = _
        rw [qb_ok (e_at (by rw [qlen8]; omega)), hO.2.2.2.2 j _ hj (hv.2 j hj), iI_add, nI_1]
        rw [pp, if_neg he] at ih'
        exact ih'
    · have : j = 3 := by omega
      subst this
      rw [if_pos (by show nI 3 ≤ nI 3; exact nI_le (Nat.le_refl _) (by omega)), iI_n s, iI_mul]
theorem pp3 {t r s : Nat} (hR : R ≤ 8) (hv : vst m R t) (hr : r < 3) (h1 : gn t r < s) (h2 : s ≤ ln m R r) : pp pc bs t r s 3 = prS pc bs (aft t r s) := by
  have ha := aft_gn hR hv hr h1 h2
  have key : ∀ q, q < 3 → gn (aft t r s) q = if q = r then s else gn t q := by
    intro q hq
    by_cases he : q = r
    · rw [if_pos he, he]; exact ha.2.1
    · rw [if_neg he]; exact ha.2.2.1 q hq he
  unfold prS
  rw [key 0 (by omega), key 1 (by omega), key 2 (by omega)]
  rfl
theorem e_costOf (hO : OL σ m R cap pc bs) {t r s : Nat} (hR : R ≤ 8) (hv : vst m R t) (hg : GN σ t) (hr : r < 3) (h1 : gn t r < s) (hs : s ≤ ln m R r) : fX1_costOf 6 (nI r) (nI s) σ = some (iI (s * prS pc bs (aft t r s)), σ) := by
  unfold fX1_costOf
  rw [hO.2.2.1]
  have := e_costOf_8 hO hR hv hg hr hs qfu 0 (by omega) (by unfold qfu; omega)
  rw [pp3 hR hv hr h1 hs, Int.mul_comm] at this
  exact this
theorem e_stateAfter_5 {t r s : Nat} (hg : GN σ t) (hr : r < 3) (hs : s ≤ 8) : ∀ n j, j ≤ 3 → 3 - j < n → fX1_stateAfter_5 6 n (nI r) (nI s) (nI (ip t r s j)) (nI j) σ = some (nI (ip t r s 3), σ) := by
  intro n
  induction n with
  | zero => intro j h1 h2; omega
  | succ n ih =>
    intro j h1 h2
    unfold fX1_stateAfter_5
    rcases Nat.lt_or_ge j 3 with hj | hj
    · have hgj := gn_le t j
      have ih' := ih (j + 1) (by omega) (by omega)
      rw [if_neg (by show ¬ nI 3 ≤ nI j; exact nI_ge hj (by omega))]
      by_cases he : j = r
      · subst he
        rw [if_pos rfl, show (9 : Int32) = nI 9 from rfl, pk_mul, nI_add, nI_1]
        rw [ip, if_pos rfl] at ih'
        exact ih'
      · rw [if_neg (by rw [nI_eq (by omega) (by omega)]; exact he)]
        show qb (fX3_at 11 _ σ) _ = _
        rw [qb_ok (e_at (by rw [qlen11]; omega)), hg j hj, show (9 : Int32) = nI 9 from rfl, pk_mul, nI_add, nI_1]
        rw [ip, if_neg he] at ih'
        exact ih'
    · have : j = 3 := by omega
      subst this
      rw [if_pos (by show nI 3 ≤ nI 3; exact nI_le (Nat.le_refl _) (by omega))]
theorem e_stateAfter {t r s : Nat} (hR : R ≤ 8) (hv : vst m R t) (hg : GN σ t) (hr : r < 3) (h1 : gn t r < s) (h2 : s ≤ ln m R r) : fX1_stateAfter 6 (nI r) (nI s) σ = some (nI (cx (aft t r s)), σ) := by
  have hl := ln_le (m := m) (R := R) (r := r)
  have ha := aft_gn hR hv hr h1 h2
  have key : ∀ q, q < 3 → gn (aft t r s) q = if q = r then s else gn t q := by
    intro q hq
    by_cases he : q = r
    · rw [if_pos he, he]; exact ha.2.1
    · rw [if_neg he]; exact ha.2.2.1 q hq he
  have e3 : ip t r s 3 = cx (aft t r s) := by
    unfold cx
    rw [key 0 (by omega), key 1 (by omega), key 2 (by omega)]
    unfold ip ip ip ip
    omega
  unfold fX1_stateAfter
  have := e_stateAfter_5 hg hr (s := s) (by omega) qfu 0 (by omega) (by unfold qfu; omega)
  rw [e3] at this
  exact this
theorem cx_lt (t : Nat) : cx t < 729 := by
  have h0 := gn_le t 0
  have h1 := gn_le t 1
  have h2 := gn_le t 2
  unfold cx
  omega
theorem e_firstTrip_39 (hm : okm m R) (hO : OL σ m R cap pc bs) (hMS : MS σ m R D) {t r : Nat} {sp : Int} (hv : vst m R t) (hg : GN σ t) (hr : r < m) (hsp : -12000000 ≤ sp ∧ sp ≤ 10000000) (hDb : ∀ t, vst m R t → -12000000 ≤ D t ∧ D t ≤ 10000000) (hpb : ∀ t, vst m R t → 0 ≤ prS pc bs t ∧ prS pc bs t ≤ 10000) {f : Int32 → Int32 → qSt → qR} : ∀ n s, gn t r < s → s ≤ R + 1 → R + 1 - s < n → fX1_firstTrip_39 6 f n (iI sp) (nI r) (nI s) σ = (match fnd (okT D (prS pc bs) t sp r) (R + 1 - s) s with
    | some s' => some (nI (10 * r + s'), σ)
    | none => f (iI sp) (nI (r + 1)) σ) := by
  intro n
  have hR := hm.2.2
  have hm1 := hm.1
  have hln : ln m R r = R := by unfold ln; rw [if_pos hr]
  induction n with
  | zero => intro s h1 h2 h3; omega
  | succ n ih =>
    intro s h1 h2 h3
    unfold fX1_firstTrip_39
    rcases Nat.lt_or_ge R s with hs | hs
    · rw [if_pos (by rw [hO.2.1]; exact nI_lt hs (by omega)), show R + 1 - s = 0 by omega, nI_1]
      rfl
    · have ha := aft_gn hR hv (r := r) (by omega) h1 (by omega)
      have hcx := cx_lt (aft t r s)
      have d1 := hDb _ ha.1
      have p1 := hpb _ ha.1
      have m1 : (s : Int) * prS pc bs (aft t r s) ≤ 8 * 10000 := Int.mul_le_mul (by omega) p1.2 p1.1 (by omega)
      have m2 : 0 ≤ (s : Int) * prS pc bs (aft t r s) := Int.mul_nonneg (by omega) p1.1
      rw [if_neg (by rw [hO.2.1]; exact nI_nlt hs (by omega)), qb_ok (e_costOf hO hR hv hg (by omega) h1 (by omega)), qb_ok (e_stateAfter hR hv hg (by omega) h1 (by omega))]
      show qb (fX3_at 9 _ σ) _ = _
      rw [qb_ok (e_at (by rw [qlen9]; omega)), hMS _ ha.1, iI_add, nI_1, show R + 1 - s = (R + 1 - (s + 1)) + 1 by omega, fnd]
      by_cases hq : sp + s * prS pc bs (aft t r s) ≤ D (aft t r s)
      · rw [if_neg (by rw [iI_lt (by unfold bd; omega) (by unfold bd; omega)]; omega), if_pos (by unfold okT; exact decide_eq_true hq), show (10 : Int32) = nI 10 from rfl, pk_mul, nI_add]
      · rw [if_pos (by rw [iI_lt (by unfold bd; omega) (by unfold bd; omega)]; omega), if_neg (by unfold okT; simpa using hq), ih (s + 1) (by omega) (by omega) (by omega)]
theorem e_firstTrip_2 (hm : okm m R) (hO : OL σ m R cap pc bs) (hMS : MS σ m R D) {t : Nat} {sp : Int} (hv : vst m R t) (hg : GN σ t) (hsp : -12000000 ≤ sp ∧ sp ≤ 10000000) (hDb : ∀ t, vst m R t → -12000000 ≤ D t ∧ D t ≤ 10000000) (hcb : ∀ k, 1 ≤ k → k ≤ R → 0 ≤ cap k ∧ cap k ≤ BG) (hpb : ∀ t, vst m R t → 0 ≤ prS pc bs t ∧ prS pc bs t ≤ 10000) : ∀ n r, r ≤ m → m - r < n → fX1_firstTrip_2 6 n (iI sp) (nI r) σ = some ((match chO R cap D (prS pc bs) t sp (m - r) r with
    | some q => nI (10 * q.1 + q.2)
    | none => -6), σ) := by
  intro n
  have hR := hm.2.2
  have hm1 := hm.1
  have hBG : BG = 10000000 := rfl
  induction n with
  | zero => intro r h1 h2; omega
  | succ n ih =>
    intro r h1 h2
    unfold fX1_firstTrip_2
    rcases Nat.lt_or_ge r m with hr | hr
    · have hln : ln m R r = R := by unfold ln; rw [if_pos hr]
      have hgr := hv.2 r (by omega)
      have ih' := ih (r + 1) (by omega) (by omega)
      rw [if_neg (by rw [hO.1]; exact nI_ge hr (by omega))]
      show qb (fX3_at 11 _ σ) _ = _
      rw [qb_ok (e_at (by rw [qlen11]; omega)), hg r (by omega), nI_1, nI_1, show m - r = (m - (r + 1)) + 1 by omega, chO]
      show qb (fX3_at 7 _ σ) _ = _
      rcases Nat.lt_or_ge (gn t r) R with hlt | hge
      · have hck := hcb (gn t r + 1) (by omega) (by omega)
        rw [qb_ok (e_at (by rw [qlen7]; omega)), hO.2.2.2.1 (gn t r + 1) (by omega) (by omega)]
        by_cases hq : sp ≤ cap (gn t r + 1)
        · rw [if_pos ((iI_le (by unfold bd; omega) (by unfold bd; omega)).mpr hq), if_pos hq, e_firstTrip_39 hm hO hMS hv hg hr hsp hDb hpb qfu (gn t r + 1) (by omega) (by omega) (by unfold qfu; omega), show R + 1 - (gn t r + 1) = R - gn t r by omega]
          cases fnd (okT D (prS pc bs) t sp r) (R - gn t r) (gn t r + 1) with
          | some s => rfl
          | none => exact ih'
        · rw [if_neg (fun z => hq ((iI_le (by unfold bd; omega) (by unfold bd; omega)).mp z)), if_neg hq]
          exact ih'
      · have hall : (if sp ≤ cap (gn t r + 1) then (match fnd (okT D (prS pc bs) t sp r) (R - gn t r) (gn t r + 1) with
            | some s => some (r, s)
            | none => chO R cap D (prS pc bs) t sp (m - (r + 1)) (r + 1)) else chO R cap D (prS pc bs) t sp (m - (r + 1)) (r + 1)) = chO R cap D (prS pc bs) t sp (m - (r + 1)) (r + 1) := by
          rw [show R - gn t r = 0 by omega]
          split <;> rfl
        rw [hall]
        have hat : ∃ v, fX3_at 7 (nI (gn t r + 1)) σ = some (v, σ) := by
          have := gn_le t r
          rcases Nat.lt_or_ge (gn t r + 1) 9 with q | q
          · exact ⟨_, e_at (by rw [qlen7]; omega)⟩
          · exact ⟨_, e_at_out (by rw [qlen7]; omega) (by omega)⟩
        obtain ⟨v, hv'⟩ := hat
        rw [qb_ok hv']
        by_cases hq : iI sp ≤ v
        · rw [if_pos hq, e_firstTrip_39 hm hO hMS hv hg hr hsp hDb hpb qfu (gn t r + 1) (by omega) (by omega) (by unfold qfu; omega), show R + 1 - (gn t r + 1) = 0 by omega]
          exact ih'
        · rw [if_neg hq]
          exact ih'
    · rw [if_pos (by rw [hO.1]; exact nI_le hr (by omega)), show m - r = 0 by omega]
      rfl
theorem e_firstTrip (hm : okm m R) (hO : OL σ m R cap pc bs) (hMS : MS σ m R D) {t : Nat} {sp : Int} (hv : vst m R t) (hg : GN σ t) (hsp : -12000000 ≤ sp ∧ sp ≤ 10000000) (hDb : ∀ t, vst m R t → -12000000 ≤ D t ∧ D t ≤ 10000000) (hcb : ∀ k, 1 ≤ k → k ≤ R → 0 ≤ cap k ∧ cap k ≤ BG) (hpb : ∀ t, vst m R t → 0 ≤ prS pc bs t ∧ prS pc bs t ≤ 10000) : fX1_firstTrip 6 (iI sp) σ = some ((match chO R cap D (prS pc bs) t sp m 0 with
    | some q => nI (10 * q.1 + q.2)
    | none => -6), σ) := by
  have hm1 := hm.1
  exact e_firstTrip_2 hm hO hMS hv hg hsp hDb hcb hpb qfu 0 (by omega) (by unfold qfu; omega)
end WR
