/-! ===== pure: the model's row for the least mean ===== -/
def lE (K : Nat) (m R : Nat) (sh : Nat → Nat → Nat) (t : Nat) : Int := (K : Int) * (BG - dM m R sh t)
def wS (lf : Nat → Int) : Nat → Nat → Int → Int
  | 0, _, v => v
  | k + 1, s, v => wS lf k (s + 1) (min v (lf s))
theorem k_mono {K : Nat} {a b : Int} (h : a ≤ b) : (K : Int) * (BG - b) ≤ (K : Int) * (BG - a) := Int.mul_le_mul_of_nonneg_left (by omega) (Int.natCast_nonneg K)
theorem k_max {K : Nat} {a b : Int} : min ((K : Int) * (BG - a)) ((K : Int) * (BG - b)) = (K : Int) * (BG - max a b) := by
  rcases Int.le_total a b with h | h
  · rw [Int.max_eq_right h, Int.min_eq_right (k_mono h)]
  · rw [Int.max_eq_left h, Int.min_eq_left (k_mono h)]
theorem wS_eq {K : Nat} {f : Nat → Int} : ∀ k s v, wS (fun i => (K : Int) * (BG - f i)) (k + 1) s v = min v ((K : Int) * (BG - mxx f k s)) := by
  intro k
  induction k with
  | zero => intro s v; rfl
  | succ k ih =>
    intro s v
    rw [wS, ih (s + 1) _, mxx, ← k_max]
    omega
section LEAST
variable {σ : qSt} {m R o bk : Nat} {sh : Nat → Nat → Nat}
theorem rsS_pr (hm : okm m R) (t : Nat) : ((rsS sh R t m 0 : Nat) : Int) = prM m R sh t := by
  unfold prM prS
  dsimp only
  rcases hm.1 with e | e
  · subst e
    show ((rsS sh R t 2 0 : Nat) : Int) = _
    unfold rsS rsS rsS uf
    rw [if_pos (by omega), if_pos (by omega), if_neg (by omega)]
    unfold gn
    simp only [Nat.reduceAdd]
    omega
  · subst e
    show ((rsS sh R t 3 0 : Nat) : Int) = _
    unfold rsS rsS rsS rsS uf
    rw [if_pos (by omega), if_pos (by omega), if_pos (by omega)]
    unfold gn
    simp only [Nat.reduceAdd]
    omega
theorem MO.keep {σ σ' : qSt} (h : MO σ o bk) (hf : ∀ j, j = 2 ∨ j = 3 → σ' 18 j = σ 18 j) : MO σ' o bk := ⟨(hf 2 (by omega)).trans h.1, (hf 3 (by omega)).trans h.2.1, h.2.2⟩
theorem e_adds (hG : MG σ m R sh) (hO : MO σ o bk) (hm : okm m R) {t s : Nat} (hv : vst m R t) : fX4_adds 18 (nI t) (nI s) σ = some (iI ((s : Int) * ((o + bk : Nat) : Int) * prM m R sh t), σ) := by
  have hm1 := hm.1
  unfold fX4_adds
  rw [qb_ok (e_rest hG (by have := hv.1; omega) (fun r hr => by
    have := hv.2 r (by omega)
    have hl := ln_le (m := m) (R := R) (r := r)
    show gn t r ≤ R
    omega)), hO.1, hO.2.1, nI_add, iI_n, iI_n, iI_n, rsS_pr hm, iI_mul, iI_mul]
theorem dM_b (hm : okm m R) (hs : ∀ r s, r < m → 1 ≤ s → s ≤ R → sh r s ≤ 100) {t : Nat} (hv : vst m R t) : -12000000 ≤ dM m R sh t ∧ dM m R sh t ≤ 10000000 := dD_b hm.2.2 (okc_M (m := m) hm.2.2 hs).1 (okc_M (m := m) hm.2.2 hs).2 hv
theorem prM_b (hm : okm m R) (hs : ∀ r s, r < m → 1 ≤ s → s ≤ R → sh r s ≤ 100) (t : Nat) : 0 ≤ prM m R sh t ∧ prM m R sh t ≤ 2400 := by
  have h0 := uf_le (m := m) (sh := sh) hm.2.2 hs 0 (gn t 0)
  have h1 := uf_le (m := m) (sh := sh) hm.2.2 hs 1 (gn t 1)
  have h2 := uf_le (m := m) (sh := sh) hm.2.2 hs 2 (gn t 2)
  unfold prM prS
  dsimp only
  omega
theorem lE_b (hm : okm m R) (hs : ∀ r s, r < m → 1 ≤ s → s ≤ R → sh r s ≤ 100) {K t : Nat} (hK : K ≤ 18) (hv : vst m R t) : 0 ≤ lE K m R sh t ∧ lE K m R sh t ≤ 396000000 := by
  have h := dM_b hm hs hv
  have hB : BG = 10000000 := rfl
  unfold lE
  constructor
  · exact Int.mul_nonneg (Int.natCast_nonneg _) (by omega)
  · have := Int.mul_le_mul (show (K : Int) ≤ 18 by omega) (show BG - dM m R sh t ≤ 22000000 by omega) (by omega) (by omega)
    omega
/-- a candidate: a trip and what comes behind it -/
theorem cand_eq {K t r s : Nat} : (s : Int) * (K : Int) * prM m R sh (aft t r s) + lE K m R sh (aft t r s) = (K : Int) * (BG - tv (prM m R sh) (dM m R sh) t r s) := by
  unfold lE tv
  rw [Int.mul_sub, Int.mul_sub, Int.mul_sub, Int.mul_comm (s : Int) (K : Int), Int.mul_assoc]
  omega
theorem e_layLeast_55 {σ1 : qSt} (hG : MG σ1 m R sh) (hO : MO σ1 o bk) (hm : okm m R) {t r : Nat} (hv : vst m R t) (hr : r < m) (hE : ∀ s, gn t r < s → s ≤ R → σ1 22 (aft t r s) = iI (lE (o + bk) m R sh (aft t r s))) {f : Int32 → Int32 → qSt → qR} : ∀ n s v, gn t r < s → s ≤ R + 1 → R + 1 - s < n → (-10 ≤ v ∧ v ≤ 1000000000) →
    fX4_layLeast_55 18 f n (nI t) (nI r) (nI s) (qset σ1 22 t (iI v)) = f (nI t) (nI (r + 1)) (qset σ1 22 t (iI (wS (fun s => ((o + bk : Nat) : Int) * (BG - tv (prM m R sh) (dM m R sh) t r s)) (R + 1 - s) s v))) := by
  intro n
  have hR := hm.2.2
  have hm1 := hm.1
  have hs : ∀ r s, r < m → 1 ≤ s → s ≤ R → sh r s ≤ 100 := fun r s a b c => (hG.2.2.2 r s a b c).2
  have hln : ln m R r = R := by unfold ln; rw [if_pos hr]
  have ht := hv.1
  have ho := hO.2.2
  induction n with
  | zero => intro s v h1 h2 h3 _; omega
  | succ n ih =>
    intro s v h1 h2 h3 hvb
    have hG1 : MG (qset σ1 22 t (iI v)) m R sh := hG.keep (fun k j hk => qset_ne (by omega))
    have hO1 : MO (qset σ1 22 t (iI v)) o bk := hO.keep (fun j hj => qset_ne (by omega))
    unfold fX4_layLeast_55
    rw [hG1.2.1]
    rcases Nat.lt_or_ge R s with hsR | hsR
    · rw [if_pos (nI_lt hsR (by omega)), show R + 1 - s = 0 by omega, nI_1]
      rfl
    · have ha := aft_gn hR hv (r := r) (by omega) h1 (by omega)
      have hat := ha.1.1
      have hEs := hE s h1 hsR
      have hlb := lE_b (K := o + bk) hm hs (by omega) ha.1
      have hpb := prM_b hm hs (aft t r s)
      have hqa : qin (nI (aft t r s)) (qlen (18 + 4)) = true := (qin_nI (by omega)).mpr (by show _ < 729; omega)
      have hqt : qin (nI t) (qlen (18 + 4)) = true := (qin_nI (by omega)).mpr (by show _ < 729; omega)
      rw [if_neg (nI_nlt hsR (by omega)), qb_ok (e_gone (by omega) (by omega)), qb_ok (e_nines (by omega))]
      show qb (fX4_adds 18 (nI t + (nI s - nI (gn t r)) * nI (9 ^ r)) (nI s) _) _ = _
      rw [e_behind2 h1, qb_ok (e_adds hG1 hO1 hm ha.1)]
      show (if qin (nI t + (nI s - nI (gn t r)) * nI (9 ^ r)) (qlen (18 + 4)) = true then (if qin (nI t) (qlen (18 + 4)) = true then (if (qset σ1 22 t (iI v)) 22 (Int32.toNatClampNeg (nI t)) ≤ _ + (qset σ1 22 t (iI v)) 22 (Int32.toNatClampNeg (nI t + (nI s - nI (gn t r)) * nI (9 ^ r))) then (if _ then (if _ then fX4_layLeast_55 18 f n _ _ _ (qset (qset σ1 22 t (iI v)) 22 (Int32.toNatClampNeg (nI t)) ((qset σ1 22 t (iI v)) 22 (Int32.toNatClampNeg (nI t)))) else none) else none) else (if _ then fX4_layLeast_55 18 f n _ _ _ (qset (qset σ1 22 t (iI v)) 22 (Int32.toNatClampNeg (nI t)) (_ + (qset σ1 22 t (iI v)) 22 (Int32.toNatClampNeg (nI t + (nI s - nI (gn t r)) * nI (9 ^ r))))) else none)) else none) else none) = _
      rw [e_behind2 h1]
      simp only [hqa, hqt, eq_self, if_true]
      rw [nI_clamp (show t < 2 ^ 31 by omega), nI_clamp (show aft t r s < 2 ^ 31 by omega), nI_1, qset_same, qset_ne (by have := ha.2.2.2.1; omega), hEs, iI_add, cand_eq]
      have hcb : 0 ≤ ((o + bk : Nat) : Int) * (BG - tv (prM m R sh) (dM m R sh) t r s) ∧ ((o + bk : Nat) : Int) * (BG - tv (prM m R sh) (dM m R sh) t r s) ≤ 400000000 := by
        rw [← cand_eq]
        have m1 : (s : Int) * ((o + bk : Nat) : Int) ≤ 8 * 18 := Int.mul_le_mul (by omega) (by omega) (by omega) (by omega)
        have m0 : 0 ≤ (s : Int) * ((o + bk : Nat) : Int) := Int.mul_nonneg (by omega) (by omega)
        have m2 : (s : Int) * ((o + bk : Nat) : Int) * prM m R sh (aft t r s) ≤ 8 * 18 * 2400 := Int.mul_le_mul m1 hpb.2 hpb.1 (by omega)
        have m3 : 0 ≤ (s : Int) * ((o + bk : Nat) : Int) * prM m R sh (aft t r s) := Int.mul_nonneg m0 hpb.1
        omega
      have hend : (if iI v ≤ iI (((o + bk : Nat) : Int) * (BG - tv (prM m R sh) (dM m R sh) t r s)) then fX4_layLeast_55 18 f n (nI t) (nI r) (nI (s + 1)) (qset (qset σ1 22 t (iI v)) 22 t (iI v)) else fX4_layLeast_55 18 f n (nI t) (nI r) (nI (s + 1)) (qset (qset σ1 22 t (iI v)) 22 t (iI (((o + bk : Nat) : Int) * (BG - tv (prM m R sh) (dM m R sh) t r s))))) = fX4_layLeast_55 18 f n (nI t) (nI r) (nI (s + 1)) (qset σ1 22 t (iI (min v (((o + bk : Nat) : Int) * (BG - tv (prM m R sh) (dM m R sh) t r s))))) := by
        by_cases hq : v ≤ ((o + bk : Nat) : Int) * (BG - tv (prM m R sh) (dM m R sh) t r s)
        · rw [if_pos ((iI_le (by unfold bd; omega) (by unfold bd; omega)).mpr hq), Int.min_eq_left hq, qset_qset]
        · rw [if_neg (fun z => hq ((iI_le (by unfold bd; omega) (by unfold bd; omega)).mp z)), Int.min_eq_right (by omega), qset_qset]
      rw [hend, ih (s + 1) _ (by omega) (by omega) (by omega) (by omega), show R + 1 - s = (R + 1 - (s + 1)) + 1 by omega, wS]
def wR (m R : Nat) (sh : Nat → Nat → Nat) (K t : Nat) : Nat → Nat → Int → Int
  | 0, _, v => v
  | n + 1, r, v => wR m R sh K t n (r + 1) (wS (fun s => (K : Int) * (BG - tv (prM m R sh) (dM m R sh) t r s)) (R - gn t r) (gn t r + 1) v)
theorem ray_min (hm : okm m R) (hs : ∀ r s, r < m → 1 ≤ s → s ≤ R → sh r s ≤ 100) {K t r : Nat} (hv : vst m R t) (hr : r < m) (v : Int) : wS (fun s => (K : Int) * (BG - tv (prM m R sh) (dM m R sh) t r s)) (R - gn t r) (gn t r + 1) v = if gn t r < R then min v ((K : Int) * (BG - thr m R capM (prM m R sh) BG (dM m R sh) t r)) else v := by
  have hm1 := hm.1
  have hln : ln m R r = R := by unfold ln; rw [if_pos hr]
  by_cases hg : gn t r < R
  · rw [if_pos hg, show R - gn t r = (R - gn t r - 1) + 1 by omega, wS_eq]
    unfold thr
    rw [if_pos (by omega), hln]
    have hle : mxx (tv (prM m R sh) (dM m R sh) t r) (R - gn t r - 1) (gn t r + 1) ≤ BG := by
      rw [mxx_le]
      intro i h1 h2
      have ha := aft_gn hm.2.2 hv (r := r) (s := i) (by omega) (by omega) (by omega)
      have h3 := (dM_b hm hs ha.1).2
      have h4 : 0 ≤ (i : Int) * prM m R sh (aft t r i) := Int.mul_nonneg (by omega) (prM_b hm hs _).1
      have hB : BG = 10000000 := rfl
      unfold tv
      omega
    show _ = min v ((K : Int) * (BG - min BG _))
    rw [Int.min_eq_right hle]
  · rw [if_neg hg, show R - gn t r = 0 by omega]
    rfl
theorem dM_lst (hm : okm m R) : dM m R sh (lst m R) = BG := by
  have heq : dM m R sh (lst m R) = dst m R capM (prM m R sh) BG (dM m R sh) (lst m R) := dD_eq hm.2.2 (lst_ok hm.1 hm.2.2).1
  rw [heq]
  unfold dst
  rw [if_pos rfl]
/-- a trip gives a lower bound -/
theorem dM_ge (hm : okm m R) (hs : ∀ r s, r < m → 1 ≤ s → s ≤ R → sh r s ≤ 100) {t r s : Nat} (hv : vst m R t) (hr : r < 3) (h1 : gn t r < s) (h2 : s ≤ ln m R r) : tv (prM m R sh) (dM m R sh) t r s ≤ dM m R sh t := by
  have hR := hm.2.2
  have ha := aft_gn hR hv hr h1 h2
  have hb := (dM_b hm hs ha.1).2
  have hB : BG = 10000000 := rfl
  have h4 : 0 ≤ (s : Int) * prM m R sh (aft t r s) := Int.mul_nonneg (by omega) (prM_b hm hs _).1
  have hthr : tv (prM m R sh) (dM m R sh) t r s ≤ thr m R capM (prM m R sh) BG (dM m R sh) t r := by
    unfold thr
    rw [if_pos (by omega)]
    have q1 : tv (prM m R sh) (dM m R sh) t r s ≤ mxx (tv (prM m R sh) (dM m R sh) t r) (ln m R r - gn t r - 1) (gn t r + 1) := (le_mxx _ _).mpr ⟨s, by omega, by omega, Int.le_refl _⟩
    have q2 : tv (prM m R sh) (dM m R sh) t r s ≤ BG := by unfold tv; omega
    show _ ≤ min BG _
    omega
  have heq : dM m R sh t = dst m R capM (prM m R sh) BG (dM m R sh) t := dD_eq hR hv
  rw [heq]
  unfold dst
  rw [if_neg (by
    intro hl
    have := (lst_iff hm.1 hR hv).mp hl r hr
    omega)]
  rcases (show r = 0 ∨ r = 1 ∨ r = 2 by omega) with rfl | rfl | rfl <;> omega
theorem dM_low (hm : okm m R) (hs : ∀ r s, r < m → 1 ≤ s → s ≤ R → sh r s ≤ 100) : ∀ n t, vst m R t → mu m R t ≤ n → BG - 19200 * (n : Int) ≤ dM m R sh t := by
  intro n
  have hR := hm.2.2
  induction n with
  | zero =>
    intro t hv hmu
    have hl : t = lst m R := by
      rw [lst_iff hm.1 hR hv]
      intro r hr
      have := hv.2 r hr
      unfold mu at hmu
      rcases (show r = 0 ∨ r = 1 ∨ r = 2 by omega) with rfl | rfl | rfl <;> omega
    rw [hl, dM_lst hm]
    omega
  | succ n ih =>
    intro t hv hmu
    by_cases hl : t = lst m R
    · rw [hl, dM_lst hm]
      omega
    · have hex : ∃ r, r < 3 ∧ gn t r < ln m R r := by
        apply Classical.byContradiction
        intro hno
        apply hl
        rw [lst_iff hm.1 hR hv]
        intro r hr
        have := hv.2 r hr
        rcases Nat.lt_or_ge (gn t r) (ln m R r) with q | q
        · exact absurd ⟨r, hr, q⟩ hno
        · omega
      obtain ⟨r, hr, hg⟩ := hex
      have hln := ln_le (m := m) (R := R) (r := r)
      have ha := aft_gn hR hv hr (s := gn t r + 1) (by omega) (by omega)
      have h1 := ih _ ha.1 (by omega)
      have h2 := dM_ge hm hs hv hr (s := gn t r + 1) (by omega) (by omega)
      have hpb := prM_b hm hs (aft t r (gn t r + 1))
      have m1 : ((gn t r + 1 : Nat) : Int) * prM m R sh (aft t r (gn t r + 1)) ≤ 8 * 2400 := Int.mul_le_mul (by omega) hpb.2 hpb.1 (by omega)
      unfold tv at h2
      omega
theorem wR_eq (hm : okm m R) (hs : ∀ r s, r < m → 1 ≤ s → s ≤ R → sh r s ≤ 100) {K t : Nat} (hK : K ≤ 18) (hv : vst m R t) (hl : ¬ t = lst m R) : wR m R sh K t m 0 1000000000 = lE K m R sh t := by
  have hR := hm.2.2
  have hB : BG = 10000000 := rfl
  have hlow := dM_low hm hs 24 t hv (mu_le hR t)
  have hlb := lE_b (K := K) hm hs hK hv
  have heq : dM m R sh t = dst m R capM (prM m R sh) BG (dM m R sh) t := dD_eq hR hv
  unfold dst at heq
  rw [if_neg hl] at heq
  have hth : ∀ r, r < 3 → ¬ gn t r < ln m R r → thr m R capM (prM m R sh) BG (dM m R sh) t r = -BG := fun r _ h => by unfold thr; rw [if_neg h]
  have h0 := hth 0 (by omega)
  have h1 := hth 1 (by omega)
  have h2 := hth 2 (by omega)
  have l0 : ln m R 0 = R := by unfold ln; rw [if_pos (by have := hm.1; omega)]
  have l1 : ln m R 1 = R := by unfold ln; rw [if_pos (by have := hm.1; omega)]
  rw [l0] at h0
  rw [l1] at h1
  have r0 := ray_min (K := K) (t := t) (r := 0) hm hs hv (by have := hm.1; omega)
  have r1 := ray_min (K := K) (t := t) (r := 1) hm hs hv (by have := hm.1; omega)
  have r2 := ray_min (K := K) (t := t) (r := 2) hm hs hv
  unfold lE at hlb ⊢
  generalize thr m R capM (prM m R sh) BG (dM m R sh) t 0 = T0 at *
  generalize thr m R capM (prM m R sh) BG (dM m R sh) t 1 = T1 at *
  generalize thr m R capM (prM m R sh) BG (dM m R sh) t 2 = T2 at *
  have k0 := k_mono (K := K) (a := T0) (b := dM m R sh t) (by omega)
  have k1 := k_mono (K := K) (a := T1) (b := dM m R sh t) (by omega)
  have k2 := k_mono (K := K) (a := T2) (b := dM m R sh t) (by omega)
  have hone : dM m R sh t = T0 ∨ dM m R sh t = T1 ∨ dM m R sh t = T2 := by omega
  generalize hD : dM m R sh t = D at *
  have e0 : D = T0 → (K : Int) * (BG - D) = (K : Int) * (BG - T0) := fun h => by rw [h]
  have e1 : D = T1 → (K : Int) * (BG - D) = (K : Int) * (BG - T1) := fun h => by rw [h]
  have e2 : D = T2 → (K : Int) * (BG - D) = (K : Int) * (BG - T2) := fun h => by rw [h]
  generalize (K : Int) * (BG - D) = A at *
  generalize (K : Int) * (BG - T0) = A0 at *
  generalize (K : Int) * (BG - T1) = A1 at *
  generalize (K : Int) * (BG - T2) = A2 at *
  rcases hm.1 with e | e
  · have l2 : ln m R 2 = 0 := by unfold ln; rw [if_neg (by omega)]
    have h2' := h2 (by rw [l2]; omega)
    subst e
    show wR 2 R sh K t 2 0 1000000000 = _
    unfold wR wR wR
    rw [r0, r1]
    by_cases a0 : gn t 0 < R <;> by_cases a1 : gn t 1 < R
    · rw [if_pos a0, if_pos a1]; omega
    · rw [if_pos a0, if_neg a1]; have := h1 a1; omega
    · rw [if_neg a0, if_pos a1]; have := h0 a0; omega
    · have := h1 a1; have := h0 a0; omega
  · have l2 : ln m R 2 = R := by unfold ln; rw [if_pos (by omega)]
    rw [l2] at h2
    have r2 := r2 (by omega)
    subst e
    show wR 3 R sh K t 3 0 1000000000 = _
    unfold wR wR wR wR
    rw [r0, r1, r2]
    by_cases a0 : gn t 0 < R <;> by_cases a1 : gn t 1 < R <;> by_cases a2 : gn t 2 < R <;> simp only [a0, a1, a2, if_true, if_false] <;> (try have b0 := h0 a0) <;> (try have b1 := h1 a1) <;> (try have b2 := h2 a2) <;> omega
end LEAST
