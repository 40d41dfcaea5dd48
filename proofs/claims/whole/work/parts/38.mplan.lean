/-! ===== pure: the model's plan of the least mean is the class's ===== -/
section MPLAN
variable {σ : qSt} {m R o bk : Nat} {sh : Nat → Nat → Nat}
theorem wR_bd (hm : okm m R) (hs : ∀ r s, r < m → 1 ≤ s → s ≤ R → sh r s ≤ 100) {K t : Nat} (hv : vst m R t) : ∀ n r v, r + n ≤ m → (-10 ≤ v ∧ v ≤ 1000000000) → -10 ≤ wR m R sh K t n r v ∧ wR m R sh K t n r v ≤ 1000000000 := by
  intro n
  have hm1 := hm.1
  have hB : BG = 10000000 := rfl
  induction n with
  | zero => intro r v _ h; exact h
  | succ n ih =>
    intro r v h hb
    unfold wR
    refine ih (r + 1) _ (by omega) ?_
    rw [ray_min hm hs hv (by omega)]
    split
    · rename_i hg
      have : thr m R capM (prM m R sh) BG (dM m R sh) t r ≤ BG := by
        unfold thr
        split
        · exact Int.min_le_left _ _
        · omega
      have h2 : 0 ≤ (K : Int) * (BG - thr m R capM (prM m R sh) BG (dM m R sh) t r) := Int.mul_nonneg (Int.natCast_nonneg _) (by omega)
      omega
    · exact hb
theorem wR_lst (hm : okm m R) {K t : Nat} (hl : t = lst m R) : ∀ n r v, r + n ≤ m → wR m R sh K t n r v = v := by
  intro n
  have hm1 := hm.1
  induction n with
  | zero => intro r v _; rfl
  | succ n ih =>
    intro r v h
    unfold wR
    have := (lst_ok hm.1 hm.2.2).2 r (by omega)
    rw [← hl] at this
    unfold ln at this
    rw [if_pos (by omega)] at this
    rw [show R - gn t r = 0 by omega]
    exact ih (r + 1) v (by omega)
theorem e_layLeast_39 {σ1 : qSt} (hG : MG σ1 m R sh) (hO : MO σ1 o bk) (hm : okm m R) {t : Nat} (hv : vst m R t) (hE : ∀ t', t < t' → vst m R t' → σ1 22 t' = iI (lE (o + bk) m R sh t')) {f : Int32 → qSt → qR} : ∀ n r v, r ≤ m → m - r < n → (-10 ≤ v ∧ v ≤ 1000000000) →
    fX4_layLeast_39 18 f n (nI t) (nI r) (qset σ1 22 t (iI v)) = f (iI ((t : Int) - 1)) (qset σ1 22 t (iI (wR m R sh (o + bk) t (m - r) r v))) := by
  intro n
  have hR := hm.2.2
  have hm1 := hm.1
  have ht := hv.1
  have hs : ∀ r s, r < m → 1 ≤ s → s ≤ R → sh r s ≤ 100 := fun r s a b c => (hG.2.2.2 r s a b c).2
  induction n with
  | zero => intro r v h1 h2 _; omega
  | succ n ih =>
    intro r v h1 h2 hb
    unfold fX4_layLeast_39
    have e0 : (qset σ1 22 t (iI v)) 18 0 = nI m := by rw [qset_ne (by omega)]; exact hG.1
    rw [e0]
    rcases Nat.lt_or_ge r m with hr | hr
    · have hln : ln m R r = R := by unfold ln; rw [if_pos hr]
      have hgr := hv.2 r (by omega)
      rw [if_neg (nI_ge hr (by omega)), qb_ok (e_gone (by omega) (by omega))]
      show fX4_layLeast_55 18 _ qfu (nI t) (nI r) (nI (gn t r) + 1) _ = _
      rw [nI_1, e_layLeast_55 hG hO hm hv hr (fun s q1 q2 => by
        have ha := aft_gn hR hv (r := r) (s := s) (by omega) q1 (by omega)
        exact hE _ ha.2.2.2.1 ha.1) qfu (gn t r + 1) v (by omega) (by omega) (by unfold qfu; omega) hb]
      have hvb := wR_bd (K := o + bk) hm hs hv 1 r v (by omega) hb
      have := ih (r + 1) _ (by omega) (by omega) hvb
      rw [show m - r = (m - (r + 1)) + 1 by omega, wR, show R + 1 - (gn t r + 1) = R - gn t r by omega]
      exact this
    · rw [if_pos (nI_le hr (by omega)), show m - r = 0 by omega, nI_m1]
      rfl
def PTL (σ0 σ : qSt) (m R K : Nat) (sh : Nat → Nat → Nat) (p : Nat) : Prop := (∀ k j, k ≠ 22 → σ k j = σ0 k j) ∧ ∀ t, p ≤ t → vst m R t → σ 22 t = iI (lE K m R sh t)
theorem e_layLeast_5 {σ0 : qSt} (hG : MG σ0 m R sh) (hO : MO σ0 o bk) (hm : okm m R) : ∀ n p σ, PTL σ0 σ m R (o + bk) sh p → p ≤ lst m R + 1 → p < n → ∃ σ', PTL σ0 σ' m R (o + bk) sh 0 ∧ fX4_layLeast_5 18 n (iI ((p : Int) - 1)) σ = some (0, σ') := by
  intro n
  have hR := hm.2.2
  have hm1 := hm.1
  have hl729 := (lst_ok hm.1 hR).1.1
  have hs : ∀ r s, r < m → 1 ≤ s → s ≤ R → sh r s ≤ 100 := fun r s a b c => (hG.2.2.2 r s a b c).2
  have ho := hO.2.2
  induction n with
  | zero => intro p σ _ _ h; omega
  | succ n ih =>
    intro p σ hP h1 h2
    match p, h1, h2, hP with
    | 0, _, _, hP =>
      refine ⟨σ, hP, ?_⟩
      unfold fX4_layLeast_5
      rw [if_pos (by show iI (((0 : Nat) : Int) - 1) < 0; exact iI_m1)]
    | t + 1, h1, h2, hP =>
      have hGs : MG σ m R sh := hG.keep (fun k j hk => hP.1 k j (by omega))
      have hOs : MO σ o bk := hO.keep (fun j hj => hP.1 18 j (by omega))
      have ht : t < 729 := by omega
      unfold fX4_layLeast_5
      rw [i_pred, if_neg (nI_pos (by omega)), qb_ok (e_isState hGs (by omega)), nI_m1]
      by_cases hvb : vsb m R t = true
      · have hv := (vsb_iff hm ht).mp hvb
        have hE : ∀ t', t < t' → vst m R t' → σ 22 t' = iI (lE (o + bk) m R sh t') := fun t' q1 q2 => hP.2 t' (by omega) q2
        have hqt : qin (nI t) (qlen (18 + 4)) = true := (qin_nI (by omega)).mpr (by show _ < 729; omega)
        have step : ∀ w : Int, (-10 ≤ w ∧ w ≤ 1000000000) → wR m R sh (o + bk) t m 0 w = lE (o + bk) m R sh t → ∃ σ', PTL σ0 σ' m R (o + bk) sh 0 ∧ fX4_layLeast_39 18 (fun z1 sg => fX4_layLeast_5 18 n z1 sg) qfu (nI t) (nI 0) (qset σ 22 t (iI w)) = some (0, σ') := by
          intro w hw hvr
          have hP' : PTL σ0 (qset σ 22 t (iI (lE (o + bk) m R sh t))) m R (o + bk) sh t := by
            refine ⟨fun k j hk => by rw [qset_ne (by omega)]; exact hP.1 k j hk, fun t' q1 q2 => ?_⟩
            by_cases he : t' = t
            · subst he; exact qset_same
            · rw [qset_ne (by omega)]; exact hP.2 t' (by omega) q2
          obtain ⟨σ', z1, z2⟩ := ih t _ hP' (by omega) (by omega)
          refine ⟨σ', z1, ?_⟩
          rw [e_layLeast_39 hGs hOs hm hv hE qfu 0 w (by omega) (by unfold qfu; omega) hw]
          show fX4_layLeast_5 18 n _ (qset σ 22 t (iI (wR m R sh (o + bk) t m 0 w))) = _
          rw [hvr]
          exact z2
        rw [if_pos hvb, if_neg q10, qb_ok (e_lastState hGs)]
        simp only [hqt, eq_self, if_true]
        rw [nI_clamp (by omega)]
        by_cases hl : t = lst m R
        · rw [if_pos (by rw [hl])]
          show ∃ σ', _ ∧ fX4_layLeast_39 18 _ qfu _ (nI 0) (qset σ 22 t (0 : Int32)) = _
          rw [show (0 : Int32) = iI 0 from rfl]
          refine step 0 ⟨by decide, by decide⟩ ?_
          rw [wR_lst hm hl m 0 _ (by omega)]
          unfold lE
          rw [hl, dM_lst hm, Int.sub_self, Int.mul_zero]
        · rw [if_neg (by rw [nI_eq (by omega) (by omega)]; exact hl)]
          show ∃ σ', _ ∧ fX4_layLeast_39 18 _ qfu _ (nI 0) (qset σ 22 t (1000000000 : Int32)) = _
          rw [show (1000000000 : Int32) = iI 1000000000 from by decide]
          refine step 1000000000 ⟨by decide, by decide⟩ ?_
          exact wR_eq hm hs (by omega) hv hl
      · rw [if_neg hvb, if_pos rfl]
        refine ih t σ ⟨hP.1, fun t' q1 q2 => ?_⟩ (by omega) (by omega)
        by_cases he : t' = t
        · subst he
          exact absurd ((vsb_iff hm ht).mpr q2) hvb
        · exact hP.2 t' (by omega) q2
theorem vst_le (hm : okm m R) {t : Nat} (hv : vst m R t) : t ≤ lst m R := by
  have hR := hm.2.2
  have h0 := hv.2 0 (by omega)
  have h1 := hv.2 1 (by omega)
  have h2 := hv.2 2 (by omega)
  have hi := tt_inv hv.1
  have hi2 := tt_inv (lst_ok hm.1 hR).1.1
  have k := (lst_ok hm.1 hR).2
  rw [k 0 (by omega), k 1 (by omega), k 2 (by omega)] at hi2
  unfold tt at hi hi2
  omega
theorem e_layLeast (hG : MG σ m R sh) (hO : MO σ o bk) (hm : okm m R) : ∃ σ', fX4_layLeast 18 σ = some (0, σ') ∧ (∀ k j, k ≠ 22 → σ' k j = σ k j) ∧ ∀ t, vst m R t → σ' 22 t = iI (lE (o + bk) m R sh t) := by
  have hl729 := (lst_ok hm.1 hm.2.2).1.1
  have hP : PTL σ σ m R (o + bk) sh (lst m R + 1) := ⟨fun _ _ _ => rfl, fun t q1 q2 => by have := vst_le hm q2; omega⟩
  obtain ⟨σ', z1, z2⟩ := e_layLeast_5 hG hO hm qfu (lst m R + 1) σ hP (Nat.le_refl _) (by unfold qfu; omega)
  refine ⟨σ', ?_, z1.1, fun t hv => z1.2 t (by omega) hv⟩
  unfold fX4_layLeast
  rw [qb_ok (e_lastState hG), ← i_pred (lst m R)]
  exact z2
/-! the model's plan -/
def MQ4 (σ : qSt) (l : List (Nat × Nat)) : Prop := σ 18 10 = nI l.length ∧ l.length ≤ 30 ∧ ∀ i, i < l.length → σ 24 i = nI (10 * lry l i + lfa l i)
/-- all but the plan's cells as before -/
def frP (σ0 σ : qSt) : Prop := ∀ k j, k ≠ 24 → ¬ (k = 18 ∧ j = 10) → σ k j = σ0 k j
theorem tv_le_iff (hm : okm m R) (hs : ∀ r s, r < m → 1 ≤ s → s ≤ R → sh r s ≤ 100) {K t r s : Nat} (hK : 1 ≤ K) (hv : vst m R t) (hr : r < m) (h1 : gn t r < s) (h2 : s ≤ R) : (K : Int) * (BG - tv (prM m R sh) (dM m R sh) t r s) = lE K m R sh t ↔ okT (dM m R sh) (prM m R sh) t (dM m R sh t) r s = true := by
  have hm1 := hm.1
  have hln : ln m R r = R := by unfold ln; rw [if_pos hr]
  have hge := dM_ge hm hs hv (r := r) (by omega) h1 (by omega)
  unfold lE okT
  rw [decide_eq_true_eq]
  constructor
  · intro h
    have h3 := Int.eq_of_mul_eq_mul_left (show (K : Int) ≠ 0 by omega) h
    unfold tv at h3
    omega
  · intro h
    have : tv (prM m R sh) (dM m R sh) t r s = dM m R sh t := by
      unfold tv at hge ⊢
      omega
    rw [this]
theorem e_layMeanPlan_44 {σ1 : qSt} (hG : MG σ1 m R sh) (hO : MO σ1 o bk) (hm : okm m R) (hL : ∀ t, vst m R t → σ1 22 t = iI (lE (o + bk) m R sh t)) {c t r : Nat} (hc : σ1 18 10 = nI c) (hc30 : c < 30) (hv : vst m R t) (hr : r < m) {f : Int32 → Int32 → Int32 → qSt → qR} : ∀ n s, gn t r < s → s ≤ R + 1 → R + 2 - s < n →
    fX4_layMeanPlan_44 18 f n (nI t) (-1) (nI r) (nI s) σ1 = (match fnd (okT (dM m R sh) (prM m R sh) t (dM m R sh t) r) (R + 1 - s) s with
      | some s' => f (nI t) (nI (aft t r s')) (nI (r + 1)) (qset σ1 24 c (nI (10 * r + s')))
      | none => f (nI t) (-1) (nI (r + 1)) σ1) := by
  intro n
  have hR := hm.2.2
  have hm1 := hm.1
  have hs : ∀ r s, r < m → 1 ≤ s → s ≤ R → sh r s ≤ 100 := fun r s a b c => (hG.2.2.2 r s a b c).2
  have hln : ln m R r = R := by unfold ln; rw [if_pos hr]
  have ht := hv.1
  have ho := hO.2.2
  induction n with
  | zero => intro s h1 h2 h3; omega
  | succ n ih =>
    intro s h1 h2 h3
    unfold fX4_layMeanPlan_44
    rw [hG.2.1]
    rcases Nat.lt_or_ge R s with hsR | hsR
    · rw [if_pos (nI_lt hsR (by omega)), show R + 1 - s = 0 by omega, nI_1]
      rfl
    · have ha := aft_gn hR hv (r := r) (by omega) h1 (by omega)
      have hat := ha.1.1
      have hlb := lE_b (K := o + bk) hm hs (by omega) ha.1
      have hlt := lE_b (K := o + bk) hm hs (by omega) hv
      have hpb := prM_b hm hs (aft t r s)
      have hqa : qin (nI (aft t r s)) (qlen (18 + 4)) = true := (qin_nI (by omega)).mpr (by show _ < 729; omega)
      have hqt : qin (nI t) (qlen (18 + 4)) = true := (qin_nI (by omega)).mpr (by show _ < 729; omega)
      have hqc : qin (σ1 18 10) (qlen (18 + 6)) = true := by rw [hc]; exact (qin_nI (by omega)).mpr (by show _ < 30; omega)
      have hcb : 0 ≤ ((o + bk : Nat) : Int) * (BG - tv (prM m R sh) (dM m R sh) t r s) ∧ ((o + bk : Nat) : Int) * (BG - tv (prM m R sh) (dM m R sh) t r s) ≤ 400000000 := by
        rw [← cand_eq]
        have m1 : (s : Int) * ((o + bk : Nat) : Int) ≤ 8 * 18 := Int.mul_le_mul (by omega) (by omega) (by omega) (by omega)
        have m0 : 0 ≤ (s : Int) * ((o + bk : Nat) : Int) := Int.mul_nonneg (by omega) (by omega)
        have m2 : (s : Int) * ((o + bk : Nat) : Int) * prM m R sh (aft t r s) ≤ 8 * 18 * 2400 := Int.mul_le_mul m1 hpb.2 hpb.1 (by omega)
        have m3 : 0 ≤ (s : Int) * ((o + bk : Nat) : Int) * prM m R sh (aft t r s) := Int.mul_nonneg m0 hpb.1
        omega
      rw [if_neg (nI_nlt hsR (by omega)), if_neg (by decide), qb_ok (e_gone (by omega) (by omega)), qb_ok (e_nines (by omega))]
      have eb : nI t + (nI s - nI (t / 9 ^ r % 9)) * nI (9 ^ r) = nI (aft t r s) := e_behind2 h1
      rw [eb, qb_ok (e_adds hG hO hm ha.1)]
      simp only [hqa, hqt, hqc, eq_self, if_true]
      rw [nI_clamp (show t < 2 ^ 31 by omega), nI_clamp (show aft t r s < 2 ^ 31 by omega), nI_1, hc, nI_clamp (show c < 2 ^ 31 by omega)]
      show (if iI _ + σ1 22 (aft t r s) = σ1 22 t then fX4_layMeanPlan_44 18 f n (nI t) (nI (aft t r s)) (nI r) (nI (s + 1)) (qset σ1 24 c (10 * nI r + nI s)) else _) = _
      rw [hL _ ha.1, hL _ hv, iI_add, cand_eq, show R + 1 - s = (R + 1 - (s + 1)) + 1 by omega, fnd]
      by_cases hq : okT (dM m R sh) (prM m R sh) t (dM m R sh t) r s = true
      · rw [if_pos (by rw [(tv_le_iff hm hs (by omega) hv hr h1 hsR).mpr hq]), if_pos hq, show (10 : Int32) = nI 10 from rfl, pk_mul, nI_add]
        obtain ⟨n', rfl⟩ : ∃ n', n = n' + 1 := ⟨n - 1, by omega⟩
        unfold fX4_layMeanPlan_44
        have e1 : (qset σ1 24 c (nI (10 * r + s))) 18 1 = nI R := by rw [qset_ne (by omega)]; exact hG.2.1
        rw [e1, nI_1]
        by_cases hz : nI R < nI (s + 1)
        · rw [if_pos hz]
        · rw [if_neg hz, if_pos (by exact nI_pos' (by omega))]
      · rw [if_neg (by
          rw [iI_eq (by unfold bd; omega) (by unfold bd; omega)]
          exact fun z => hq ((tv_le_iff hm hs (by omega) hv hr h1 hsR).mp z)), if_neg hq]
        exact ih (s + 1) (by omega) (by omega) (by omega)
theorem e_layMeanPlan_23 {σ1 : qSt} (hG : MG σ1 m R sh) (hO : MO σ1 o bk) (hm : okm m R) (hL : ∀ t, vst m R t → σ1 22 t = iI (lE (o + bk) m R sh t)) {c t : Nat} (hc : σ1 18 10 = nI c) (hc30 : c < 30) (hv : vst m R t) {f : Int32 → qSt → qR} {q : Nat × Nat} : ∀ n r, r ≤ m → m - r + 1 < n → chO R capM (dM m R sh) (prM m R sh) t (dM m R sh t) (m - r) r = some q →
    fX4_layMeanPlan_23 18 f n (nI t) (-1) (nI r) σ1 = f (nI (aft t q.1 q.2)) (qset (qset σ1 24 c (nI (10 * q.1 + q.2))) 18 10 (nI (c + 1))) := by
  intro n
  have hR := hm.2.2
  have hm1 := hm.1
  have hs : ∀ r s, r < m → 1 ≤ s → s ≤ R → sh r s ≤ 100 := fun r s a b c => (hG.2.2.2 r s a b c).2
  have ht := hv.1
  have hB : BG = 10000000 := rfl
  induction n with
  | zero => intro r h1 h2 _; omega
  | succ n ih =>
    intro r h1 h2 hch
    unfold fX4_layMeanPlan_23
    rw [hG.1]
    rcases Nat.lt_or_ge r m with hr | hr
    · have hln : ln m R r = R := by unfold ln; rw [if_pos hr]
      have hgr := hv.2 r (by omega)
      have hdb := dM_b hm hs hv
      rw [if_neg (nI_ge hr (by omega)), if_neg (by decide), qb_ok (e_gone (by omega) (by omega))]
      show fX4_layMeanPlan_44 18 _ qfu (nI t) (-1) (nI r) (nI (gn t r) + 1) σ1 = _
      rw [nI_1, e_layMeanPlan_44 hG hO hm hL hc hc30 hv hr qfu (gn t r + 1) (by omega) (by omega) (by unfold qfu; omega), show R + 1 - (gn t r + 1) = R - gn t r by omega]
      rw [show m - r = (m - (r + 1)) + 1 by omega, chO, if_pos (show dM m R sh t ≤ capM (gn t r + 1) by show _ ≤ BG; omega)] at hch
      cases hf : fnd (okT (dM m R sh) (prM m R sh) t (dM m R sh t) r) (R - gn t r) (gn t r + 1) with
      | none =>
        rw [hf] at hch
        exact ih (r + 1) (by omega) (by omega) hch
      | some s =>
        rw [hf] at hch
        cases hch
        have hfi := fnd_in _ _ _ hf
        have ha := aft_gn hR hv (r := r) (s := s) (by omega) (by omega) (by omega)
        have hat := ha.1.1
        obtain ⟨n', rfl⟩ : ∃ n', n = n' + 1 := ⟨n - 1, by omega⟩
        show fX4_layMeanPlan_23 18 f (n' + 1) (nI t) (nI (aft t r s)) (nI (r + 1)) (qset σ1 24 c (nI (10 * r + s))) = _
        unfold fX4_layMeanPlan_23 fX4_layMeanPlan_130
        have e1 : (qset σ1 24 c (nI (10 * r + s))) 18 10 = nI c := by rw [qset_ne (by omega)]; exact hc
        rw [e1, nI_1]
        by_cases hz : (qset σ1 24 c (nI (10 * r + s))) 18 0 ≤ nI (r + 1)
        · rw [if_pos hz]
        · rw [if_neg hz, if_pos (by exact nI_pos' (by omega))]
    · rw [show m - r = 0 by omega] at hch
      cases hch
/-- a state that isn't the last has a first trip -/
theorem chM_some (hm : okm m R) (hs : ∀ r s, r < m → 1 ≤ s → s ≤ R → sh r s ≤ 100) {t : Nat} (hv : vst m R t) (hl : ¬ t = lst m R) : ∃ q, chO R capM (dM m R sh) (prM m R sh) t (dM m R sh t) m 0 = some q := by
  have hR := hm.2.2
  have hm1 := hm.1
  have hB : BG = 10000000 := rfl
  have hlow := dM_low hm hs 24 t hv (mu_le hR t)
  have hdb := dM_b hm hs hv
  have heq : dM m R sh t = dst m R capM (prM m R sh) BG (dM m R sh) t := dD_eq hR hv
  unfold dst at heq
  rw [if_neg hl] at heq
  have hex : ∃ r, r < 3 ∧ dM m R sh t = thr m R capM (prM m R sh) BG (dM m R sh) t r := by
    rcases (show dM m R sh t = thr m R capM (prM m R sh) BG (dM m R sh) t 0 ∨ dM m R sh t = thr m R capM (prM m R sh) BG (dM m R sh) t 1 ∨ dM m R sh t = thr m R capM (prM m R sh) BG (dM m R sh) t 2 by omega) with e | e | e
    · exact ⟨0, by omega, e⟩
    · exact ⟨1, by omega, e⟩
    · exact ⟨2, by omega, e⟩
  obtain ⟨r, hr3, he⟩ := hex
  have hgl : gn t r < ln m R r := by
    rcases Nat.lt_or_ge (gn t r) (ln m R r) with q | q
    · exact q
    · unfold thr at he
      rw [if_neg (by omega)] at he
      omega
  have hrm : r < m := by
    unfold ln at hgl
    split at hgl
    · assumption
    · omega
  have hln : ln m R r = R := by unfold ln; rw [if_pos hrm]
  have hsx : ∃ s, gn t r < s ∧ s ≤ R ∧ okT (dM m R sh) (prM m R sh) t (dM m R sh t) r s = true := by
    unfold thr at he
    rw [if_pos hgl] at he
    have h2 : dM m R sh t ≤ mxx (tv (prM m R sh) (dM m R sh) t r) (ln m R r - gn t r - 1) (gn t r + 1) := by
      have := Int.min_le_right (capM (gn t r + 1)) (mxx (tv (prM m R sh) (dM m R sh) t r) (ln m R r - gn t r - 1) (gn t r + 1))
      omega
    obtain ⟨s, q1, q2, q3⟩ := (le_mxx _ _).mp h2
    refine ⟨s, by omega, by omega, ?_⟩
    unfold okT
    rw [decide_eq_true_eq]
    unfold tv at q3
    omega
  obtain ⟨s, s1, s2, s3⟩ := hsx
  have key : ∀ n r0, r0 ≤ r → r < r0 + n → ∃ q, chO R capM (dM m R sh) (prM m R sh) t (dM m R sh t) n r0 = some q := by
    intro n
    induction n with
    | zero => intro r0 h1 h2; omega
    | succ n ih =>
      intro r0 h1 h2
      unfold chO
      rw [if_pos (show dM m R sh t ≤ capM (gn t r0 + 1) by show _ ≤ BG; omega)]
      cases hf : fnd (okT (dM m R sh) (prM m R sh) t (dM m R sh t) r0) (R - gn t r0) (gn t r0 + 1) with
      | some s' => exact ⟨_, rfl⟩
      | none =>
        by_cases hrr : r0 = r
        · subst hrr
          rw [fnd_none] at hf
          have := hf s (by omega) (by omega)
          rw [s3] at this
          cases this
        · exact ih (r0 + 1) (by omega) (by omega)
  exact key m 0 (by omega) (by omega)
end MPLAN
