/-! ===== pure: the model's row of values for the worst case is the class's ===== -/
def capU (up low : Nat) : Nat → Int := fun k => ((up * k / low : Nat) : Int)
def eK (m R : Nat) (c : Nat → Int) (t : Nat) : Int := if t = lst m R then 1000000 else dK m R c t
def okU (R : Nat) (c : Nat → Int) : Prop := ∀ k, 1 ≤ k → k ≤ R → 0 ≤ c k ∧ c k ≤ 900000
def vR (c : Nat → Int) (E : Nat → Int) (t R : Nat) : Nat → Nat → Int → Int
  | 0, _, v => v
  | n + 1, r, v => vR c E t R n (r + 1) (vS (c (gn t r + 1)) (fun s => E (aft t r s) - s) (R - gn t r) (gn t r + 1) v)
theorem min_mxx {f : Nat → Int} {C : Int} : ∀ k s, min C (mxx f k s) = mxx (fun i => min C (f i)) k s := by
  intro k
  induction k with
  | zero => intro s; rfl
  | succ k ih =>
    intro s
    unfold mxx
    rw [← ih (s + 1)]
    omega
section MOST
variable {σ : qSt} {m R : Nat} {sh : Nat → Nat → Nat} {c : Nat → Int}
theorem dK_low (hm : okm m R) (hc : okU R c) : ∀ n t, vst m R t → mu m R t ≤ n → -(8 * (n : Int)) ≤ dK m R c t := by
  intro n
  have hR := hm.2.2
  have hB : BG = 10000000 := rfl
  induction n with
  | zero =>
    intro t hv hmu
    have hl : t = lst m R := by
      rw [lst_iff hm.1 hR hv]
      intro r hr
      have := hv.2 r hr
      unfold mu at hmu
      rcases (show r = 0 ∨ r = 1 ∨ r = 2 by omega) with rfl | rfl | rfl <;> omega
    rw [hl, dK_lst hm]
    omega
  | succ n ih =>
    intro t hv hmu
    by_cases hl : t = lst m R
    · rw [hl, dK_lst hm]
      omega
    · have hex : ∃ r, r < 3 ∧ gn t r < ln m R r := by
        apply Classical.byContradiction
        intro hno
        apply hl
        rw [lst_iff hm.1 hR hv]
        intro r hr
        have := hv.2 r hr
        rcases Nat.lt_or_ge (gn t r) (ln m R r) with q | q
        · exact absurd ⟨r, hr, q⟩ hno
        · omega
      obtain ⟨r, hr, hg⟩ := hex
      have hln := ln_le (m := m) (R := R) (r := r)
      have ha := aft_gn hR hv hr (s := gn t r + 1) (by omega) (by omega)
      have h1 := ih _ ha.1 (by omega)
      have h2 := dK_ge (c := c) hm hv hr (s := gn t r + 1) (by omega) (by omega)
      have h3 := hc (gn t r + 1) (by omega) (by omega)
      omega
theorem dK_low' (hm : okm m R) (hc : okU R c) {t : Nat} (hv : vst m R t) : -192 ≤ dK m R c t := by
  have := dK_low hm hc 24 t hv (mu_le hm.2.2 t)
  omega
theorem okU_up (hm : okm m R) (hc : okU R c) {t : Nat} (hv : vst m R t) (hl : ¬ t = lst m R) : dK m R c t ≤ 900000 := dK_le hm.2.2 (by omega) (fun k h1 h2 => (hc k h1 h2).2) hv hl
theorem eK_bd (hm : okm m R) (hc : okU R c) {t : Nat} (hv : vst m R t) : -192 ≤ eK m R c t ∧ eK m R c t ≤ 1000000 := by
  unfold eK
  split
  · omega
  · rename_i hl
    have h1 := dK_low' hm hc hv
    have h2 := okU_up hm hc hv hl
    omega
/-- a ray's part: with the model's values as with the class's -/
theorem ray_eq (hm : okm m R) (hc : okU R c) {t r : Nat} (hv : vst m R t) (hr : r < m) (v : Int) : vS (c (gn t r + 1)) (fun s => eK m R c (aft t r s) - s) (R - gn t r) (gn t r + 1) v = if gn t r < R then max v (thr m R c pr1 BG (dK m R c) t r) else v := by
  have hR := hm.2.2
  have hm1 := hm.1
  have hln : ln m R r = R := by unfold ln; rw [if_pos hr]
  have hgr := hv.2 r (by omega)
  by_cases hg : gn t r < R
  · rw [if_pos hg, show R - gn t r = (R - gn t r - 1) + 1 by omega, vS_eq]
    unfold thr
    rw [if_pos (by omega), hln, min_mxx, min_mxx, mxx_congr (g := fun i => min (c (gn t r + 1)) (tv pr1 (dK m R c) t r i))]
    intro i h1 h2
    have ha := aft_gn hR hv (r := r) (s := i) (by omega) (by omega) (by omega)
    have hck := hc (gn t r + 1) (by omega) (by omega)
    unfold tv eK
    rw [pr1_eq]
    split
    · rename_i hl
      rw [hl, dK_lst hm]
      have hB : BG = 10000000 := rfl
      omega
    · omega
  · rw [if_neg hg, show R - gn t r = 0 by omega]
    rfl
theorem vR_eq (hm : okm m R) (hc : okU R c) {t : Nat} (hv : vst m R t) (hl : ¬ t = lst m R) : vR c (eK m R c) t R m 0 (-1000000) = dK m R c t := by
  have hR := hm.2.2
  have hB : BG = 10000000 := rfl
  have hlow := dK_low' hm hc hv
  have heq : dK m R c t = dst m R c pr1 BG (dK m R c) t := dD_eq hR hv
  unfold dst at heq
  rw [if_neg hl] at heq
  have hth : ∀ r, r < 3 → ¬ gn t r < ln m R r → thr m R c pr1 BG (dK m R c) t r = -BG := fun r _ h => by unfold thr; rw [if_neg h]
  have h0 := hth 0 (by omega)
  have h1 := hth 1 (by omega)
  have h2 := hth 2 (by omega)
  have l0 : ln m R 0 = R := by unfold ln; rw [if_pos (by have := hm.1; omega)]
  have l1 : ln m R 1 = R := by unfold ln; rw [if_pos (by have := hm.1; omega)]
  rw [l0] at h0
  rw [l1] at h1
  generalize hT0 : thr m R c pr1 BG (dK m R c) t 0 = T0 at *
  generalize hT1 : thr m R c pr1 BG (dK m R c) t 1 = T1 at *
  generalize hT2 : thr m R c pr1 BG (dK m R c) t 2 = T2 at *
  rcases hm.1 with e | e
  · have l2 : ln m R 2 = 0 := by unfold ln; rw [if_neg (by omega)]
    have h2' := h2 (by rw [l2]; omega)
    subst e
    show vR c (eK 2 R c) t R 2 0 (-1000000) = _
    unfold vR vR vR
    rw [ray_eq hm hc hv (by omega), ray_eq hm hc hv (by omega), hT0, hT1]
    by_cases a0 : gn t 0 < R <;> by_cases a1 : gn t 1 < R
    · rw [if_pos a0, if_pos a1]; omega
    · rw [if_pos a0, if_neg a1]; have := h1 a1; omega
    · rw [if_neg a0, if_pos a1]; have := h0 a0; omega
    · rw [if_neg a0, if_neg a1]; have := h1 a1; have := h0 a0; omega
  · have l2 : ln m R 2 = R := by unfold ln; rw [if_pos (by omega)]
    rw [l2] at h2
    subst e
    show vR c (eK 3 R c) t R 3 0 (-1000000) = _
    unfold vR vR vR vR
    rw [ray_eq hm hc hv (by omega), ray_eq hm hc hv (by omega), ray_eq hm hc hv (by omega), hT0, hT1, hT2]
    by_cases a0 : gn t 0 < R <;> by_cases a1 : gn t 1 < R <;> by_cases a2 : gn t 2 < R <;> simp only [a0, a1, a2, if_true, if_false] <;> (try have b0 := h0 a0) <;> (try have b1 := h1 a1) <;> (try have b2 := h2 a2) <;> omega
theorem vR_lst (hm : okm m R) {t : Nat} {E : Nat → Int} (hl : t = lst m R) : ∀ n r v, r + n ≤ m → vR c E t R n r v = v := by
  intro n
  have hm1 := hm.1
  induction n with
  | zero => intro r v _; rfl
  | succ n ih =>
    intro r v h
    unfold vR
    have := (lst_ok hm.1 hm.2.2).2 r (by omega)
    rw [← hl] at this
    unfold ln at this
    rw [if_pos (by omega)] at this
    rw [show R - gn t r = 0 by omega]
    exact ih (r + 1) v (by omega)
theorem vR_bd (hm : okm m R) (hc : okU R c) {t : Nat} (hv : vst m R t) : ∀ n r v, r + n ≤ m → (-1000000 ≤ v ∧ v ≤ 1000000) → -1000000 ≤ vR c (eK m R c) t R n r v ∧ vR c (eK m R c) t R n r v ≤ 1000000 := by
  intro n
  have hm1 := hm.1
  induction n with
  | zero => intro r v _ h; exact h
  | succ n ih =>
    intro r v h hb
    unfold vR
    refine ih (r + 1) _ (by omega) ?_
    rw [ray_eq hm hc hv (by omega)]
    split
    · rename_i hg
      have hln : ln m R r = R := by unfold ln; rw [if_pos (by omega)]
      have hck := hc (gn t r + 1) (by omega) (by omega)
      unfold thr
      rw [if_pos (by omega)]
      omega
    · exact hb
theorem e_layMost_41 {σ1 : qSt} (hG : MG σ1 m R sh) (hm : okm m R) {up low : Nat} (hlow : 1 ≤ low) (hlow2 : low ≤ 200000) (hup : up ≤ 100000) (hc : okU R (capU up low)) {t : Nat} (hv : vst m R t) (hE : ∀ t', t < t' → vst m R t' → σ1 23 t' = iI (eK m R (capU up low) t')) {f : Int32 → Int32 → Int32 → qSt → qR} : ∀ n r v, r ≤ m → m - r < n → (-1000000 ≤ v ∧ v ≤ 1000000) →
    fX4_layMost_41 18 f n (nI up) (nI low) (nI t) (nI r) (qset σ1 23 t (iI v)) = f (nI up) (nI low) (iI ((t : Int) - 1)) (qset σ1 23 t (iI (vR (capU up low) (eK m R (capU up low)) t R (m - r) r v))) := by
  intro n
  have hR := hm.2.2
  have hm1 := hm.1
  have ht := hv.1
  induction n with
  | zero => intro r v h1 h2 _; omega
  | succ n ih =>
    intro r v h1 h2 hb
    unfold fX4_layMost_41
    have e0 : (qset σ1 23 t (iI v)) 18 0 = nI m := by rw [qset_ne (by omega)]; exact hG.1
    rw [e0]
    rcases Nat.lt_or_ge r m with hr | hr
    · have hln : ln m R r = R := by unfold ln; rw [if_pos hr]
      have hgr := hv.2 r (by omega)
      have hg8 := gn_le t r
      have hk : up * (gn t r + 1) ≤ 100000 * 9 := Nat.mul_le_mul hup (by omega)
      have hd : up * (gn t r + 1) / low ≤ up * (gn t r + 1) := Nat.div_le_self _ _
      rw [if_neg (nI_ge hr (by omega)), qb_ok (e_gone (by omega) (by omega)), if_neg (nI_ne0 (by omega) (by omega))]
      show fX4_layMost_72 18 _ qfu (nI up) (nI low) (nI t) (nI r) (nI (gn t r) + 1) (nI up * (nI (gn t r) + 1) / nI low) (nI (gn t r) + 1) _ = _
      have hq0 : (0 : Int) ≤ ((up * (gn t r + 1) / low : Nat) : Int) := Int.natCast_nonneg _
      have hq2 : ((up * (gn t r + 1) / low : Nat) : Int) ≤ ((900000 : Nat) : Int) := Int.ofNat_le.mpr (Nat.le_trans hd hk)
      rw [nI_1, pk_mul, pk_div (by omega) (by omega) (by omega), iI_n (up * (gn t r + 1) / low)]
      rw [e_layMost_72 hG hm (E := eK m R (capU up low)) hv hr ⟨Int.le_trans (by decide) hq0, Int.le_trans hq2 (by decide)⟩ (fun s q1 q2 => by
        have ha := aft_gn hR hv (r := r) (s := s) (by omega) q1 (by omega)
        have := eK_bd hm hc ha.1
        exact ⟨hE _ ha.2.2.2.1 ha.1, by omega, by omega⟩) qfu (gn t r + 1) v (by omega) (by omega) (by unfold qfu; omega) (by omega)]
      have hvb : -1000000 ≤ vS (capU up low (gn t r + 1)) (fun s => eK m R (capU up low) (aft t r s) - s) (R - gn t r) (gn t r + 1) v ∧ vS (capU up low (gn t r + 1)) (fun s => eK m R (capU up low) (aft t r s) - s) (R - gn t r) (gn t r + 1) v ≤ 1000000 := by
        have := vR_bd hm hc hv 1 r v (by omega) hb
        exact this
      have := ih (r + 1) _ (by omega) (by omega) hvb
      rw [show m - r = (m - (r + 1)) + 1 by omega, vR, show R + 1 - (gn t r + 1) = R - gn t r by omega]
      exact this
    · rw [if_pos (nI_le hr (by omega)), show m - r = 0 by omega, nI_m1]
      rfl
def PT (σ0 σ : qSt) (m R : Nat) (c : Nat → Int) (p : Nat) : Prop := (∀ k j, k ≠ 23 → σ k j = σ0 k j) ∧ ∀ t, p ≤ t → vst m R t → σ 23 t = iI (eK m R c t)
theorem e_layMost_5 {σ0 : qSt} (hG : MG σ0 m R sh) (hm : okm m R) {up low : Nat} (hlow : 1 ≤ low) (hlow2 : low ≤ 200000) (hup : up ≤ 100000) (hc : okU R (capU up low)) : ∀ n p σ, PT σ0 σ m R (capU up low) p → p ≤ lst m R + 1 → p < n → ∃ σ', PT σ0 σ' m R (capU up low) 0 ∧ fX4_layMost_5 18 n (nI up) (nI low) (iI ((p : Int) - 1)) σ = some (0, σ') := by
  intro n
  have hR := hm.2.2
  have hl729 := (lst_ok hm.1 hR).1.1
  induction n with
  | zero => intro p σ _ _ h; omega
  | succ n ih =>
    intro p σ hP h1 h2
    match p, h1, h2, hP with
    | 0, _, _, hP =>
      refine ⟨σ, hP, ?_⟩
      unfold fX4_layMost_5
      rw [if_pos (by show iI (((0 : Nat) : Int) - 1) < 0; exact iI_m1)]
    | t + 1, h1, h2, hP =>
      have hGs : MG σ m R sh := hG.keep (fun k j hk => hP.1 k j (by omega))
      have ht : t < 729 := by omega
      unfold fX4_layMost_5
      rw [i_pred, if_neg (nI_pos (by omega)), qb_ok (e_isState hGs (by omega)), nI_m1]
      by_cases hvb : vsb m R t = true
      · have hv := (vsb_iff hm ht).mp hvb
        have hE : ∀ t', t < t' → vst m R t' → σ 23 t' = iI (eK m R (capU up low) t') := fun t' q1 q2 => hP.2 t' (by omega) q2
        have hqt : qin (nI t) (qlen (18 + 5)) = true := (qin_nI (by omega)).mpr (by show _ < 729; omega)
        have step : ∀ w : Int, (-1000000 ≤ w ∧ w ≤ 1000000) → vR (capU up low) (eK m R (capU up low)) t R m 0 w = eK m R (capU up low) t → ∃ σ', PT σ0 σ' m R (capU up low) 0 ∧ fX4_layMost_41 18 (fun z1 z2 z3 sg => fX4_layMost_5 18 n z1 z2 z3 sg) qfu (nI up) (nI low) (nI t) (nI 0) (qset σ 23 t (iI w)) = some (0, σ') := by
          intro w hw hvr
          have hP' : PT σ0 (qset σ 23 t (iI (eK m R (capU up low) t))) m R (capU up low) t := by
            refine ⟨fun k j hk => by rw [qset_ne (by omega)]; exact hP.1 k j hk, fun t' q1 q2 => ?_⟩
            by_cases he : t' = t
            · subst he; exact qset_same
            · rw [qset_ne (by omega)]; exact hP.2 t' (by omega) q2
          obtain ⟨σ', z1, z2⟩ := ih t _ hP' (by omega) (by omega)
          refine ⟨σ', z1, ?_⟩
          rw [e_layMost_41 hGs hm hlow hlow2 hup hc hv hE qfu 0 w (by omega) (by have := hm.1; unfold qfu; omega) hw]
          show fX4_layMost_5 18 n _ _ _ (qset σ 23 t (iI (vR _ _ t R m 0 w))) = _
          rw [hvr]
          exact z2
        rw [if_pos hvb, if_neg q10, qb_ok (e_lastState hGs)]
        simp only [hqt, eq_self, if_true]
        rw [nI_clamp (by omega)]
        by_cases hl : t = lst m R
        · rw [if_pos (by rw [hl])]
          show ∃ σ', _ ∧ fX4_layMost_41 18 _ qfu _ _ _ (nI 0) (qset σ 23 t (1000000 : Int32)) = _
          rw [show (1000000 : Int32) = iI 1000000 from by decide]
          refine step 1000000 ⟨by decide, by decide⟩ ?_
          rw [vR_lst hm hl m 0 _ (by omega)]
          unfold eK
          rw [if_pos hl]
        · rw [if_neg (by rw [nI_eq (by omega) (by omega)]; exact hl)]
          show ∃ σ', _ ∧ fX4_layMost_41 18 _ qfu _ _ _ (nI 0) (qset σ 23 t (-1000000 : Int32)) = _
          rw [show (-1000000 : Int32) = iI (-1000000) from by decide]
          refine step (-1000000) ⟨by decide, by decide⟩ ?_
          rw [vR_eq hm hc hv hl]
          unfold eK
          rw [if_neg hl]
      · rw [if_neg hvb, if_pos rfl]
        refine ih t σ ⟨hP.1, fun t' q1 q2 => ?_⟩ (by omega) (by omega)
        by_cases he : t' = t
        · subst he
          exact absurd ((vsb_iff hm ht).mpr q2) hvb
        · exact hP.2 t' (by omega) q2
/-- the model's row of values -/
theorem e_layMost {σ : qSt} (hG : MG σ m R sh) (hm : okm m R) {up low : Nat} (hlow : 1 ≤ low) (hlow2 : low ≤ 200000) (hup : up ≤ 100000) (hc : okU R (capU up low)) : ∃ σ', fX4_layMost 18 (nI up) (nI low) σ = some (0, σ') ∧ (∀ k j, k ≠ 23 → σ' k j = σ k j) ∧ ∀ t, vst m R t → σ' 23 t = iI (eK m R (capU up low) t) := by
  have hR := hm.2.2
  have hl729 := (lst_ok hm.1 hR).1.1
  have hP : PT σ σ m R (capU up low) (lst m R + 1) := by
    refine ⟨fun _ _ _ => rfl, fun t q1 q2 => ?_⟩
    exfalso
    have h0 := q2.2 0 (by omega)
    have h1 := q2.2 1 (by omega)
    have h2 := q2.2 2 (by omega)
    have hi := tt_inv q2.1
    have hi2 := tt_inv hl729
    have k := (lst_ok hm.1 hR).2
    rw [k 0 (by omega), k 1 (by omega), k 2 (by omega)] at hi2
    unfold tt at hi hi2
    omega
  obtain ⟨σ', z1, z2⟩ := e_layMost_5 hG hm hlow hlow2 hup hc qfu (lst m R + 1) σ hP (Nat.le_refl _) (by unfold qfu; omega)
  refine ⟨σ', ?_, z1.1, fun t hv => z1.2 t (by omega) hv⟩
  unfold fX4_layMost
  rw [qb_ok (e_lastState hG), ← i_pred (lst m R)]
  exact z2
end MOST
