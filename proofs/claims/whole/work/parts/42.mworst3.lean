/-! ===== pure: the model's plan of the least worst case is the class's ===== -/
section MW3
variable {σ : qSt} {m R : Nat} {sh : Nat → Nat → Nat}
theorem capUW {U L W k : Nat} (he : 840 * U = W * L) (hL : 1 ≤ L) (h1 : 1 ≤ k) (h2 : k ≤ 8) : U * k / L = W * k / 840 := by
  rw [capU_W hL h1 h2, he, Nat.mul_div_cancel _ (by omega)]
theorem dK_congr (hm : okm m R) {c c' : Nat → Int} (hc : ∀ k, 1 ≤ k → k ≤ R → c k = c' k) {t : Nat} (hv : vst m R t) : dK m R c t = dK m R c' t := by
  have h1 := dK_mono hm (c := c) (c' := c') (fun k a b => by rw [hc k a b]; exact Int.le_refl _) 24 t hv (mu_le hm.2.2 t)
  have h2 := dK_mono hm (c := c') (c' := c) (fun k a b => by rw [hc k a b]; exact Int.le_refl _) 24 t hv (mu_le hm.2.2 t)
  omega
/-- the row of values in the model, as the class has it (but at the last) -/
def MSM (σ : qSt) (m R W : Nat) : Prop := ∀ t, vst m R t → σ 23 t = iI (eK m R (capW W) t)
theorem capW_b {W k : Nat} (hW : W ≤ 13440) (hk : k ≤ 8) : 0 ≤ capW W k ∧ capW W k ≤ 128 := by
  have h1 : W * k ≤ 13440 * 8 := Nat.mul_le_mul hW hk
  have h2 : W * k / 840 ≤ 128 := by omega
  unfold capW
  exact ⟨Int.natCast_nonneg _, Int.ofNat_le.mpr h2⟩
theorem okU_W {W : Nat} (hW : W ≤ 13440) (hR : R ≤ 8) : okU R (capW W) := fun k _ h2 => by
  have := capW_b (k := k) hW (by omega)
  omega
theorem okT_e (hm : okm m R) {W t r s : Nat} {sp : Nat} (hsp : sp ≤ 200) (hv : vst m R (aft t r s)) (hs : s ≤ 8) : (sp : Int) + s ≤ eK m R (capW W) (aft t r s) ↔ okT (dK m R (capW W)) pr1 t sp r s = true := by
  unfold okT eK
  rw [pr1_eq, decide_eq_true_eq]
  have hB : BG = 10000000 := rfl
  split
  · rename_i hl
    rw [hl, dK_lst hm]
    omega
  · omega
theorem e_layWorstPlan_65 {σ1 : qSt} (hG : MG σ1 m R sh) (hm : okm m R) {W U L : Nat} (hW : W ≤ 13440) (h12 : σ1 18 12 = nI U) (h13 : σ1 18 13 = nI L) (he : 840 * U = W * L) (hL : 1 ≤ L ∧ L ≤ 8) (hU : U ≤ 1000000) (hM : MSM σ1 m R W) {c t r sp : Nat} (hc : σ1 18 10 = nI c) (hc30 : c < 30) (hv : vst m R t) (hr : r < m) (hsp : sp ≤ 200) {f : Int32 → Int32 → Int32 → Int32 → qSt → qR} : ∀ n s, gn t r < s → s ≤ R + 1 → R + 2 - s < n →
    fX4_layWorstPlan_65 18 f n (nI t) (nI sp) (-1) (nI r) (nI (gn t r + 1)) (nI s) σ1 = (match (if (sp : Int) ≤ capW W (gn t r + 1) then fnd (okT (dK m R (capW W)) pr1 t sp r) (R + 1 - s) s else none) with
      | some s' => f (nI t) (nI sp) (nI (aft t r s')) (nI (r + 1)) (qset σ1 24 c (nI (10 * r + s')))
      | none => f (nI t) (nI sp) (-1) (nI (r + 1)) σ1) := by
  intro n
  have hR := hm.2.2
  have hm1 := hm.1
  have hln : ln m R r = R := by unfold ln; rw [if_pos hr]
  have ht := hv.1
  have hg8 := gn_le t r
  induction n with
  | zero => intro s h1 h2 h3; omega
  | succ n ih =>
    intro s h1 h2 h3
    unfold fX4_layWorstPlan_65
    rw [hG.2.1]
    rcases Nat.lt_or_ge R s with hsR | hsR
    · rw [if_pos (nI_lt hsR (by omega)), show R + 1 - s = 0 by omega, nI_1]
      split
      · rename_i s' hh
        split at hh <;> cases hh
      · rfl
    · have ha := aft_gn hR hv (r := r) (by omega) h1 (by omega)
      have hat := ha.1.1
      have hb := eK_bd hm (okU_W (R := R) hW hR) ha.1
      have a1 : U * (gn t r + 1) ≤ 1000000 * 9 := Nat.mul_le_mul hU (by omega)
      have a2 : sp * L ≤ 200 * 8 := Nat.mul_le_mul hsp hL.2
      have ih' := ih (s + 1) (by omega) (by omega) (by omega)
      have hqa : qin (nI (aft t r s)) (qlen (18 + 5)) = true := (qin_nI (by omega)).mpr (by show _ < 729; omega)
      have hqc : qin (σ1 18 10) (qlen (18 + 6)) = true := by rw [hc]; exact (qin_nI (by omega)).mpr (by show _ < 30; omega)
      have hcap : (sp : Int) ≤ capW W (gn t r + 1) ↔ ¬ U * (gn t r + 1) < sp * L := by
        have e1 := capUW he hL.1 (k := gn t r + 1) (by omega) (by omega)
        unfold capW
        rw [← e1, Int.ofNat_le, Nat.le_div_iff_mul_le (by omega)]
        omega
      rw [if_neg (nI_nlt hsR (by omega)), if_neg (by decide), qb_ok (e_nines (by omega)), h12, h13, pk_mul, pk_mul, e_behind h1]
      simp only [hqa, hqc, eq_self, if_true]
      rw [nI_clamp (show aft t r s < 2 ^ 31 by omega), nI_1, hc, nI_clamp (show c < 2 ^ 31 by omega)]
      show (if nI (U * (gn t r + 1)) < nI (sp * L) then fX4_layWorstPlan_65 18 f n (nI t) (nI sp) (-1) (nI r) (nI (gn t r + 1)) (nI (s + 1)) σ1 else if σ1 23 (aft t r s) < nI sp + nI s then fX4_layWorstPlan_65 18 f n (nI t) (nI sp) (-1) (nI r) (nI (gn t r + 1)) (nI (s + 1)) σ1 else fX4_layWorstPlan_65 18 f n (nI t) (nI sp) (nI (aft t r s)) (nI r) (nI (gn t r + 1)) (nI (s + 1)) (qset σ1 24 c (10 * nI r + nI s))) = _
      by_cases hq : (sp : Int) ≤ capW W (gn t r + 1)
      · rw [if_neg (by rw [nI_ltI (by omega) (by omega)]; exact hcap.mp hq), if_pos hq]
        rw [if_pos hq] at ih'
        rw [show R + 1 - s = (R + 1 - (s + 1)) + 1 by omega, fnd, hM _ ha.1, nI_add, iI_n]
        by_cases ho : okT (dK m R (capW W)) pr1 t sp r s = true
        · have h9 := (okT_e hm (W := W) (sp := sp) hsp ha.1 (by omega)).mpr ho
          rw [if_neg (by rw [iI_lt (by unfold bd; omega) (by unfold bd; omega)]; omega), if_pos ho, show (10 : Int32) = nI 10 from rfl, pk_mul, nI_add]
          obtain ⟨n', rfl⟩ : ∃ n', n = n' + 1 := ⟨n - 1, by omega⟩
          unfold fX4_layWorstPlan_65
          rw [nI_1]
          by_cases hz : (qset σ1 24 c (nI (10 * r + s))) 18 1 < nI (s + 1)
          · rw [if_pos hz]
          · rw [if_neg hz, if_pos (by exact nI_pos' (by omega))]
        · have h9 : ¬ (sp : Int) + s ≤ eK m R (capW W) (aft t r s) := fun z => ho ((okT_e hm (W := W) (sp := sp) hsp ha.1 (by omega)).mp z)
          rw [if_pos (by rw [iI_lt (by unfold bd; omega) (by unfold bd; omega)]; omega), if_neg ho]
          exact ih'
      · rw [if_pos (by rw [nI_ltI (by omega) (by omega)]; exact Classical.byContradiction (fun z => hq (hcap.mpr z))), if_neg hq]
        rw [if_neg hq] at ih'
        exact ih'
theorem e_layWorstPlan_38 {σ1 : qSt} (hG : MG σ1 m R sh) (hm : okm m R) {W U L : Nat} (hW : W ≤ 13440) (h12 : σ1 18 12 = nI U) (h13 : σ1 18 13 = nI L) (he : 840 * U = W * L) (hL : 1 ≤ L ∧ L ≤ 8) (hU : U ≤ 1000000) (hM : MSM σ1 m R W) {c t sp : Nat} (hc : σ1 18 10 = nI c) (hc30 : c < 30) (hv : vst m R t) (hsp : sp ≤ 200) {f : Int32 → Int32 → qSt → qR} {q : Nat × Nat} : ∀ n r, r ≤ m → m - r + 1 < n → chO R (capW W) (dK m R (capW W)) pr1 t sp (m - r) r = some q →
    fX4_layWorstPlan_38 18 f n (nI t) (nI sp) (-1) (nI r) σ1 = f (nI (aft t q.1 q.2)) (nI (sp + q.2)) (qset (qset σ1 24 c (nI (10 * q.1 + q.2))) 18 10 (nI (c + 1))) := by
  intro n
  have hR := hm.2.2
  have hm1 := hm.1
  have ht := hv.1
  induction n with
  | zero => intro r h1 h2 _; omega
  | succ n ih =>
    intro r h1 h2 hch
    unfold fX4_layWorstPlan_38
    rw [hG.1]
    rcases Nat.lt_or_ge r m with hr | hr
    · have hln : ln m R r = R := by unfold ln; rw [if_pos hr]
      have hgr := hv.2 r (by omega)
      rw [if_neg (nI_ge hr (by omega)), if_neg (by decide), qb_ok (e_gone (by omega) (by omega))]
      show fX4_layWorstPlan_65 18 _ qfu (nI t) (nI sp) (-1) (nI r) (nI (gn t r) + 1) (nI (gn t r) + 1) σ1 = _
      rw [nI_1, e_layWorstPlan_65 hG hm hW h12 h13 he hL hU hM hc hc30 hv hr hsp qfu (gn t r + 1) (by omega) (by omega) (by unfold qfu; omega), show R + 1 - (gn t r + 1) = R - gn t r by omega]
      rw [show m - r = (m - (r + 1)) + 1 by omega, chO] at hch
      by_cases hq : (sp : Int) ≤ capW W (gn t r + 1)
      · rw [if_pos hq] at hch
        rw [if_pos hq]
        cases hf : fnd (okT (dK m R (capW W)) pr1 t sp r) (R - gn t r) (gn t r + 1) with
        | none =>
          rw [hf] at hch
          exact ih (r + 1) (by omega) (by omega) hch
        | some s =>
          rw [hf] at hch
          cases hch
          have hfi := fnd_in _ _ _ hf
          have ha := aft_gn hR hv (r := r) (s := s) (by omega) (by omega) (by omega)
          have hat := ha.1.1
          obtain ⟨n', rfl⟩ : ∃ n', n = n' + 1 := ⟨n - 1, by omega⟩
          show fX4_layWorstPlan_38 18 f (n' + 1) (nI t) (nI sp) (nI (aft t r s)) (nI (r + 1)) (qset σ1 24 c (nI (10 * r + s))) = _
          unfold fX4_layWorstPlan_38 fX4_layWorstPlan_157
          have e1 : (qset σ1 24 c (nI (10 * r + s))) 18 10 = nI c := by rw [qset_ne (by omega)]; exact hc
          have hqc : qin (nI c) (qlen (18 + 6)) = true := (qin_nI (by omega)).mpr (by show _ < 30; omega)
          have e3 : (qset σ1 24 c (nI (10 * r + s))) (18 + 6) c = nI (10 * r + s) := qset_same
          have e4 : nI (10 * r + s) - nI (10 * r + s) / 10 * 10 = nI s := by
            rw [show (10 : Int32) = nI 10 from rfl, pk_rem (by omega) (by omega) (by omega), show (10 * r + s) % 10 = s by omega]
          rw [e1, if_pos hqc, nI_clamp (by omega), e3, e4, nI_add, nI_1]
          by_cases hz : (qset σ1 24 c (nI (10 * r + s))) 18 0 ≤ nI (r + 1)
          · rw [if_pos hz]
          · rw [if_neg hz, if_pos (by exact nI_pos' (by omega))]
      · rw [if_neg hq] at hch
        rw [if_neg hq]
        exact ih (r + 1) (by omega) (by omega) hch
    · rw [show m - r = 0 by omega] at hch
      cases hch
/-- while no more is spent than the state is worth, there is a trip -/
theorem chW_some (hm : okm m R) {W t : Nat} (hW : W ≤ 13440) {sp : Int} (hsp : -192 ≤ sp) (hv : vst m R t) (hl : ¬ t = lst m R) (hle : sp ≤ dK m R (capW W) t) : ∃ q, chO R (capW W) (dK m R (capW W)) pr1 t sp m 0 = some q := by
  have hR := hm.2.2
  have hm1 := hm.1
  have hB : BG = 10000000 := rfl
  have heq : dK m R (capW W) t = dst m R (capW W) pr1 BG (dK m R (capW W)) t := dD_eq hR hv
  unfold dst at heq
  rw [if_neg hl] at heq
  have hex : ∃ r, r < 3 ∧ sp ≤ thr m R (capW W) pr1 BG (dK m R (capW W)) t r := by
    rcases (show sp ≤ thr m R (capW W) pr1 BG (dK m R (capW W)) t 0 ∨ sp ≤ thr m R (capW W) pr1 BG (dK m R (capW W)) t 1 ∨ sp ≤ thr m R (capW W) pr1 BG (dK m R (capW W)) t 2 by omega) with e | e | e
    · exact ⟨0, by omega, e⟩
    · exact ⟨1, by omega, e⟩
    · exact ⟨2, by omega, e⟩
  obtain ⟨r, hr3, he⟩ := hex
  have hgl : gn t r < ln m R r := by
    rcases Nat.lt_or_ge (gn t r) (ln m R r) with q | q
    · exact q
    · unfold thr at he
      rw [if_neg (by omega)] at he
      omega
  have hrm : r < m := by
    unfold ln at hgl
    split at hgl
    · assumption
    · omega
  have hln : ln m R r = R := by unfold ln; rw [if_pos hrm]
  unfold thr at he
  rw [if_pos hgl, Int.le_min] at he
  obtain ⟨s, q1, q2, q3⟩ := (le_mxx _ _).mp he.2
  have s3 : okT (dK m R (capW W)) pr1 t sp r s = true := by
    unfold okT
    rw [decide_eq_true_eq]
    unfold tv at q3
    omega
  have key : ∀ n r0, r0 ≤ r → r < r0 + n → ∃ q, chO R (capW W) (dK m R (capW W)) pr1 t sp n r0 = some q := by
    intro n
    induction n with
    | zero => intro r0 h1 h2; omega
    | succ n ih =>
      intro r0 h1 h2
      unfold chO
      by_cases hrr : r0 = r
      · subst hrr
        rw [if_pos he.1]
        cases hf : fnd (okT (dK m R (capW W)) pr1 t sp r0) (R - gn t r0) (gn t r0 + 1) with
        | some s' => exact ⟨_, rfl⟩
        | none =>
          rw [fnd_none] at hf
          have := hf s (by omega) (by omega)
          rw [s3] at this
          cases this
      · have hn := ih (r0 + 1) (by omega) (by omega)
        split
        · split
          · exact ⟨_, rfl⟩
          · exact hn
        · exact hn
  exact key m 0 (by omega) (by omega)
theorem e_layWorstPlan_25 (hm : okm m R) {W U L : Nat} (hW : W ≤ 13440) (he : 840 * U = W * L) (hL : 1 ≤ L ∧ L ≤ 8) (hU : U ≤ 1000000) : ∀ n k t l (sp : Nat) σ, MG σ m R sh → σ 18 12 = nI U → σ 18 13 = nI L → MSM σ m R W → MQ4 σ l → vst m R t → (¬ t = lst m R → (sp : Int) ≤ dK m R (capW W) t) → mu m R t ≤ k → l.length + k ≤ 30 → k < n →
    ∃ σ', fX4_layWorstPlan_25 18 n (nI t) (nI sp) σ = some (0, σ') ∧ frP σ σ' ∧ MQ4 σ' (l ++ gp m R (capW W) (dK m R (capW W)) pr1 k t sp) := by
  intro n
  have hR := hm.2.2
  have hm1 := hm.1
  have hl729 := (lst_ok hm.1 hR).1.1
  induction n with
  | zero => intro k t l sp σ _ _ _ _ _ _ _ _ _ h; omega
  | succ n ih =>
    intro k t l sp σ hG h12 h13 hM hQ hv hsp hmu hlen hk
    have ht := hv.1
    unfold fX4_layWorstPlan_25
    rw [qb_ok (e_lastState hG)]
    by_cases hl : t = lst m R
    · refine ⟨σ, by rw [if_pos (by rw [hl])], fun _ _ _ _ => rfl, ?_⟩
      rw [hl, gp_lst hm, List.append_nil]
      exact hQ
    · have hmp := mu_pos hm hv hl
      have hsp' := hsp hl
      have hsp128 : dK m R (capW W) t ≤ 128 := dK_le hR (by omega) (fun k _ h2 => (capW_b hW (by omega)).2) hv hl
      obtain ⟨k', rfl⟩ : ∃ k', k = k' + 1 := ⟨k - 1, by omega⟩
      obtain ⟨q, hq⟩ := chW_some hm hW (sp := sp) (by omega) hv hl hsp'
      have hok := chO_ok (m := m) m 0 q (by omega) hq
      have hln : ln m R q.1 = R := by unfold ln; rw [if_pos hok.1]
      have ha := aft_gn hR hv (r := q.1) (s := q.2) (by omega) hok.2.2.1 (by omega)
      have h5 := hok.2.2.2.2
      unfold okT at h5
      rw [decide_eq_true_eq, pr1_eq] at h5
      have hL30 : l.length < 30 := by omega
      rw [if_neg (by rw [nI_eq (by omega) (by omega)]; exact hl), show (0 : Int32) = nI 0 from rfl, e_layWorstPlan_38 hG hm hW h12 h13 he hL hU hM hQ.1 hL30 hv (by omega) qfu 0 (by omega) (by unfold qfu; omega) hq]
      generalize hσ1 : qset (qset σ 24 l.length (nI (10 * q.1 + q.2))) 18 10 (nI (l.length + 1)) = σ1
      have f1 : frP σ σ1 := fun k j q1 q2 => by rw [← hσ1, qset_ne q2, qset_ne (by omega)]
      obtain ⟨σ2, z1, z2, z3⟩ := ih k' (aft t q.1 q.2) (l ++ [q]) (sp + q.2) σ1 (hG.keep (fun k j hk => f1 k j (by omega) (by omega))) ((f1 18 12 (by omega) (by omega)).trans h12) ((f1 18 13 (by omega) (by omega)).trans h13) (fun t hv => by rw [f1 23 t (by omega) (by omega)]; exact hM t hv) (by rw [← hσ1]; exact hQ.snoc hL30) ha.1 (fun _ => by omega) (by omega) (by rw [List.length_append]; show l.length + 1 + k' ≤ 30; omega) (by omega)
      refine ⟨σ2, z1, fun k j q1 q2 => (z2 k j q1 q2).trans (f1 k j q1 q2), ?_⟩
      rw [gp, hq]
      show MQ4 σ2 (l ++ (q :: gp m R (capW W) (dK m R (capW W)) pr1 k' (aft t q.1 q.2) ((sp : Int) + q.2 * pr1 (aft t q.1 q.2))))
      rw [pr1_eq, Int.mul_one, ← Int.natCast_add]
      rw [List.append_assoc] at z3
      exact z3
theorem e_layWorstPlan (hG : MG σ m R sh) (hm : okm m R) {W : Nat} (hW : isW m R W) (hX : KX σ) : ∃ σ', fX4_layWorstPlan 18 σ = some (0, σ') ∧ frM σ σ' ∧ KX σ' ∧ MQ4 σ' (plX m R W) := by
  have hR := hm.2.2
  obtain ⟨σ1, w1, w2, w3, U, L, x1, x2, x3, x4, x5, x6⟩ := e4_findWorst hG hm hW hX
  have hG1 := hG.keep (σ' := σ1) (fun k j hk => w2 k j (by omega) (by omega))
  have hW2 := hW.2.1
  have hUb : U ≤ 100000 := by
    have : W * L ≤ 13440 * 8 := Nat.mul_le_mul hW2 x5
    omega
  obtain ⟨σ2, y1, y2, y3⟩ := e_layMost hG1 hm (up := U) (low := L) x4 (by omega) hUb (okU_le hUb hR)
  have hcap : ∀ k, 1 ≤ k → k ≤ R → capU U L k = capW W k := fun k h1 h2 => by
    unfold capU capW
    rw [capUW x3 x4 h1 (by omega)]
  have hM : ∀ t, vst m R t → σ2 23 t = iI (eK m R (capW W) t) := fun t hv => by
    rw [y3 t hv]
    unfold eK
    rw [dK_congr hm hcap hv]
  unfold fX4_layWorstPlan
  rw [qb_ok w1, x1, x2, qb_ok y1]
  generalize hσ3 : qset σ2 18 10 0 = σ3
  have k3 : ∀ k j, k ≠ 23 → ¬ (k = 18 ∧ j = 10) → σ3 k j = σ1 k j := fun k j q1 q2 => by rw [← hσ3, qset_ne q2]; exact y2 k j q1
  have hQ : MQ4 σ3 [] := ⟨by rw [← hσ3]; exact qset_same, by decide, fun i hi => absurd hi (Nat.not_lt_zero _)⟩
  obtain ⟨σ4, z1, z2, z3⟩ := e_layWorstPlan_25 (sh := sh) hm hW2 x3 ⟨x4, x5⟩ x6 qfu 30 0 [] 0 σ3 (hG1.keep (fun k j hk => k3 k j (by omega) (by omega))) ((k3 18 12 (by omega) (by omega)).trans x1) ((k3 18 13 (by omega) (by omega)).trans x2) (fun t hv => by rw [← hσ3, qset_ne (by omega)]; exact hM t hv) hQ vst0 (fun _ => hW.2.2.1) (by have := mu_le (m := m) hR 0; omega) (by decide) (by unfold qfu; omega)
  refine ⟨σ4, z1, fun k j q1 q2 q3 q4 => ?_, Or.inr ⟨m, R, W, hm, ?_, hW, U, L, ?_, ?_, x3, x4, x5, x6⟩, z3⟩
  · rw [z2 k j q3 (by omega), k3 k j q2 (by omega)]
    exact w2 k j q2 (by omega)
  · rw [z2 18 14 (by omega) (by omega), k3 18 14 (by omega) (by omega)]; exact w3
  · rw [z2 18 12 (by omega) (by omega), k3 18 12 (by omega) (by omega)]; exact x1
  · rw [z2 18 13 (by omega) (by omega), k3 18 13 (by omega) (by omega)]; exact x2
/-! the class: what is known of the least worst case -/
def KW (σ : qSt) (m R : Nat) : Prop := σ 0 8 = 0 ∨ (σ 0 8 = 1 ∧ ∃ W, isW m R W ∧ σ 0 10 = nI W ∧ PL σ 15 (plX m R W).length (lry (plX m R W)) (lfa (plX m R W)))
theorem e_findWorst (hG : CG σ m R sh) (hK : KW σ m R) : ∃ W σ', isW m R W ∧ fX3_findWorst 0 σ = some (0, σ') ∧ (∀ k j, (k ≠ 0 ∨ (j ≠ 8 ∧ j ≠ 10)) → k ≠ 6 → k ≠ 7 → k ≠ 8 → k ≠ 9 → k ≠ 10 → k ≠ 11 → k ≠ 15 → k ≠ 16 → k ≠ 17 → σ' k j = σ k j) ∧ σ' 0 8 = 1 ∧ σ' 0 10 = nI W ∧ PL σ' 15 (plX m R W).length (lry (plX m R W)) (lfa (plX m R W)) := by
  unfold fX3_findWorst
  rcases hK with h | ⟨h1, W, hW, h2, h3⟩
  · rw [if_pos h]
    obtain ⟨W, σ1, hW, z1, z2, z3⟩ := e_planWorst hG
    show ∃ W σ', _ ∧ qb (fX1_planWorst 6 1 15 σ) _ = _ ∧ _
    rw [qb_ok z1]
    refine ⟨W, _, hW, rfl, fun k j q0 q1 q2 q3 q4 q5 q6 q7 q8 q9 => ?_, qset_same, ?_, ?_⟩
    · rw [qset_ne (by omega), qset_ne (by omega)]
      exact z2 k j q1 q2 q3 q4 q5 q6 q7 q8 q9
    · rw [qset_ne (by omega), qset_same]
    · refine ⟨z3.1, ?_, z3.2.2.1, fun i hi => ?_⟩
      · rw [qset_ne (by omega), qset_ne (by omega)]; exact z3.2.1
      · rw [qset_ne (by omega), qset_ne (by omega), qset_ne (by omega), qset_ne (by omega)]; exact z3.2.2.2 i hi
  · rw [if_neg (by rw [h1]; decide)]
    exact ⟨W, σ, hW, rfl, fun _ _ _ _ _ _ _ _ _ _ _ _ => rfl, h1, h2, h3⟩
end MW3
