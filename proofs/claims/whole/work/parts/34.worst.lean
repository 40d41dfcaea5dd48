/-! ===== pure: the class's plan of the least worst case ===== -/
def capW (P : Nat) : Nat → Int := fun k => ((P * k / 840 : Nat) : Int)
def pr1 : Nat → Int := prS (fun _ _ => 0) 1
theorem pr1_eq (t : Nat) : pr1 t = 1 := rfl
/-- values of states with caps c, all prices 1 -/
def dK (m R : Nat) (c : Nat → Int) : Nat → Int := dD m R c pr1 BG
def feas (m R : Nat) (P : Nat) : Prop := 0 ≤ dK m R (capW P) 0
def isW (m R W : Nat) : Prop := 1 ≤ W ∧ W ≤ 13440 ∧ feas m R W ∧ ¬ feas m R (W - 1)
def plX (m R W : Nat) : List (Nat × Nat) := plW m R (capW W) (dK m R (capW W)) pr1 0
section EWORST
variable {m R : Nat} {c : Nat → Int}
/-- a state that isn't the last is worth no more than the greatest cap -/
theorem dK_le (hR : R ≤ 8) {C : Int} (hC : 0 ≤ C) (hc : ∀ k, 1 ≤ k → k ≤ R → c k ≤ C) {t : Nat} (hv : vst m R t) (hl : ¬ t = lst m R) : dK m R c t ≤ C := by
  have e : ∀ r, r < 3 → thr m R c pr1 BG (dK m R c) t r ≤ C := by
    intro r hr
    have hln := ln_le (m := m) (R := R) (r := r)
    unfold thr
    split
    · exact Int.le_trans (Int.min_le_left _ _) (hc _ (by omega) (by omega))
    · have hB : BG = 10000000 := rfl
      omega
  show dD m R c pr1 BG t ≤ C
  rw [dD_eq hR hv]
  unfold dst
  rw [if_neg hl]
  have e0 := e 0 (by omega)
  have e1 := e 1 (by omega)
  have e2 := e 2 (by omega)
  show max (thr m R c pr1 BG (dK m R c) t 0) (max (thr m R c pr1 BG (dK m R c) t 1) (thr m R c pr1 BG (dK m R c) t 2)) ≤ C
  omega
/-- a trip gives a lower bound -/
theorem dK_ge (hm : okm m R) {t r s : Nat} (hv : vst m R t) (hr : r < 3) (h1 : gn t r < s) (h2 : s ≤ ln m R r) : min (c (gn t r + 1)) (dK m R c (aft t r s) - s) ≤ dK m R c t := by
  have hR := hm.2.2
  have hthr : min (c (gn t r + 1)) (dK m R c (aft t r s) - s) ≤ thr m R c pr1 BG (dK m R c) t r := by
    unfold thr
    rw [if_pos (by omega)]
    have : dK m R c (aft t r s) - s ≤ mxx (tv pr1 (dK m R c) t r) (ln m R r - gn t r - 1) (gn t r + 1) := (le_mxx _ _).mpr ⟨s, by omega, by omega, by unfold tv; rw [pr1_eq]; omega⟩
    omega
  have heq : dK m R c t = dst m R c pr1 BG (dK m R c) t := dD_eq hR hv
  rw [heq]
  unfold dst
  rw [if_neg (by
    intro hl
    have := (lst_iff hm.1 hR hv).mp hl r hr
    omega)]
  rcases (show r = 0 ∨ r = 1 ∨ r = 2 by omega) with rfl | rfl | rfl <;> omega
theorem dK_lst (hm : okm m R) : dK m R c (lst m R) = BG := by
  have heq : dK m R c (lst m R) = dst m R c pr1 BG (dK m R c) (lst m R) := dD_eq hm.2.2 (lst_ok hm.1 hm.2.2).1
  rw [heq]
  unfold dst
  rw [if_pos rfl]
theorem not_feas0 (hm : okm m R) : ¬ feas m R 0 := by
  have hR := hm.2.2
  have h1R := hm.2.1
  have hB : BG = 10000000 := rfl
  have c0 : ∀ k, capW 0 k = 0 := fun k => by unfold capW; rw [Nat.zero_mul]; rfl
  have hv0 : vst m R 0 := vst0
  have e : ∀ r, r < 3 → thr m R (capW 0) pr1 BG (dK m R (capW 0)) 0 r < 0 := by
    intro r hr
    unfold thr
    split
    · rename_i hg
      have hrm : r < m := by
        unfold ln at hg
        split at hg
        · assumption
        · omega
      have hx : mxx (tv pr1 (dK m R (capW 0)) 0 r) (ln m R r - gn 0 r - 1) (gn 0 r + 1) ≤ -1 := by
        rw [mxx_le]
        intro s q1 q2
        have hs1 : gn 0 r < s := by omega
        have ha := aft_gn hR hv0 hr (s := s) hs1 (by omega)
        have hnl : ¬ aft 0 r s = lst m R := by
          intro hl
          have hall := (lst_iff hm.1 hR ha.1).mp hl
          have hoth : ∃ q, q < 2 ∧ q ≠ r := by
            rcases Nat.eq_zero_or_pos r with h0 | h0
            · exact ⟨1, by omega, by omega⟩
            · exact ⟨0, by omega, by omega⟩
          obtain ⟨q, hq1, hq2⟩ := hoth
          have h5 := hall q (by omega)
          rw [ha.2.2.1 q (by omega) hq2, gn_0] at h5
          unfold ln at h5
          have hm1 := hm.1
          rw [if_pos (by omega)] at h5
          omega
        have h6 := dK_le (c := capW 0) hR (C := 0) (Int.le_refl _) (fun k _ _ => by rw [c0]; exact Int.le_refl _) ha.1 hnl
        unfold tv
        rw [pr1_eq]
        omega
      have := Int.min_le_right (capW 0 (gn 0 r + 1)) (mxx (tv pr1 (dK m R (capW 0)) 0 r) (ln m R r - gn 0 r - 1) (gn 0 r + 1))
      omega
    · omega
  unfold feas
  have heq : dK m R (capW 0) 0 = dst m R (capW 0) pr1 BG (dK m R (capW 0)) 0 := dD_eq hR hv0
  rw [heq]
  unfold dst
  rw [if_neg (by
    intro hl
    have := (lst_iff hm.1 hR hv0).mp hl 0 (by omega)
    rw [gn_0] at this
    unfold ln at this
    have hm1 := hm.1
    rw [if_pos (by omega)] at this
    omega)]
  have e0 := e 0 (by omega)
  have e1 := e 1 (by omega)
  have e2 := e 2 (by omega)
  omega
/-- ray by ray, each to its end -/
theorem feas_top (hm : okm m R) (hc : ∀ k, 1 ≤ k → k ≤ R → ((R * (m - 1) : Nat) : Int) ≤ c k) : 0 ≤ dK m R c 0 := by
  have hR := hm.2.2
  have h1R := hm.2.1
  have hB : BG = 10000000 := rfl
  have hv0 : vst m R 0 := vst0
  have hl0 : ln m R 0 = R := by unfold ln; rw [if_pos (by have := hm.1; omega)]
  have hl1 : ln m R 1 = R := by unfold ln; rw [if_pos (by have := hm.1; omega)]
  have g0 := gn_0
  have a0 := aft_gn hR hv0 (r := 0) (s := R) (by omega) (by rw [gn_0]; omega) (by omega)
  have b0 := dK_ge (c := c) hm hv0 (r := 0) (s := R) (by omega) (by rw [gn_0]; omega) (by omega)
  have hg1 : gn (aft 0 0 R) 1 = 0 := by rw [a0.2.2.1 1 (by omega) (by omega), gn_0]
  have hg2 : gn (aft 0 0 R) 2 = 0 := by rw [a0.2.2.1 2 (by omega) (by omega), gn_0]
  have a1 := aft_gn hR a0.1 (r := 1) (s := R) (by omega) (by omega) (by omega)
  have b1 := dK_ge (c := c) hm a0.1 (r := 1) (s := R) (by omega) (by omega) (by omega)
  have c1 := hc 1 (by omega) (by omega)
  rw [gn_0, Nat.zero_add] at b0
  rw [hg1, Nat.zero_add] at b1
  have hh0 : gn (aft (aft 0 0 R) 1 R) 0 = R := by rw [a1.2.2.1 0 (by omega) (by omega), a0.2.1]
  have hh2 : gn (aft (aft 0 0 R) 1 R) 2 = 0 := by rw [a1.2.2.1 2 (by omega) (by omega), hg2]
  rcases hm.1 with h2 | h3
  · have hl2 : ln m R 2 = 0 := by unfold ln; rw [if_neg (by omega)]
    have hlast : aft (aft 0 0 R) 1 R = lst m R := by
      rw [lst_iff hm.1 hR a1.1]
      intro r hr
      rcases (show r = 0 ∨ r = 1 ∨ r = 2 by omega) with rfl | rfl | rfl
      · rw [hh0, hl0]
      · rw [a1.2.1, hl1]
      · rw [hh2, hl2]
    rw [hlast, dK_lst hm] at b1
    subst h2
    rw [show R * (2 - 1) = R by omega] at c1
    omega
  · have hl2 : ln m R 2 = R := by unfold ln; rw [if_pos (by omega)]
    have a2 := aft_gn hR a1.1 (r := 2) (s := R) (by omega) (by omega) (by omega)
    have b2 := dK_ge (c := c) hm a1.1 (r := 2) (s := R) (by omega) (by omega) (by omega)
    rw [hh2, Nat.zero_add] at b2
    have hlast : aft (aft (aft 0 0 R) 1 R) 2 R = lst m R := by
      rw [lst_iff hm.1 hR a2.1]
      intro r hr
      rcases (show r = 0 ∨ r = 1 ∨ r = 2 by omega) with rfl | rfl | rfl
      · rw [a2.2.2.1 0 (by omega) (by omega), hh0, hl0]
      · rw [a2.2.2.1 1 (by omega) (by omega), a1.2.1, hl1]
      · rw [a2.2.1, hl2]
    rw [hlast, dK_lst hm] at b2
    subst h3
    rw [show R * (3 - 1) = 2 * R by omega] at c1
    omega
theorem feas_all (hm : okm m R) : feas m R (840 * R * (m - 1)) := by
  refine feas_top hm (fun k h1 h2 => ?_)
  unfold capW
  have h3 : R * (m - 1) ≤ 840 * R * (m - 1) * k / 840 := by
    rw [Nat.le_div_iff_mul_le (by omega), show 840 * R * (m - 1) * k = R * (m - 1) * 840 * k by rw [Nat.mul_comm (R * (m - 1)) 840, Nat.mul_assoc 840]]
    exact Nat.le_mul_of_pos_right _ (by omega)
  omega
/-! the search by halves -/
def OW (σ : qSt) (m R : Nat) : Prop := σ 6 0 = nI m ∧ σ 6 1 = nI R ∧ σ 6 4 = nI 1 ∧ ∀ r g, r < 3 → g ≤ 8 → σ 8 (9 * r + g) = 0
theorem e_capBy_2 {P : Nat} (hP : P ≤ 13440) : ∀ n k σ, k ≤ 9 → 9 - k < n → ∃ σ', fX1_capBy_2 6 n (nI P) (nI k) σ = some (0, σ') ∧ (∀ q j, q ≠ 7 → σ' q j = σ q j) ∧ (∀ j, j < k → σ' 7 j = σ 7 j) ∧ ∀ j, k ≤ j → j < 9 → σ' 7 j = nI (P * j / 840) := by
  intro n
  induction n with
  | zero => intro k σ h1 h2; omega
  | succ n ih =>
    intro k σ h1 h2
    unfold fX1_capBy_2
    rcases Nat.lt_or_ge k 9 with hk | hk
    · have hPk : P * k ≤ 13440 * 8 := Nat.mul_le_mul hP (by omega)
      rw [if_neg (by show ¬ nI 9 ≤ nI k; exact nI_ge hk (by omega)), pk_mul, show (840 : Int32) = nI 840 from rfl, pk_div (by omega) (by omega) (by omega)]
      show ∃ σ', qb (fX3_put 7 _ _ σ) _ = _ ∧ _
      rw [qb_ok (e_put (by rw [qlen7]; omega)), nI_1]
      obtain ⟨σ', z1, z2, z3, z4⟩ := ih (k + 1) (qset σ 7 k (nI (P * k / 840))) (by omega) (by omega)
      refine ⟨σ', z1, fun q j hq => by rw [z2 q j hq, qset_ne (by omega)], fun j hj => by rw [z3 j (by omega), qset_ne (by omega)], fun j q1 q2 => ?_⟩
      by_cases he : j = k
      · subst he
        rw [z3 j (by omega), qset_same]
      · exact z4 j (by omega) q2
    · refine ⟨σ, by rw [if_pos (by show nI 9 ≤ nI k; exact nI_le hk (by omega))], fun _ _ _ => rfl, fun _ _ => rfl, fun j q1 q2 => by omega⟩
theorem e_capBy {P : Nat} (hP : P ≤ 13440) {σ : qSt} (hw : OW σ m R) (hm : okm m R) : ∃ σ', fX1_capBy 6 (nI P) σ = some (0, σ') ∧ (∀ q j, q ≠ 7 → σ' q j = σ q j) ∧ OL σ' m R (capW P) (fun _ _ => 0) 1 := by
  obtain ⟨σ', z1, z2, -, z4⟩ := e_capBy_2 hP qfu 0 σ (by omega) (by unfold qfu; omega)
  refine ⟨σ', z1, z2, (z2 6 0 (by omega)).trans hw.1, (z2 6 1 (by omega)).trans hw.2.1, (z2 6 4 (by omega)).trans hw.2.2.1, fun k q1 q2 => ?_, fun r g q1 q2 => ?_⟩
  · rw [z4 k (by omega) (by have := hm.2.2; omega)]
    exact iI_n _
  · have hl := ln_le (m := m) (R := R) (r := r)
    rw [z2 8 _ (by omega), hw.2.2.2 r g q1 (by have := hm.2.2; omega)]
    rfl
theorem okc_W {P : Nat} (hP : P ≤ 13440) (hR : R ≤ 8) : okc m R (capW P) (fun _ _ => 0) 1 := by
  refine ⟨fun k h1 h2 => ?_, fun t _ => ?_⟩
  · have hPk : P * k ≤ 13440 * 8 := Nat.mul_le_mul hP (by omega)
    have : P * k / 840 ≤ P * k := Nat.div_le_self _ _
    have hB : BG = 10000000 := rfl
    unfold capW
    omega
  · unfold prS
    dsimp only
    omega
/-- caps and a sweep -/
theorem e_try {P : Nat} (hP : P ≤ 13440) {σ : qSt} (hw : OW σ m R) (hm : okm m R) : ∃ σ1 σ2, fX1_capBy 6 (nI P) σ = some (0, σ1) ∧ fX1_sweep 6 σ1 = some (0, σ2) ∧ (∀ q j, q ≠ 7 → q ≠ 9 → q ≠ 10 → σ2 q j = σ q j) ∧ OL σ2 m R (capW P) (fun _ _ => 0) 1 ∧ MS σ2 m R (dK m R (capW P)) := by
  obtain ⟨σ1, z1, z2, z3⟩ := e_capBy hP hw hm
  obtain ⟨σ2, w1, w2, w3⟩ := e_sweep hm z3 (okc_W hP hm.2.2)
  refine ⟨σ1, σ2, z1, w1, fun q j h1 h2 h3 => (w2 q j h2 h3).trans (z2 q j h1), OL.fr z3 w2, fun t hv => ?_⟩
  have := w3 (gn t 0) (gn t 1) (gn t 2) (hv.2 0 (by omega)) (hv.2 1 (by omega)) (hv.2 2 (by omega))
  rw [tt_inv hv.1] at this
  exact this
theorem dK_b {P : Nat} (hP : P ≤ 13440) (hR : R ≤ 8) : ∀ t, vst m R t → -12000000 ≤ dK m R (capW P) t ∧ dK m R (capW P) t ≤ 10000000 := fun t hv => dD_b hR (okc_W (m := m) hP hR).1 (okc_W (m := m) hP hR).2 hv
theorem e_planWorst_111 {W : Nat} (hW : isW m R W) {σ : qSt} (hw : OW σ m R) (hm : okm m R) : ∃ σ', fX1_planWorst_111 6 15 (nI W) σ = some (nI W, σ') ∧ frC 15 σ σ' ∧ PL σ' 15 (plX m R W).length (lry (plX m R W)) (lfa (plX m R W)) := by
  obtain ⟨σ1, σ2, z1, z2, z3, z4, z5⟩ := e_try hW.2.1 hw hm
  obtain ⟨σ3, y1, y2, y3⟩ := e_write (k2 := 15) (by omega) ⟨rfl, rfl⟩ hm (dK_b hW.2.1 hm.2.2) (okc_W hW.2.1 hm.2.2) z4 z5 (sp := 0) ⟨by omega, by omega⟩
  refine ⟨σ3, ?_, ?_, y3⟩
  · unfold fX1_planWorst_111
    rw [qb_ok z1, qb_ok z2, show (0 : Int32) = iI 0 from rfl, qb_ok y1]
  · have c1 : frC 15 σ σ2 := fun k j q1 q2 q3 q4 q5 q6 q7 q8 q9 => z3 k j q2 q4 q5
    exact c1.trans y2.toC
theorem e_planWorst_51 (hm : okm m R) : ∀ n lo hi i σ, OW σ m R → lo < hi → hi ≤ 13440 → i ≤ 14 → hi - lo ≤ 2 ^ (14 - i) → ¬ feas m R lo → feas m R hi → 14 - i < n → ∃ W σ', isW m R W ∧ fX1_planWorst_51 6 15 n (nI lo) (nI hi) (nI i) σ = some (nI W, σ') ∧ frC 15 σ σ' ∧ PL σ' 15 (plX m R W).length (lry (plX m R W)) (lfa (plX m R W)) := by
  intro n
  induction n with
  | zero => intro lo hi i σ _ _ _ _ _ _ _ h; omega
  | succ n ih =>
    intro lo hi i σ hw h1 h2 h3 h4 h5 h6 h7
    unfold fX1_planWorst_51
    by_cases hend : hi - lo ≤ 1
    · have hW : isW m R hi := ⟨by omega, h2, h6, by rw [show hi - 1 = lo by omega]; exact h5⟩
      obtain ⟨σ', z1, z2, z3⟩ := e_planWorst_111 hW hw hm
      refine ⟨hi, σ', hW, ?_, z2, z3⟩
      rw [pk_sub (by omega)]
      by_cases h14 : (14 : Int32) ≤ nI i
      · rw [if_pos h14, z1]
      · rw [if_neg h14, if_pos (by exact nI_le (b := 1) hend (by omega)), z1]
    · have hi14 : i < 14 := by
        rcases Nat.lt_or_ge i 14 with q | q
        · exact q
        · rw [show 14 - i = 0 by omega] at h4
          omega
      have hpow : 2 ^ (14 - i) = 2 * 2 ^ (14 - (i + 1)) := by rw [show 14 - i = (14 - (i + 1)) + 1 by omega, Nat.pow_succ]; omega
      rw [if_neg (by show ¬ nI 14 ≤ nI i; exact nI_ge hi14 (by omega)), pk_sub (by omega), if_neg (by show ¬ nI (hi - lo) ≤ nI 1; exact nI_ge (by omega) (by omega)), nI_add, show (2 : Int32) = nI 2 from rfl, pk_div (by omega) (by omega) (by omega)]
      obtain ⟨σ1, σ2, z1, z2, z3, z4, z5⟩ := e_try (P := (lo + hi) / 2) (by omega) hw hm
      have hw2 : OW σ2 m R := ⟨(z3 6 0 (by omega) (by omega) (by omega)).trans hw.1, (z3 6 1 (by omega) (by omega) (by omega)).trans hw.2.1, (z3 6 4 (by omega) (by omega) (by omega)).trans hw.2.2.1, fun r g q1 q2 => (z3 8 _ (by omega) (by omega) (by omega)).trans (hw.2.2.2 r g q1 q2)⟩
      have c1 : frC 15 σ σ2 := fun k j q1 q2 q3 q4 q5 q6 q7 q8 q9 => z3 k j q2 q4 q5
      have h9 := z5 0 vst0
      rw [show cx 0 = 0 from rfl] at h9
      have hb := dK_b (P := (lo + hi) / 2) (by omega) hm.2.2 0 (vst0 (m := m) (R := R))
      rw [qb_ok z1, qb_ok z2]
      show ∃ W σ', _ ∧ qb (fX3_at 9 (nI 0) σ2) _ = _ ∧ _
      rw [qb_ok (e_at (by rw [qlen9]; omega)), h9, nI_1, show (0 : Int32) = iI 0 from rfl]
      by_cases hf : feas m R ((lo + hi) / 2)
      · obtain ⟨W, σ', y1, y2, y3, y4⟩ := ih lo ((lo + hi) / 2) (i + 1) σ2 hw2 (by omega) (by omega) (by omega) (by omega) h5 hf (by omega)
        refine ⟨W, σ', y1, ?_, c1.trans y3, y4⟩
        rw [if_neg (by rw [iI_lt (by unfold bd; omega) (by unfold bd; omega)]; unfold feas at hf; omega)]
        exact y2
      · obtain ⟨W, σ', y1, y2, y3, y4⟩ := ih ((lo + hi) / 2) hi (i + 1) σ2 hw2 (by omega) (by omega) (by omega) (by omega) hf h6 (by omega)
        refine ⟨W, σ', y1, ?_, c1.trans y3, y4⟩
        rw [if_pos (by rw [iI_lt (by unfold bd; omega) (by unfold bd; omega)]; unfold feas at hf; omega)]
        exact y2
theorem e_planWorst {σ : qSt} {sh : Nat → Nat → Nat} (hG : CG σ m R sh) : ∃ W σ', isW m R W ∧ fX1_planWorst 6 1 15 σ = some (nI W, σ') ∧ frC 15 σ σ' ∧ PL σ' 15 (plX m R W).length (lry (plX m R W)) (lfa (plX m R W)) := by
  have g3 := hG.2.2.1
  have hm : okm m R := ⟨by omega, by omega, by omega⟩
  unfold fX1_planWorst
  have e1 : qset σ 6 0 (σ 1 0) 1 1 = σ 1 1 := qset_ne (by omega)
  rw [e1]
  show ∃ W σ', _ ∧ qb (fX3_putAll 8 0 _) _ = _ ∧ _
  rw [qb_ok e_putAll]
  generalize hσ1 : qfill (qset (qset (qset σ 6 0 (σ 1 0)) 6 1 (σ 1 1)) 6 4 1) 8 0 0 = σ1
  have k1 : ∀ k j, k ≠ 6 → k ≠ 8 → σ1 k j = σ k j := fun k j q1 q2 => by rw [← hσ1]; unfold qfill; rw [if_neg (by omega), qset_ne (by omega), qset_ne (by omega), qset_ne (by omega)]
  have hw : OW σ1 m R := by
    refine ⟨?_, ?_, ?_, fun r g q1 q2 => ?_⟩
    · rw [← hσ1]; unfold qfill; rw [if_neg (by omega), qset_ne (by omega), qset_ne (by omega), qset_same]; exact hG.1
    · rw [← hσ1]; unfold qfill; rw [if_neg (by omega), qset_ne (by omega), qset_same]; exact hG.2.1
    · rw [← hσ1]; unfold qfill; rw [if_neg (by omega), qset_same]; rfl
    · rw [← hσ1]; unfold qfill; rw [if_pos ⟨rfl, by omega, by rw [qlen8]; omega⟩]
  have hmul : 840 * R * (m - 1) ≤ 13440 := by
    have h8 : 840 * R ≤ 6720 := by omega
    have := Nat.mul_le_mul h8 (show m - 1 ≤ 2 by omega)
    omega
  have hpos : 1 ≤ 840 * R * (m - 1) := Nat.mul_le_mul (show 1 ≤ 840 * R by omega) (show 1 ≤ m - 1 by omega)
  have hval : 840 * σ1 6 1 * (σ1 6 0 - 1) = nI (840 * R * (m - 1)) := by
    rw [hw.1, hw.2.1, show (840 : Int32) = nI 840 from rfl, pk_mul, show (1 : Int32) = nI 1 from rfl, pk_sub (by omega), pk_mul]
  rw [hval]
  obtain ⟨W, σ', y1, y2, y3, y4⟩ := e_planWorst_51 hm qfu 0 (840 * R * (m - 1)) 0 σ1 hw (by omega) hmul (by omega) (by show _ ≤ 16384; omega) (not_feas0 hm) (feas_all hm) (by unfold qfu; omega)
  have c1 : frC 15 σ σ1 := fun k j q1 _ q3 _ _ _ _ _ _ => k1 k j q1 q3
  exact ⟨W, σ', y1, y2, c1.trans y3, y4⟩
end EWORST
