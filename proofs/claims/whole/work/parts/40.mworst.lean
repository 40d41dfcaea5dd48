/-! ===== pure: the least worst case: one number for class and model ===== -/
theorem mxx_mono {f g : Nat → Int} : ∀ k s, (∀ i, s ≤ i → i ≤ s + k → f i ≤ g i) → mxx f k s ≤ mxx g k s := by
  intro k
  induction k with
  | zero => intro s h; exact h s (Nat.le_refl _) (by omega)
  | succ k ih =>
    intro s h
    unfold mxx
    have h1 := h s (Nat.le_refl _) (by omega)
    have h2 := ih (s + 1) (fun i q1 q2 => h i (by omega) (by omega))
    omega
section MWORST
variable {m R : Nat}
theorem dK_mono (hm : okm m R) {c c' : Nat → Int} (hc : ∀ k, 1 ≤ k → k ≤ R → c k ≤ c' k) : ∀ n t, vst m R t → mu m R t ≤ n → dK m R c t ≤ dK m R c' t := by
  intro n
  have hR := hm.2.2
  induction n with
  | zero =>
    intro t hv hmu
    by_cases hl : t = lst m R
    · rw [hl, dK_lst hm, dK_lst hm]; exact Int.le_refl _
    · have := mu_pos hm hv hl
      omega
  | succ n ih =>
    intro t hv hmu
    by_cases hl : t = lst m R
    · rw [hl, dK_lst hm, dK_lst hm]; exact Int.le_refl _
    · have e : ∀ r, r < 3 → thr m R c pr1 BG (dK m R c) t r ≤ thr m R c' pr1 BG (dK m R c') t r := by
        intro r hr
        unfold thr
        split
        · rename_i hg
          have hln := ln_le (m := m) (R := R) (r := r)
          have h1 := hc (gn t r + 1) (by omega) (by omega)
          have h2 := mxx_mono (f := tv pr1 (dK m R c) t r) (g := tv pr1 (dK m R c') t r) (ln m R r - gn t r - 1) (gn t r + 1) (fun i q1 q2 => by
            have ha := aft_gn hR hv hr (s := i) (by omega) (by omega)
            have := ih _ ha.1 (by omega)
            unfold tv
            rw [pr1_eq]
            omega)
          omega
        · exact Int.le_refl _
      have h1 : dK m R c t = dst m R c pr1 BG (dK m R c) t := dD_eq hR hv
      have h2 : dK m R c' t = dst m R c' pr1 BG (dK m R c') t := dD_eq hR hv
      rw [h1, h2]
      unfold dst
      rw [if_neg hl, if_neg hl]
      have e0 := e 0 (by omega)
      have e1 := e 1 (by omega)
      have e2 := e 2 (by omega)
      omega
theorem dK_mono0 (hm : okm m R) {c c' : Nat → Int} (hc : ∀ k, 1 ≤ k → k ≤ R → c k ≤ c' k) : dK m R c 0 ≤ dK m R c' 0 := dK_mono hm hc 24 0 vst0 (mu_le hm.2.2 0)
theorem div840 {k : Nat} (h1 : 1 ≤ k) (h2 : k ≤ 8) : ∃ q, 1 ≤ q ∧ k * q = 840 := by
  have : ∀ k, k < 9 → 1 ≤ k → ∃ q, q < 841 ∧ 1 ≤ q ∧ k * q = 840 := by
    intro k hk hk1
    rcases (show k = 1 ∨ k = 2 ∨ k = 3 ∨ k = 4 ∨ k = 5 ∨ k = 6 ∨ k = 7 ∨ k = 8 by omega) with rfl | rfl | rfl | rfl | rfl | rfl | rfl | rfl
    · exact ⟨840, by omega, by omega, by omega⟩
    · exact ⟨420, by omega, by omega, by omega⟩
    · exact ⟨280, by omega, by omega, by omega⟩
    · exact ⟨210, by omega, by omega, by omega⟩
    · exact ⟨168, by omega, by omega, by omega⟩
    · exact ⟨140, by omega, by omega, by omega⟩
    · exact ⟨120, by omega, by omega, by omega⟩
    · exact ⟨105, by omega, by omega, by omega⟩
  obtain ⟨q, -, h⟩ := this k (by omega) h1
  exact ⟨q, h⟩
/-- the floor of a fraction's multiple, by parts -/
theorem capU_W {up low k : Nat} (hlow : 1 ≤ low) (h1 : 1 ≤ k) (h2 : k ≤ 8) : up * k / low = (840 * up / low) * k / 840 := by
  obtain ⟨q, hq1, hq⟩ := div840 h1 h2
  have e1 : (840 * up / low) * k / 840 = 840 * up / low / q := by
    rw [← hq, Nat.mul_comm k q, Nat.mul_comm (q * k * up / low) k, Nat.mul_comm q k, Nat.mul_div_mul_left _ _ (by omega)]
  rw [e1, Nat.div_div_eq_div_mul, ← hq, show k * q * up = up * k * q by rw [Nat.mul_comm (k * q) up, Nat.mul_assoc], Nat.mul_div_mul_right _ _ (by omega)]
theorem feas_iff (hm : okm m R) {W up low : Nat} (hW : isW m R W) (hlow : 1 ≤ low) : 0 ≤ dK m R (capU up low) 0 ↔ W * low ≤ 840 * up := by
  have hR := hm.2.2
  constructor
  · intro h
    apply Classical.byContradiction
    intro hn
    apply hW.2.2.2
    unfold feas
    refine Int.le_trans h (dK_mono0 hm (fun k h1 h2 => ?_))
    unfold capU capW
    have ht : 840 * up / low ≤ W - 1 := by
      have : 840 * up / low < W := (Nat.div_lt_iff_lt_mul (by omega)).mpr (by omega)
      omega
    rw [capU_W hlow h1 (by omega)]
    have : 840 * up / low * k / 840 ≤ (W - 1) * k / 840 := Nat.div_le_div_right (Nat.mul_le_mul_right _ ht)
    exact Int.ofNat_le.mpr this
  · intro h
    have hf := hW.2.2.1
    unfold feas at hf
    refine Int.le_trans hf (dK_mono0 hm (fun k h1 h2 => ?_))
    unfold capU capW
    apply Int.ofNat_le.mpr
    rw [Nat.le_div_iff_mul_le (by omega)]
    have h3 : W * k / 840 * 840 ≤ W * k := Nat.div_mul_le_self _ _
    have h4 : W * k / 840 * low * 840 ≤ up * k * 840 := by
      calc W * k / 840 * low * 840 = W * k / 840 * 840 * low := by rw [Nat.mul_assoc, Nat.mul_comm low 840, ← Nat.mul_assoc]
        _ ≤ W * k * low := Nat.mul_le_mul_right _ h3
        _ = W * low * k := by rw [Nat.mul_assoc, Nat.mul_comm k low, ← Nat.mul_assoc]
        _ ≤ 840 * up * k := Nat.mul_le_mul_right _ h
        _ = up * k * 840 := by rw [Nat.mul_comm 840 up, Nat.mul_assoc, Nat.mul_comm 840 k, ← Nat.mul_assoc]
    omega
/-- some ray's step divides it exactly -/
theorem isW_exact (hm : okm m R) {W : Nat} (hW : isW m R W) : ∃ k j, 1 ≤ k ∧ k ≤ R ∧ W * k = 840 * j := by
  have hR := hm.2.2
  apply Classical.byContradiction
  intro hno
  apply hW.2.2.2
  have hf := hW.2.2.1
  unfold feas at hf ⊢
  refine Int.le_trans hf (dK_mono0 hm (fun k h1 h2 => ?_))
  unfold capW
  apply Int.ofNat_le.mpr
  apply Classical.byContradiction
  intro hgt
  apply hno
  refine ⟨k, W * k / 840, h1, h2, ?_⟩
  obtain ⟨q, hq1, hq⟩ := div840 h1 (by omega)
  have hw1 := hW.1
  have a1 : W * k / 840 * 840 ≤ W * k := Nat.div_mul_le_self _ _
  have a2 : (W - 1) * k < W * k / 840 * 840 := by
    have : (W - 1) * k / 840 < W * k / 840 := by omega
    have h5 := (Nat.div_lt_iff_lt_mul (by omega)).mp this
    exact h5
  generalize W * k / 840 = j at *
  rw [← hq, show j * (k * q) = j * q * k by rw [Nat.mul_comm k q, Nat.mul_assoc]] at a1 a2
  have b1 : j * q ≤ W := Nat.le_of_mul_le_mul_right a1 (by omega)
  have b2 : W - 1 < j * q := Nat.lt_of_mul_lt_mul_right a2
  have b3 : j * q = W := by omega
  rw [← hq, ← b3, Nat.mul_comm j q, Nat.mul_assoc q j k, Nat.mul_comm j k, ← Nat.mul_assoc, Nat.mul_comm q k]
theorem isW_unique (hm : okm m R) {W V : Nat} (h1 : isW m R W) (h2 : isW m R V) : W = V := by
  have key : ∀ W V, isW m R W → isW m R V → ¬ W < V := by
    intro W V h1 h2 hlt
    apply h2.2.2.2
    have hf := h1.2.2.1
    unfold feas at hf ⊢
    refine Int.le_trans hf (dK_mono0 hm (fun k _ _ => ?_))
    unfold capW
    exact Int.ofNat_le.mpr (Nat.div_le_div_right (Nat.mul_le_mul_right _ (by omega)))
  have a := key W V h1 h2
  have b := key V W h2 h1
  omega
end MWORST
