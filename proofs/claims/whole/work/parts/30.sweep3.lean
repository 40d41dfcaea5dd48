/-! ===== pure: the sweep's three loops ===== -/
def PBq (σ0 σ : qSt) (m R : Nat) (D pr : Nat → Int) (a q : Nat) : Prop := frS σ0 σ ∧
  (∀ a' b' c', a' ≤ ln m R 0 → b' ≤ ln m R 1 → c' ≤ ln m R 2 → (a < a' ∨ (a' = a ∧ q ≤ b')) → σ 9 (81 * a' + 9 * b' + c') = iI (D (tt a' b' c'))) ∧
  (∀ b' c', b' ≤ ln m R 1 → c' ≤ ln m R 2 → q ≤ b' → σ 10 (9 * b' + c') = iI (mxx (vA D pr b' c') (ln m R 0 - a) a)) ∧
  (∀ b' c', b' ≤ ln m R 1 → c' ≤ ln m R 2 → b' < q → a < ln m R 0 → σ 10 (9 * b' + c') = iI (mxx (vA D pr b' c') (ln m R 0 - (a + 1)) (a + 1))) ∧
  (q ≤ ln m R 1 → ∀ c', c' ≤ ln m R 2 → σ 10 (81 + 9 * a + c') = iI (mxx (vB D pr a c') (ln m R 1 - q) q))
def PAp (σ0 σ : qSt) (m R : Nat) (D pr : Nat → Int) (p : Nat) : Prop := frS σ0 σ ∧
  (∀ a' b' c', a' ≤ ln m R 0 → b' ≤ ln m R 1 → c' ≤ ln m R 2 → p ≤ a' → σ 9 (81 * a' + 9 * b' + c') = iI (D (tt a' b' c'))) ∧
  (p ≤ ln m R 0 → ∀ b' c', b' ≤ ln m R 1 → c' ≤ ln m R 2 → σ 10 (9 * b' + c') = iI (mxx (vA D pr b' c') (ln m R 0 - p) p))
section SW3
variable {m R : Nat} {cap : Nat → Int} {pc : Nat → Nat → Int} {bs : Int} {σ0 : qSt}
theorem iI_m1 : iI (-1) < 0 := by decide
theorem i_pred (w : Nat) : iI (((w + 1 : Nat) : Int) - 1) = nI w := by
  rw [iI_n]; congr 1; omega
theorem nI_m1 (w : Nat) : nI w + -1 = iI ((w : Int) - 1) := by
  rw [iI_n, show (-1 : Int32) = iI (-1) from rfl, iI_add]; rfl
theorem e_sweep_26 (hm : okm m R) (hO : OL σ0 m R cap pc bs) (hc : okc m R cap pc bs) {a b : Nat} (ha : a ≤ ln m R 0) (hb : b ≤ ln m R 1) {f : Int32 → Int32 → qSt → qR} : ∀ n w σ, PC σ0 σ m R (dD m R cap (prS pc bs) BG) (prS pc bs) a b w → w ≤ ln m R 2 + 1 → w < n → ∃ σ', PC σ0 σ' m R (dD m R cap (prS pc bs) BG) (prS pc bs) a b 0 ∧ fX1_sweep_26 6 f n (nI a) (nI b) (iI ((w : Int) - 1)) σ = f (nI a) (iI ((b : Int) - 1)) σ' := by
  intro n
  have l2 := ln_le (m := m) (R := R) (r := 2)
  have hR := hm.2.2
  induction n with
  | zero => intro w σ _ _ h; omega
  | succ n ih =>
    intro w σ hP h1 h2
    match w, h1, h2, hP with
    | 0, _, _, hP =>
      refine ⟨σ, hP, ?_⟩
      unfold fX1_sweep_26
      rw [if_pos (by show iI (((0 : Nat) : Int) - 1) < 0; exact iI_m1), nI_m1]
    | w + 1, h1, h2, hP =>
      obtain ⟨σ', e1, hP'⟩ := e_settle hm hO hc ha hb (c := w) (by omega) hP
      obtain ⟨σ'', q1, q2⟩ := ih w σ' hP' (by omega) (by omega)
      refine ⟨σ'', q1, ?_⟩
      unfold fX1_sweep_26
      rw [i_pred, if_neg (nI_pos (by omega)), qb_ok e1, nI_m1]
      exact q2
theorem PC.toB {D pr : Nat → Int} {a b : Nat} {σ : qSt} (h : PC σ0 σ m R D pr a b 0) : PBq σ0 σ m R D pr a b := by
  obtain ⟨p1, p2, p3, p4, p5, p6, p7⟩ := h
  refine ⟨p1, fun a' b' c' h1 h2 h3 hd => p2 a' b' c' h1 h2 h3 (by unfold dn; omega), fun b' c' h2 h3 hd => p3 b' c' h2 h3 (by unfold dn2; omega), fun b' c' h2 h3 hd hl => p4 b' c' h2 h3 (by unfold dn2; omega) hl, fun hq c' h3 => p5 c' h3 (by omega)⟩
theorem PBq.toC {D pr : Nat → Int} {a b : Nat} {σ : qSt} (h : PBq σ0 σ m R D pr a (b + 1)) : PC σ0 σ m R D pr a b (ln m R 2 + 1) := by
  obtain ⟨p1, p2, p3, p4, p5⟩ := h
  refine ⟨p1, fun a' b' c' h1 h2 h3 hd => p2 a' b' c' h1 h2 h3 (by unfold dn at hd; omega), fun b' c' h2 h3 hd => p3 b' c' h2 h3 (by unfold dn2 at hd; omega), fun b' c' h2 h3 hd hl => p4 b' c' h2 h3 (by unfold dn2 at hd; omega) hl, fun c' h3 hw => by omega, fun c' h3 hw hl => p5 (by omega) c' h3, fun hw => by omega⟩
theorem PBq.toA {D pr : Nat → Int} {a : Nat} {σ : qSt} (h : PBq σ0 σ m R D pr a 0) : PAp σ0 σ m R D pr a := by
  obtain ⟨p1, p2, p3, p4, p5⟩ := h
  exact ⟨p1, fun a' b' c' h1 h2 h3 hd => p2 a' b' c' h1 h2 h3 (by omega), fun hp b' c' h2 h3 => p3 b' c' h2 h3 (by omega)⟩
theorem PAp.toB {D pr : Nat → Int} {a : Nat} {σ : qSt} (h : PAp σ0 σ m R D pr (a + 1)) : PBq σ0 σ m R D pr a (ln m R 1 + 1) := by
  obtain ⟨p1, p2, p3⟩ := h
  exact ⟨p1, fun a' b' c' h1 h2 h3 hd => p2 a' b' c' h1 h2 h3 (by omega), fun b' c' h2 h3 hq => by omega, fun b' c' h2 h3 hq hl => p3 (by omega) b' c' h2 h3, fun hq => by omega⟩
theorem e_sweep_16 (hm : okm m R) (hO : OL σ0 m R cap pc bs) (hc : okc m R cap pc bs) {a : Nat} (ha : a ≤ ln m R 0) {f : Int32 → qSt → qR} : ∀ n q σ, PBq σ0 σ m R (dD m R cap (prS pc bs) BG) (prS pc bs) a q → q ≤ ln m R 1 + 1 → q < n → ∃ σ', PBq σ0 σ' m R (dD m R cap (prS pc bs) BG) (prS pc bs) a 0 ∧ fX1_sweep_16 6 f n (nI a) (iI ((q : Int) - 1)) σ = f (iI ((a : Int) - 1)) σ' := by
  intro n
  have l1 := ln_le (m := m) (R := R) (r := 1)
  have l2 := ln_le (m := m) (R := R) (r := 2)
  have hR := hm.2.2
  induction n with
  | zero => intro q σ _ _ h; omega
  | succ n ih =>
    intro q σ hP h1 h2
    match q, h1, h2, hP with
    | 0, _, _, hP =>
      refine ⟨σ, hP, ?_⟩
      unfold fX1_sweep_16
      rw [if_pos (by show iI (((0 : Nat) : Int) - 1) < 0; exact iI_m1), nI_m1]
    | b + 1, h1, h2, hP =>
      have hO1 := hO.fr hP.1
      obtain ⟨σ1, q1, q2⟩ := e_sweep_26 hm hO hc ha (b := b) (by omega) (f := fun z1 z2 sg => fX1_sweep_16 6 f n z1 z2 sg) qfu (ln m R 2 + 1) σ hP.toC (Nat.le_refl _) (by unfold qfu; omega)
      obtain ⟨σ2, q3, q4⟩ := ih b σ1 q1.toB (by omega) (by omega)
      refine ⟨σ2, q3, ?_⟩
      unfold fX1_sweep_16
      rw [i_pred, if_neg (nI_pos (by omega)), show (2 : Int32) = nI 2 from rfl, qb_ok (e_lengthOf (r := 2) hm hO1 (by omega)), ← i_pred (ln m R 2), q2]
      exact q4
theorem e_sweep_6 (hm : okm m R) (hO : OL σ0 m R cap pc bs) (hc : okc m R cap pc bs) : ∀ n p σ, PAp σ0 σ m R (dD m R cap (prS pc bs) BG) (prS pc bs) p → p ≤ ln m R 0 + 1 → p < n → ∃ σ', PAp σ0 σ' m R (dD m R cap (prS pc bs) BG) (prS pc bs) 0 ∧ fX1_sweep_6 6 n (iI ((p : Int) - 1)) σ = some (0, σ') := by
  intro n
  have l0 := ln_le (m := m) (R := R) (r := 0)
  have l1 := ln_le (m := m) (R := R) (r := 1)
  have hR := hm.2.2
  induction n with
  | zero => intro q σ _ _ h; omega
  | succ n ih =>
    intro q σ hP h1 h2
    match q, h1, h2, hP with
    | 0, _, _, hP =>
      refine ⟨σ, hP, ?_⟩
      unfold fX1_sweep_6
      rw [if_pos (by show iI (((0 : Nat) : Int) - 1) < 0; exact iI_m1)]
    | a + 1, h1, h2, hP =>
      have hO1 := hO.fr hP.1
      obtain ⟨σ1, q1, q2⟩ := e_sweep_16 hm hO hc (a := a) (by omega) (f := fun z1 sg => fX1_sweep_6 6 n z1 sg) qfu (ln m R 1 + 1) σ hP.toB (Nat.le_refl _) (by unfold qfu; omega)
      obtain ⟨σ2, q3, q4⟩ := ih a σ1 q1.toA (by omega) (by omega)
      refine ⟨σ2, q3, ?_⟩
      unfold fX1_sweep_6
      rw [i_pred, if_neg (nI_pos (by omega)), show (1 : Int32) = nI 1 from rfl, qb_ok (e_lengthOf (r := 1) hm hO1 (by omega)), ← i_pred (ln m R 1), q2]
      exact q4
/-- THE SWEEP: the row of all states holds their values -/
theorem e_sweep (hm : okm m R) (hO : OL σ0 m R cap pc bs) (hc : okc m R cap pc bs) : ∃ σ', fX1_sweep 6 σ0 = some (0, σ') ∧ frS σ0 σ' ∧ ∀ a b c, a ≤ ln m R 0 → b ≤ ln m R 1 → c ≤ ln m R 2 → σ' 9 (81 * a + 9 * b + c) = iI (dD m R cap (prS pc bs) BG (tt a b c)) := by
  have l0 := ln_le (m := m) (R := R) (r := 0)
  have hR := hm.2.2
  have h0 : PAp σ0 σ0 m R (dD m R cap (prS pc bs) BG) (prS pc bs) (ln m R 0 + 1) := ⟨fun _ _ _ _ => rfl, fun a' b' c' h1 h2 h3 hd => by omega, fun hp => by omega⟩
  obtain ⟨σ1, q1, q2⟩ := e_sweep_6 hm hO hc qfu (ln m R 0 + 1) σ0 h0 (Nat.le_refl _) (by unfold qfu; omega)
  refine ⟨σ1, ?_, q1.1, fun a b c h1 h2 h3 => q1.2.1 a b c h1 h2 h3 (by omega)⟩
  unfold fX1_sweep
  rw [show (0 : Int32) = nI 0 from rfl, qb_ok (e_lengthOf (r := 0) hm hO (by omega)), ← i_pred (ln m R 0)]
  exact q2
end SW3
