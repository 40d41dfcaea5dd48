/-! ===== pure: whole numbers, and the least of all plans as an equation over states ===== -/
def iI (z : Int) : Int32 := Int32.ofInt z
theorem iI_n (n : Nat) : nI n = iI (n : Int) := by
  unfold nI iI
  exact (Int32.ofInt_eq_ofNat).symm
theorem iI_add (a b : Int) : iI a + iI b = iI (a + b) := (Int32.ofInt_add a b).symm
theorem iI_sub (a b : Int) : iI a - iI b = iI (a - b) := (Int32.ofInt_sub a b).symm
theorem iI_mul (a b : Int) : iI a * iI b = iI (a * b) := (Int32.ofInt_mul a b).symm
def bd (z : Int) : Prop := -2000000000 ≤ z ∧ z ≤ 2000000000
theorem iI_toInt {z : Int} (h : bd z) : (iI z).toInt = z := by
  unfold bd at h
  exact Int32.toInt_ofInt_of_le (by omega) (by omega)
theorem iI_lt {a b : Int} (ha : bd a) (hb : bd b) : iI a < iI b ↔ a < b := by
  rw [Int32.lt_iff_toInt_lt, iI_toInt ha, iI_toInt hb]
theorem iI_le {a b : Int} (ha : bd a) (hb : bd b) : iI a ≤ iI b ↔ a ≤ b := by
  rw [Int32.le_iff_toInt_le, iI_toInt ha, iI_toInt hb]
theorem iI_eq {a b : Int} (ha : bd a) (hb : bd b) : iI a = iI b ↔ a = b := by
  constructor
  · intro h
    have := congrArg Int32.toInt h
    rwa [iI_toInt ha, iI_toInt hb] at this
  · intro h; rw [h]
theorem iI_max {a b : Int} (ha : bd a) (hb : bd b) : (if iI a < iI b then iI b else iI a) = iI (max a b) := by
  by_cases h : a < b
  · rw [if_pos ((iI_lt ha hb).mpr h), Int.max_eq_right (by omega)]
  · rw [if_neg (fun q => h ((iI_lt ha hb).mp q)), Int.max_eq_left (by omega)]
theorem iI_min {a b : Int} (ha : bd a) (hb : bd b) : (if iI a < iI b then iI a else iI b) = iI (min a b) := by
  by_cases h : a < b
  · rw [if_pos ((iI_lt ha hb).mpr h), Int.min_eq_left (by omega)]
  · rw [if_neg (fun q => h ((iI_lt ha hb).mp q)), Int.min_eq_right (by omega)]
/-- the greatest of f s .. f (s + k) -/
def mxx (f : Nat → Int) : Nat → Nat → Int
  | 0, s => f s
  | k + 1, s => max (f s) (mxx f k (s + 1))
theorem mxx_congr {f g : Nat → Int} : ∀ k s, (∀ i, s ≤ i → i ≤ s + k → f i = g i) → mxx f k s = mxx g k s := by
  intro k
  induction k with
  | zero => intro s h; exact h s (Nat.le_refl _) (by omega)
  | succ k ih =>
    intro s h
    unfold mxx
    rw [h s (Nat.le_refl _) (by omega), ih (s + 1) (fun i h1 h2 => h i (by omega) (by omega))]
theorem mxx_le {f : Nat → Int} {z : Int} : ∀ k s, mxx f k s ≤ z ↔ ∀ i, s ≤ i → i ≤ s + k → f i ≤ z := by
  intro k
  induction k with
  | zero =>
    intro s
    constructor
    · intro h i h1 h2
      have : i = s := by omega
      subst this; exact h
    · intro h; exact h s (Nat.le_refl _) (by omega)
  | succ k ih =>
    intro s
    unfold mxx
    rw [Int.max_le, ih (s + 1)]
    constructor
    · rintro ⟨h1, h2⟩ i h3 h4
      by_cases hi : i = s
      · subst hi; exact h1
      · exact h2 i (by omega) (by omega)
    · intro h
      exact ⟨h s (Nat.le_refl _) (by omega), fun i h1 h2 => h i (by omega) (by omega)⟩
theorem le_mxx {f : Nat → Int} {z : Int} : ∀ k s, z ≤ mxx f k s ↔ ∃ i, s ≤ i ∧ i ≤ s + k ∧ z ≤ f i := by
  intro k
  induction k with
  | zero =>
    intro s
    constructor
    · intro h; exact ⟨s, Nat.le_refl _, by omega, h⟩
    · rintro ⟨i, h1, h2, h3⟩
      have : i = s := by omega
      subst this; exact h3
  | succ k ih =>
    intro s
    unfold mxx
    constructor
    · intro h
      rcases Int.le_total (f s) (mxx f k (s + 1)) with q | q
      · rw [Int.max_eq_right q] at h
        obtain ⟨i, h1, h2, h3⟩ := (ih (s + 1)).mp h
        exact ⟨i, by omega, by omega, h3⟩
      · rw [Int.max_eq_left q] at h
        exact ⟨s, Nat.le_refl _, by omega, h⟩
    · rintro ⟨i, h1, h2, h3⟩
      by_cases hi : i = s
      · subst hi; exact Int.le_trans h3 (Int.le_max_left _ _)
      · exact Int.le_trans ((ih (s + 1)).mpr ⟨i, by omega, by omega, h3⟩) (Int.le_max_right _ _)
/-- states: how far each ray has been gone, in nines -/
def gn (t r : Nat) : Nat := t / 9 ^ r % 9
def aft (t r s : Nat) : Nat := t + (s - gn t r) * 9 ^ r
def ln (m R r : Nat) : Nat := if r < m then R else 0
def lst (m R : Nat) : Nat := if m = 3 then R + 9 * R + 81 * R else R + 9 * R
def vst (m R t : Nat) : Prop := t < 729 ∧ ∀ r, r < 3 → gn t r ≤ ln m R r
def mu (m R t : Nat) : Nat := (ln m R 0 - gn t 0) + (ln m R 1 - gn t 1) + (ln m R 2 - gn t 2)
theorem gn0 (t : Nat) : gn t 0 = t % 9 := by unfold gn; rw [Nat.pow_zero, Nat.div_one]
theorem gn1 (t : Nat) : gn t 1 = t / 9 % 9 := by unfold gn; rw [Nat.pow_one]
theorem gn2 (t : Nat) : gn t 2 = t / 81 % 9 := rfl
theorem aft0 (t s : Nat) : aft t 0 s = t + (s - t % 9) := by unfold aft; rw [gn0, Nat.pow_zero, Nat.mul_one]
theorem aft1 (t s : Nat) : aft t 1 s = t + (s - t / 9 % 9) * 9 := by unfold aft; rw [gn1, Nat.pow_one]
theorem aft2 (t s : Nat) : aft t 2 s = t + (s - t / 81 % 9) * 81 := rfl
theorem ln_le {m R r : Nat} : ln m R r ≤ R := by unfold ln; split <;> omega
section DP
variable {m R : Nat}
/-- behind a trip -/
theorem aft_gn {t r s : Nat} (hR : R ≤ 8) (hv : vst m R t) (hr : r < 3) (h1 : gn t r < s) (h2 : s ≤ ln m R r) : vst m R (aft t r s) ∧ gn (aft t r s) r = s ∧ (∀ q, q < 3 → q ≠ r → gn (aft t r s) q = gn t q) ∧ t < aft t r s ∧ mu m R (aft t r s) < mu m R t := by
  have hl := ln_le (m := m) (R := R) (r := r)
  have g0 := hv.2 0 (by omega)
  have g1 := hv.2 1 (by omega)
  have g2 := hv.2 2 (by omega)
  have l0 := ln_le (m := m) (R := R) (r := 0)
  have l1 := ln_le (m := m) (R := R) (r := 1)
  have l2 := ln_le (m := m) (R := R) (r := 2)
  have ht := hv.1
  have key : ∀ q, q < 3 → gn (aft t r s) q = if q = r then s else gn t q := by
    intro q hq
    rcases (show r = 0 ∨ r = 1 ∨ r = 2 by omega) with rfl | rfl | rfl <;> rcases (show q = 0 ∨ q = 1 ∨ q = 2 by omega) with rfl | rfl | rfl <;> simp only [gn0, gn1, gn2, aft0, aft1, aft2] at * <;> simp <;> omega
  have hlt : t < aft t r s := by
    rcases (show r = 0 ∨ r = 1 ∨ r = 2 by omega) with rfl | rfl | rfl <;> simp only [gn0, gn1, gn2, aft0, aft1, aft2] at * <;> omega
  refine ⟨⟨?_, fun q hq => ?_⟩, ?_, fun q hq hne => ?_, hlt, ?_⟩
  · rcases (show r = 0 ∨ r = 1 ∨ r = 2 by omega) with rfl | rfl | rfl <;> simp only [gn0, gn1, gn2, aft0, aft1, aft2] at * <;> omega
  · rw [key q hq]
    split
    · rename_i e; rw [e]; exact h2
    · exact hv.2 q hq
  · rw [key r hr, if_pos rfl]
  · rw [key q hq, if_neg hne]
  · unfold mu
    rw [key 0 (by omega), key 1 (by omega), key 2 (by omega)]
    rcases (show r = 0 ∨ r = 1 ∨ r = 2 by omega) with rfl | rfl | rfl <;> simp <;> omega
theorem lst_ok (hm : m = 2 ∨ m = 3) (hR : R ≤ 8) : vst m R (lst m R) ∧ ∀ r, r < 3 → gn (lst m R) r = ln m R r := by
  have key : ∀ r, r < 3 → gn (lst m R) r = ln m R r := by
    intro r hr
    have h2 : ∀ R, R < 9 → ∀ r, r < 3 → gn (lst 2 R) r = ln 2 R r := by decide
    have h3 : ∀ R, R < 9 → ∀ r, r < 3 → gn (lst 3 R) r = ln 3 R r := by decide
    rcases hm with rfl | rfl
    · exact h2 R (by omega) r hr
    · exact h3 R (by omega) r hr
  refine ⟨⟨?_, fun r hr => by rw [key r hr]; exact Nat.le_refl _⟩, key⟩
  rcases hm with rfl | rfl <;> simp [lst] <;> omega
/-- a state is the last if all rays have been gone to their ends -/
theorem lst_iff {t : Nat} (hm : m = 2 ∨ m = 3) (hR : R ≤ 8) (hv : vst m R t) : t = lst m R ↔ ∀ r, r < 3 → gn t r = ln m R r := by
  constructor
  · intro h r hr; rw [h]; exact (lst_ok hm hR).2 r hr
  · intro h
    have h0 := h 0 (by omega)
    have h1 := h 1 (by omega)
    have h2 := h 2 (by omega)
    have ht := hv.1
    rw [gn0] at h0
    rw [gn1] at h1
    rw [gn2] at h2
    have e : t / 81 = t / 9 / 9 := by rw [Nat.div_div_eq_div_mul]
    rw [e] at h2
    rcases hm with rfl | rfl <;> simp [lst, ln] at h0 h1 h2 ⊢ <;> omega
section DPF
variable (m R : Nat) (cap : Nat → Int) (pr : Nat → Int) (B : Int)
/-- a trip to s on ray r, out of the state t -/
def tv (pr : Nat → Int) (F : Nat → Int) (t r s : Nat) : Int := F (aft t r s) - s * pr (aft t r s)
def thr (F : Nat → Int) (t r : Nat) : Int := if gn t r < ln m R r then min (cap (gn t r + 1)) (mxx (tv pr F t r) (ln m R r - gn t r - 1) (gn t r + 1)) else -B
def dst (F : Nat → Int) (t : Nat) : Int := if t = lst m R then B else max (thr m R cap pr B F t 0) (max (thr m R cap pr B F t 1) (thr m R cap pr B F t 2))
def dv : Nat → Nat → Int
  | 0, _ => B
  | n + 1, t => dst m R cap pr B (dv n) t
/-- the value of a state -/
def dD (t : Nat) : Int := dv m R cap pr B (mu m R t + 1) t
end DPF
variable {cap : Nat → Int} {pr : Nat → Int} {B : Int}
theorem thr_congr {F G : Nat → Int} {t r : Nat} (h : ∀ s, gn t r < s → s ≤ ln m R r → F (aft t r s) = G (aft t r s)) : thr m R cap pr B F t r = thr m R cap pr B G t r := by
  unfold thr
  by_cases hg : gn t r < ln m R r
  · rw [if_pos hg, if_pos hg, mxx_congr (g := tv pr G t r) _ _ (fun i h1 h2 => by unfold tv; rw [h i (by omega) (by omega)])]
  · rw [if_neg hg, if_neg hg]
theorem dst_congr {F G : Nat → Int} {t : Nat} (h : ∀ r s, r < 3 → gn t r < s → s ≤ ln m R r → F (aft t r s) = G (aft t r s)) : dst m R cap pr B F t = dst m R cap pr B G t := by
  unfold dst
  rw [thr_congr (h 0 · (by omega)), thr_congr (h 1 · (by omega)), thr_congr (h 2 · (by omega))]
theorem dv_ok (hR : R ≤ 8) : ∀ n t, vst m R t → mu m R t < n → dv m R cap pr B n t = dD m R cap pr B t := by
  intro n
  induction n using Nat.strongRecOn with
  | ind n ih =>
    intro t hv hn
    match n, hn with
    | n + 1, hn =>
      by_cases he : n = mu m R t
      · rw [he]; rfl
      · show dst m R cap pr B (dv m R cap pr B n) t = dst m R cap pr B (dv m R cap pr B (mu m R t)) t
        refine dst_congr (fun r s hr h1 h2 => ?_)
        have ha := aft_gn hR hv hr h1 h2
        rw [ih n (by omega) _ ha.1 (by omega), ih (mu m R t) (by omega) _ ha.1 ha.2.2.2.2]
theorem dD_eq (hR : R ≤ 8) {t : Nat} (hv : vst m R t) : dD m R cap pr B t = dst m R cap pr B (dD m R cap pr B) t := by
  show dst m R cap pr B (dv m R cap pr B (mu m R t)) t = _
  refine dst_congr (fun r s hr h1 h2 => ?_)
  have ha := aft_gn hR hv hr h1 h2
  exact dv_ok hR _ _ ha.1 ha.2.2.2.2
end DP
