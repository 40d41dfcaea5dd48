/-! ===== the frame of the walk: a store of ints by cell and place, a judgement qJ that carries the computation ===== -/
abbrev qSt : Type := Nat → Nat → Int32
def qset (σ : qSt) (k j : Nat) (v : Int32) : qSt := fun k' j' => if k' = k then (if j' = j then v else σ k' j') else σ k' j'
abbrev qR : Type := Option (Int32 × qSt)
def qb (x : qR) (f : Int32 → qSt → qR) : qR := match x with
  | none => none
  | some z => f z.1 z.2
def qz (x : qR) : qR := match x with
  | none => none
  | some z => if z.1 = 0 ∨ z.1 = 1 then some z else none
/-- kinds of the cells: 0 Ground, 1 Outlook, 2 Plan, 3 LineSearch, 4 Model, 5 rows of ints -/
def qkl : List Nat := [3, 0, 5, 2, 5, 5, 1, 5, 5, 5, 5, 5, 2, 5, 5, 2, 5, 5, 4, 5, 5, 5, 5, 5, 5]
def qnl : List Nat := [0, 0, 27, 0, 30, 30, 0, 9, 27, 729, 243, 3, 0, 30, 30, 0, 30, 30, 0, 27, 30, 30, 729, 729, 30]
def qk (k : Nat) : Nat := qkl.getD k 6
def qlen (k : Nat) : Nat := qnl.getD k 0
abbrev qcl : List vw_C := [(RX0, TX0, 3), (RX1, TX1, 8), (RX2, TX2, 3), (RX3, TX3, 11), (RX4, TX4, 15)]
def qfs (b : Nat) (σ : qSt) (k : Nat) (ci : Nat) : List Value := match ci with
  | 0 => [.int (σ k 0), .int (σ k 1), .ref (b + (k + 1))]
  | 1 => [.int (σ k 0), .int (σ k 1), .ref (b + (k + 1)), .ref (b + (k + 2)), .int (σ k 4), .ref (b + (k + 3)), .ref (b + (k + 4)), .ref (b + (k + 5))]
  | 2 => [.ref (b + (k + 1)), .ref (b + (k + 2)), .int (σ k 2)]
  | 3 => [.int (σ k 0), .int (σ k 1), .ref (b + (k + 1)), .ref (b + (k + 3)), .ref (b + (k + 6)), .ref (b + (k + 12)), .ref (b + (k + 15)), .int (σ k 7), .int (σ k 8), .int (σ k 9), .int (σ k 10)]
  | 4 => [.int (σ k 0), .int (σ k 1), .int (σ k 2), .int (σ k 3), .ref (b + (k + 1)), .int (σ k 5), .ref (b + (k + 2)), .ref (b + (k + 3)), .ref (b + (k + 4)), .ref (b + (k + 5)), .int (σ k 10), .ref (b + (k + 6)), .int (σ k 12), .int (σ k 13), .int (σ k 14)]
  | _ => []
def qent (b : Nat) (cA : ClassId) (σ : qSt) (k : Nat) : va_E := if qk k < 5 then .inr (qk k, qfs b σ k (qk k)) else .inl (cA, qlen k, .inl (σ k))
def qw (b : Nat) (cA : ClassId) (σ : qSt) (K : List Nat) : va_W := K.map (fun k => (b + k, qent b cA σ k))
/-- a cell that is there, of a kind -/
def qIn (K : List Nat) (k ci : Nat) : Prop := k ∈ K ∧ qk k = ci
def qoff : Nat → Nat → Nat
  | 0, 2 => 1
  | 1, 2 => 1
  | 1, 3 => 2
  | 1, 5 => 3
  | 1, 6 => 4
  | 1, 7 => 5
  | 2, 0 => 1
  | 2, 1 => 2
  | 3, 2 => 1
  | 3, 3 => 3
  | 3, 4 => 6
  | 3, 5 => 12
  | 3, 6 => 15
  | 4, 4 => 1
  | 4, 6 => 2
  | 4, 7 => 3
  | 4, 8 => 4
  | 4, 9 => 5
  | 4, 11 => 6
  | _, _ => 0
/-- a set of cells, with what they refer to -/
def qOk (K : List Nat) : Prop := K.Nodup ∧ ∀ k ∈ K, ∀ j, j < 15 → qoff (qk k) j ≠ 0 → k + qoff (qk k) j ∈ K
theorem qlt_of {k ci : Nat} (h : qk k = ci) (hc : ci < 6) : k < 25 := by
  rcases Nat.lt_or_ge k 25 with h1 | h1
  · exact h1
  · exfalso
    have : qk k = 6 := by
      unfold qk
      rw [List.getD_eq_getElem?_getD, List.getElem?_eq_none (by simpa [qkl] using h1)]
      rfl
    omega
theorem qIn.child {K : List Nat} (hK : qOk K) {k ci : Nat} (h : qIn K k ci) (j off kd : Nat) (hj : j < 15) (ho : qoff ci j = off) (hn : off ≠ 0) (hd : ∀ q, q < 25 → qk q = ci → qk (q + off) = kd) (hc : ci < 6) : qIn K (k + off) kd := by
  obtain ⟨h1, h2⟩ := h
  refine ⟨?_, hd k (qlt_of h2 hc) h2⟩
  have := hK.2 k h1 j hj (by rw [h2, ho]; exact hn)
  rwa [h2, ho] at this
theorem qw_at {b : Nat} {cA : ClassId} {σ : qSt} {K : List Nat} {k : Nat} (h : k ∈ K) : ∃ i : Nat, K[i]? = some k ∧ (qw b cA σ K)[i]? = some (b + k, qent b cA σ k) := by
  obtain ⟨i, hi⟩ := List.getElem?_of_mem h
  exact ⟨i, hi, by rw [qw, List.getElem?_map, hi]; rfl⟩
theorem qnodup {K : List Nat} (h : K.Nodup) {i j k : Nat} (hi : K[i]? = some k) (hj : K[j]? = some k) : i = j := by
  obtain ⟨a, ha⟩ := List.getElem?_eq_some_iff.mp hi
  obtain ⟨c, hc⟩ := List.getElem?_eq_some_iff.mp hj
  exact (List.getElem_inj h).mp (ha.trans hc.symm)
/-- the world behind a write to one cell -/
theorem qw_put {D : va_G} {cl : List vw_C} {b : Nat} {cA : ClassId} {σ σ' : qSt} {K : List Nat} {k i : Nat} {e : va_E} {H1 : Heap} (hn : K.Nodup) (hi : K[i]? = some k) (he : qent b cA σ' k = e) (ho : ∀ k', k' ≠ k → qent b cA σ' k' = qent b cA σ k') (h : va_P D cl ((qw b cA σ K).set i (b + k, e)) H1) : va_P D cl (qw b cA σ' K) H1 := by
  intro q x hx
  rw [qw, List.getElem?_map] at hx
  cases hq : K[q]? with
  | none => rw [hq] at hx; cases hx
  | some k' =>
    rw [hq] at hx
    cases hx
    by_cases hqi : q = i
    · subst hqi
      rw [hi] at hq
      cases hq
      refine h q _ ?_
      rw [List.getElem?_set_self (by rw [qw, List.length_map]; exact (List.getElem?_eq_some_iff.mp hi).1), ← he]
    · refine h q _ ?_
      rw [List.getElem?_set_ne (Ne.symm hqi), qw, List.getElem?_map, hq]
      have : k' ≠ k := fun z => hqi (qnodup hn (z ▸ hq) hi)
      show some (b + k', qent b cA σ k') = some (b + k', qent b cA σ' k')
      rw [ho k' this]
def qA (b : Nat) (K : List Nat) : Nat → Prop := fun q => ∃ k, k ∈ K ∧ q = b + k
theorem qw_D {A : Nat → Prop} {b : Nat} {cA : ClassId} {σ : qSt} {K : List Nat} (hn : K.Nodup) (hA : ∀ k ∈ K, A (b + k)) : va_D A (qw b cA σ K) := by
  have key : ∀ (i : Nat) (q : Nat × va_E), (qw b cA σ K)[i]? = some q → ∃ k, K[i]? = some k ∧ q = (b + k, qent b cA σ k) := by
    intro i q h
    rw [qw, List.getElem?_map] at h
    cases hq : K[i]? with
    | none => rw [hq] at h; cases h
    | some k => rw [hq] at h; cases h; exact ⟨k, rfl, rfl⟩
  refine ⟨fun i j p q hi hj hpq => ?_, fun i q hi => ?_⟩
  · obtain ⟨k, h1, rfl⟩ := key i p hi
    obtain ⟨k', h2, rfl⟩ := key j q hj
    have : k = k' := Nat.add_left_cancel hpq
    subst this
    exact qnodup hn h1 h2
  · obtain ⟨k, h1, rfl⟩ := key i q hi
    exact hA k (List.mem_of_getElem? h1)
/-- locals -/
def qLs (ls : Array Slot) (n : Nat) (L : List (Option Value)) : Prop := ls.size = n ∧ lv_wf ls ∧ ∀ (i : Nat) (v : Value), L[i]? = some (some v) → ls[i]? = some (.val v) ∧ v.category = 1
def qprs (L : List (Option Value)) : List (Nat × Value) := (List.range L.length).filterMap (fun i => (L[i]?.join).map (fun v => (i, v)))
theorem qprs_mem {L : List (Option Value)} {i : Nat} {v : Value} : (i, v) ∈ qprs L ↔ L[i]? = some (some v) := by
  unfold qprs
  rw [List.mem_filterMap]
  constructor
  · rintro ⟨j, -, h⟩
    cases hq : L[j]? with
    | none => rw [hq] at h; cases h
    | some o =>
      rw [hq] at h
      cases o with
      | none => cases h
      | some w => cases h; exact hq
  · intro h
    exact ⟨i, List.mem_range.mpr (List.getElem?_eq_some_iff.mp h).1, by rw [h]; rfl⟩
theorem qLs.has {ls : Array Slot} {n : Nat} {L : List (Option Value)} (h : qLs ls n L) : lv_has ls n (qprs L) := ⟨h.1, h.2.1, fun q hq => (h.2.2 q.1 q.2 (qprs_mem.mp hq)).1⟩
theorem qLs.put {ls ls' : Array Slot} {n i : Nat} {L : List (Option Value)} {v : Value} (hv : v.category = 1) (h : qLs ls n L) (h' : lv_has ls' n ((i, v) :: (qprs L).filter (fun q => !(q.1 == i) && !(q.1 + 1 == i && q.2.category == 2)))) : qLs ls' n (L.set i (some v)) := by
  refine ⟨h'.1, h'.2.1, fun j w hj => ?_⟩
  rw [List.getElem?_set] at hj
  by_cases hij : i = j
  · rw [if_pos hij] at hj
    split at hj
    · cases hj
      subst hij
      exact ⟨h'.2.2 (i, v) List.mem_cons_self, hv⟩
    · cases hj
  · rw [if_neg hij] at hj
    have hc := (h.2.2 j w hj).2
    refine ⟨h'.2.2 (j, w) (List.mem_cons_of_mem _ (List.mem_filter.mpr ⟨qprs_mem.mpr hj, ?_⟩)), hc⟩
    simp [hc]
    intro z
    exact hij z.symm
def qle : List (Option Value) → List (Option Value) → Prop
  | [], _ => True
  | none :: a, _ :: c => qle a c
  | some v :: a, some w :: c => v = w ∧ qle a c
  | _ :: _, _ => False
theorem qle_get : ∀ {A B : List (Option Value)}, qle A B → ∀ (i : Nat) (v : Value), A[i]? = some (some v) → B[i]? = some (some v)
  | [], _, _, i, v, h => by simp at h
  | none :: a, [], hl, i, v, h => by simp [qle] at hl
  | none :: a, _ :: c, hl, i, v, h => by
    cases i with
    | zero => simp at h
    | succ i => simp only [List.getElem?_cons_succ] at h ⊢; exact qle_get (A := a) (B := c) hl i v h
  | some x :: a, [], hl, i, v, h => by simp [qle] at hl
  | some x :: a, none :: c, hl, i, v, h => by simp [qle] at hl
  | some x :: a, some w :: c, hl, i, v, h => by
    obtain ⟨rfl, hl⟩ := hl
    cases i with
    | zero => exact h
    | succ i => simp only [List.getElem?_cons_succ] at h ⊢; exact qle_get (A := a) (B := c) hl i v h
theorem qLs.weak {ls : Array Slot} {n : Nat} {A B : List (Option Value)} (h : qLs ls n B) (hl : qle A B) : qLs ls n A := ⟨h.1, h.2.1, fun i v hi => h.2.2 i v (qle_get hl i v hi)⟩
/-- the words that every call keeps -/
def qtbl : List Cond := lw_tbl.filter goodWord
theorem qmem {w : Cond} (i : Nat) (h : lw_tbl[i]? = some w) (hg : goodWord w = true) : w ∈ qtbl := List.mem_filter.mpr ⟨List.mem_of_getElem? h, hg⟩
theorem qtbl_in {w : Cond} (h : w ∈ qtbl) : w ∈ lw_tbl := (List.mem_filter.mp h).1
def qnest : List (String × Nat × MethodName × String) := [("LineSearch$Ground", 26, ⟨"LineSearch", "putAll", "([II)V"⟩, "LineSearch"), ("LineSearch$Ground", 34, ⟨"LineSearch", "at", "([II)I"⟩, "LineSearch"), ("LineSearch$Ground", 38, ⟨"LineSearch", "put", "([III)V"⟩, "LineSearch"), ("LineSearch$Plan", 30, ⟨"LineSearch", "put", "([III)V"⟩, "LineSearch"), ("LineSearch$Plan", 26, ⟨"LineSearch", "at", "([II)I"⟩, "LineSearch"), ("LineSearch$Outlook", 41, ⟨"LineSearch", "put", "([III)V"⟩, "LineSearch"), ("LineSearch$Outlook", 50, ⟨"LineSearch", "putAll", "([II)V"⟩, "LineSearch"), ("LineSearch$Outlook", 57, ⟨"LineSearch", "at", "([II)I"⟩, "LineSearch")]
def qNs (U : State) : Prop := ∀ q ∈ qnest, va_Nw (.methodLinkNest q.1 q.2.1 q.2.2.1 q.2.2.2) U
theorem qNs.moved {s U : State} (hW : s.WarmedH U.vm) (h : qNs s) : qNs U := fun q hq => va_Nw.warmM hW (h q hq)
def qKK (dC : Nat → ClassId) (dI : Nat → Nat → Nat) (cA : ClassId) (U : State) : Prop := va_K (dC, dI) qcl [(cA, .int)] U ∧ qNs U
theorem qKK.moved {dC : Nat → ClassId} {dI : Nat → Nat → Nat} {cA : ClassId} {s U : State} (hW : s.WarmedH U.vm) (h : qKK dC dI cA s) : qKK dC dI cA U := ⟨va_K.moved hW.alike h.1, h.2.moved hW⟩
/-- what stands of the method and the machine -/
def qF (own : String) (cc : ByteArray) (nL fr lo : Nat) (G : State → (Nat → Prop) → Prop) (b : Nat) (K : List Nat) (p : Program) (R : Room) (s : State) (m : MethodId) (args : Array Value) (c : Code) (cells slots : Nat) (dC : Nat → ClassId) (dI : Nat → Nat → Nat) (cA : ClassId) (A : Nat → Prop) : Prop :=
  CallFix p m c cc nL s args qtbl own ∧ (fr ≤ R.frames ∧ lo ≤ R.locals ∧ cells ≤ R.cells ∧ slots ≤ R.slots) ∧ qKK dC dI cA s ∧ K.Nodup ∧ (∀ k ∈ K, A (b + k)) ∧ G s A
def qRet (cc : ByteArray) (vd : Bool) (pc : Nat) (st : List Value) (r : Int32) : Prop := (vd = false ∧ decode cc pc = .ok (.ireturn, 1) ∧ st = [.int r]) ∨ (vd = true ∧ decode cc pc = .ok (.return_, 1) ∧ st = [] ∧ r = 0)
def qJ (own : String) (cc : ByteArray) (nL fr lo : Nat) (vd : Bool) (G : State → (Nat → Prop) → Prop) (b : Nat) (K : List Nat) (pc : Nat) (L : List (Option Value)) (st : List Value) (σ : qSt) (e : qR) : Prop :=
  ∀ z : Int32 × qSt, e = some z → ∀ (p : Program) (l : Launch) (ev : Env) (R : Room) (s : State) (m : MethodId) (args : Array Value) (below : List Frame) (meth : Method) (c : Code) (H : Heap) (locs : List Loc) (cells slots : Nat) (Q : State → Prop) (dC : Nat → ClassId) (dI : Nat → Nat → Nat) (cA : ClassId) (A : Nat → Prop),
    qF own cc nL fr lo G b K p R s m args c cells slots dC dI cA A → va_P (dC, dI) qcl (qw b cA σ K) H → va_S A s.heap H locs →
    (∀ (pcr : Nat) (st' : List Value) (H' : Heap) (locs' : List Loc) (ls' : Array Slot), qRet cc vd pcr st' z.1 → va_P (dC, dI) qcl (qw b cA z.2 K) H' → va_S A s.heap H' locs' → W p l ev R s m args below meth c H' locs' cells slots Q (F0 m pcr ls' st')) →
    ∀ ls : Array Slot, qLs ls nL L → W p l ev R s m args below meth c H locs cells slots Q (F0 m pc ls st)
section QROWS
variable {own : String} {cc : ByteArray} {nL fr lo : Nat} {vd : Bool} {G : State → (Nat → Prop) → Prop} {b : Nat} {K : List Nat} {pc : Nat} {L : List (Option Value)} {st : List Value} {σ : qSt} {e : qR}
theorem qJ_none : qJ own cc nL fr lo vd G b K pc L st σ none := fun z hz => by cases hz
theorem qJ_eq {e' : qR} (h : e = e') (k : qJ own cc nL fr lo vd G b K pc L st σ e') : qJ own cc nL fr lo vd G b K pc L st σ e := h ▸ k
theorem qJ_weak (L' : List (Option Value)) (hl : qle L' L) (k : qJ own cc nL fr lo vd G b K pc L' st σ e) : qJ own cc nL fr lo vd G b K pc L st σ e :=
  fun z hz p l ev R s m args below meth c H locs cells slots Q dC dI cA A hF hP hS hr ls hL => k z hz p l ev R s m args below meth c H locs cells slots Q dC dI cA A hF hP hS hr ls (hL.weak hl)
theorem q_iconst {n : Int} (v : Int32) (hd : decode cc pc = .ok (.iconst n, 1)) (hv : Int32.ofInt n = v) (k : qJ own cc nL fr lo vd G b K (pc + 1) L (.int v :: st) σ e) : qJ own cc nL fr lo vd G b K pc L st σ e :=
  fun z hz p l ev R s m args below meth c H locs cells slots Q dC dI cA A hF hP hS hr ls hL => lv_iconst hF.1.1 hF.1.2.1 hd hv (k z hz p l ev R s m args below meth c H locs cells slots Q dC dI cA A hF hP hS hr ls hL)
theorem q_bipush {n : Int} (v : Int32) (hd : decode cc pc = .ok (.bipush n, 2)) (hv : (Int8.ofInt n).toInt32 = v) (k : qJ own cc nL fr lo vd G b K (pc + 2) L (.int v :: st) σ e) : qJ own cc nL fr lo vd G b K pc L st σ e :=
  fun z hz p l ev R s m args below meth c H locs cells slots Q dC dI cA A hF hP hS hr ls hL => lv_bipush hF.1.1 hF.1.2.1 hd hv (k z hz p l ev R s m args below meth c H locs cells slots Q dC dI cA A hF hP hS hr ls hL)
theorem q_sipush {n : Int} (v : Int32) (hd : decode cc pc = .ok (.sipush n, 3)) (hv : (Int16.ofInt n).toInt32 = v) (k : qJ own cc nL fr lo vd G b K (pc + 3) L (.int v :: st) σ e) : qJ own cc nL fr lo vd G b K pc L st σ e :=
  fun z hz p l ev R s m args below meth c H locs cells slots Q dC dI cA A hF hP hS hr ls hL => lv_sipush hF.1.1 hF.1.2.1 hd hv (k z hz p l ev R s m args below meth c H locs cells slots Q dC dI cA A hF hP hS hr ls hL)
theorem q_ldc {index : Nat} (v : Int32) (hd : decode cc pc = .ok (.ldc index, 2)) (hw : Cond.constant own index v ∈ qtbl) (k : qJ own cc nL fr lo vd G b K (pc + 2) L (.int v :: st) σ e) : qJ own cc nL fr lo vd G b K pc L st σ e :=
  fun z hz p l ev R s m args below meth c H locs cells slots Q dC dI cA A hF hP hS hr ls hL => lv_ldc hF.1.1 hF.1.2.1 hF.1.2.2.2.1 (hF.1.2.2.2.2 _ hw) hd (k z hz p l ev R s m args below meth c H locs cells slots Q dC dI cA A hF hP hS hr ls hL)
theorem q_iload_n {i : Fin 4} {x : Int32} (hd : decode cc pc = .ok (.iload_n i, 1)) (hl : L[(i : Nat)]? = some (some (.int x))) (k : qJ own cc nL fr lo vd G b K (pc + 1) L (.int x :: st) σ e) : qJ own cc nL fr lo vd G b K pc L st σ e :=
  fun z hz p l ev R s m args below meth c H locs cells slots Q dC dI cA A hF hP hS hr ls hL => lv_iload_n hF.1.1 hF.1.2.1 hd rfl (hL.2.2 _ _ hl).1 (k z hz p l ev R s m args below meth c H locs cells slots Q dC dI cA A hF hP hS hr ls hL)
theorem q_iload {i : Nat} {x : Int32} (hd : decode cc pc = .ok (.iload i, 2)) (hl : L[i]? = some (some (.int x))) (k : qJ own cc nL fr lo vd G b K (pc + 2) L (.int x :: st) σ e) : qJ own cc nL fr lo vd G b K pc L st σ e :=
  fun z hz p l ev R s m args below meth c H locs cells slots Q dC dI cA A hF hP hS hr ls hL => lv_iload hF.1.1 hF.1.2.1 hd (hL.2.2 _ _ hl).1 (k z hz p l ev R s m args below meth c H locs cells slots Q dC dI cA A hF hP hS hr ls hL)
theorem q_aload_n {i : Fin 4} {x : Nat} (hd : decode cc pc = .ok (.aload_n i, 1)) (hl : L[(i : Nat)]? = some (some (.ref x))) (k : qJ own cc nL fr lo vd G b K (pc + 1) L (.ref x :: st) σ e) : qJ own cc nL fr lo vd G b K pc L st σ e :=
  fun z hz p l ev R s m args below meth c H locs cells slots Q dC dI cA A hF hP hS hr ls hL => lv_aload_n hF.1.1 hF.1.2.1 hd rfl (hL.2.2 _ _ hl).1 (k z hz p l ev R s m args below meth c H locs cells slots Q dC dI cA A hF hP hS hr ls hL)
theorem q_istore_n {i : Fin 4} {x : Int32} (hd : decode cc pc = .ok (.istore_n i, 1)) (hn : (i : Nat) < nL) (k : qJ own cc nL fr lo vd G b K (pc + 1) (L.set (i : Nat) (some (.int x))) st σ e) : qJ own cc nL fr lo vd G b K pc L (.int x :: st) σ e :=
  fun z hz p l ev R s m args below meth c H locs cells slots Q dC dI cA A hF hP hS hr ls hL => lv_istore_n hF.1.1 hF.1.2.1 hd rfl hL.has hn rfl (fun ls' h' => k z hz p l ev R s m args below meth c H locs cells slots Q dC dI cA A hF hP hS hr ls' (hL.put rfl h'))
theorem q_istore {i : Nat} {x : Int32} (hd : decode cc pc = .ok (.istore i, 2)) (hn : i < nL) (k : qJ own cc nL fr lo vd G b K (pc + 2) (L.set i (some (.int x))) st σ e) : qJ own cc nL fr lo vd G b K pc L (.int x :: st) σ e :=
  fun z hz p l ev R s m args below meth c H locs cells slots Q dC dI cA A hF hP hS hr ls hL => lv_istore hF.1.1 hF.1.2.1 hd hL.has hn rfl (fun ls' h' => k z hz p l ev R s m args below meth c H locs cells slots Q dC dI cA A hF hP hS hr ls' (hL.put rfl h'))
theorem q_iinc {i : Nat} {n : Int} {x : Int32} (v : Int32) (hd : decode cc pc = .ok (.iinc i n, 3)) (hl : L[i]? = some (some (.int x))) (hn : i < nL) (hv : Int32.ofInt n = v) (k : qJ own cc nL fr lo vd G b K (pc + 3) (L.set i (some (.int (x + v)))) st σ e) : qJ own cc nL fr lo vd G b K pc L st σ e :=
  fun z hz p l ev R s m args below meth c H locs cells slots Q dC dI cA A hF hP hS hr ls hL => by
    obtain ⟨q, hq⟩ := List.getElem?_of_mem (qprs_mem.mpr hl)
    exact lv_iinc (v := x + v) hF.1.1 hF.1.2.1 hd hL.has hq (by rw [hv]) hn rfl (fun ls' h' => k z hz p l ev R s m args below meth c H locs cells slots Q dC dI cA A hF hP hS hr ls' (hL.put rfl h'))
theorem q_iadd {x y : Int32} (hd : decode cc pc = .ok (.iadd, 1)) (k : qJ own cc nL fr lo vd G b K (pc + 1) L (.int (x + y) :: st) σ e) : qJ own cc nL fr lo vd G b K pc L (.int y :: .int x :: st) σ e :=
  fun z hz p l ev R s m args below meth c H locs cells slots Q dC dI cA A hF hP hS hr ls hL => lv_iadd hF.1.1 hF.1.2.1 hd (k z hz p l ev R s m args below meth c H locs cells slots Q dC dI cA A hF hP hS hr ls hL)
theorem q_isub {x y : Int32} (hd : decode cc pc = .ok (.isub, 1)) (k : qJ own cc nL fr lo vd G b K (pc + 1) L (.int (x - y) :: st) σ e) : qJ own cc nL fr lo vd G b K pc L (.int y :: .int x :: st) σ e :=
  fun z hz p l ev R s m args below meth c H locs cells slots Q dC dI cA A hF hP hS hr ls hL => lv_isub hF.1.1 hF.1.2.1 hd (k z hz p l ev R s m args below meth c H locs cells slots Q dC dI cA A hF hP hS hr ls hL)
theorem q_imul {x y : Int32} (hd : decode cc pc = .ok (.imul, 1)) (k : qJ own cc nL fr lo vd G b K (pc + 1) L (.int (x * y) :: st) σ e) : qJ own cc nL fr lo vd G b K pc L (.int y :: .int x :: st) σ e :=
  fun z hz p l ev R s m args below meth c H locs cells slots Q dC dI cA A hF hP hS hr ls hL => lv_imul hF.1.1 hF.1.2.1 hd (k z hz p l ev R s m args below meth c H locs cells slots Q dC dI cA A hF hP hS hr ls hL)
theorem q_iand {x y : Int32} (hd : decode cc pc = .ok (.iand, 1)) (k : qJ own cc nL fr lo vd G b K (pc + 1) L (.int (x &&& y) :: st) σ e) : qJ own cc nL fr lo vd G b K pc L (.int y :: .int x :: st) σ e :=
  fun z hz p l ev R s m args below meth c H locs cells slots Q dC dI cA A hF hP hS hr ls hL => lv_iand hF.1.1 hF.1.2.1 hd (k z hz p l ev R s m args below meth c H locs cells slots Q dC dI cA A hF hP hS hr ls hL)
/-- a divisor that is a constant -/
theorem q_idivc {x y : Int32} (hd : decode cc pc = .ok (.idiv, 1)) (hy : ¬ y = 0) (k : qJ own cc nL fr lo vd G b K (pc + 1) L (.int (x / y) :: st) σ e) : qJ own cc nL fr lo vd G b K pc L (.int y :: .int x :: st) σ e :=
  fun z hz p l ev R s m args below meth c H locs cells slots Q dC dI cA A hF hP hS hr ls hL => lv_idiv hF.1.1 hF.1.2.1 hd hy (k z hz p l ev R s m args below meth c H locs cells slots Q dC dI cA A hF hP hS hr ls hL)
theorem q_iremc {x y : Int32} (hd : decode cc pc = .ok (.irem, 1)) (hy : ¬ y = 0) (k : qJ own cc nL fr lo vd G b K (pc + 1) L (.int (x - x / y * y) :: st) σ e) : qJ own cc nL fr lo vd G b K pc L (.int y :: .int x :: st) σ e :=
  fun z hz p l ev R s m args below meth c H locs cells slots Q dC dI cA A hF hP hS hr ls hL => lv_irem hF.1.1 hF.1.2.1 hd hy (k z hz p l ev R s m args below meth c H locs cells slots Q dC dI cA A hF hP hS hr ls hL)
/-- a divisor that is looked at -/
theorem q_idiv {x y : Int32} (hd : decode cc pc = .ok (.idiv, 1)) (k : qJ own cc nL fr lo vd G b K (pc + 1) L (.int (x / y) :: st) σ e) : qJ own cc nL fr lo vd G b K pc L (.int y :: .int x :: st) σ (if y = 0 then none else e) := by
  by_cases hy : y = 0
  · rw [if_pos hy]; exact qJ_none
  · rw [if_neg hy]; exact q_idivc hd hy k
theorem q_irem {x y : Int32} (hd : decode cc pc = .ok (.irem, 1)) (k : qJ own cc nL fr lo vd G b K (pc + 1) L (.int (x - x / y * y) :: st) σ e) : qJ own cc nL fr lo vd G b K pc L (.int y :: .int x :: st) σ (if y = 0 then none else e) := by
  by_cases hy : y = 0
  · rw [if_pos hy]; exact qJ_none
  · rw [if_neg hy]; exact q_iremc hd hy k
theorem q_i2l {x : Int32} (hd : decode cc pc = .ok (.i2l, 1)) (k : qJ own cc nL fr lo vd G b K (pc + 1) L (.long x.toInt64 :: st) σ e) : qJ own cc nL fr lo vd G b K pc L (.int x :: st) σ e :=
  fun z hz p l ev R s m args below meth c H locs cells slots Q dC dI cA A hF hP hS hr ls hL => lv_i2l hF.1.1 hF.1.2.1 hd rfl (k z hz p l ev R s m args below meth c H locs cells slots Q dC dI cA A hF hP hS hr ls hL)
theorem q_lmul {x y : Int64} (hd : decode cc pc = .ok (.lmul, 1)) (k : qJ own cc nL fr lo vd G b K (pc + 1) L (.long (x * y) :: st) σ e) : qJ own cc nL fr lo vd G b K pc L (.long y :: .long x :: st) σ e :=
  fun z hz p l ev R s m args below meth c H locs cells slots Q dC dI cA A hF hP hS hr ls hL => lv_lmul hF.1.1 hF.1.2.1 hd (k z hz p l ev R s m args below meth c H locs cells slots Q dC dI cA A hF hP hS hr ls hL)
theorem q_lcmp {x y : Int64} (hd : decode cc pc = .ok (.lcmp, 1)) (k : qJ own cc nL fr lo vd G b K (pc + 1) L (.int (lg_cmp x y) :: st) σ e) : qJ own cc nL fr lo vd G b K pc L (.long y :: .long x :: st) σ e :=
  fun z hz p l ev R s m args below meth c H locs cells slots Q dC dI cA A hF hP hS hr ls hL => W.lcmp hF.1.1 hF.1.2.1 hd (k z hz p l ev R s m args below meth c H locs cells slots Q dC dI cA A hF hP hS hr ls hL)
theorem q_dup {v : Value} (hd : decode cc pc = .ok (.dup, 1)) (hv : v.category = 1) (k : qJ own cc nL fr lo vd G b K (pc + 1) L (v :: v :: st) σ e) : qJ own cc nL fr lo vd G b K pc L (v :: st) σ e :=
  fun z hz p l ev R s m args below meth c H locs cells slots Q dC dI cA A hF hP hS hr ls hL => lv_dup hF.1.1 hF.1.2.1 hd hv (k z hz p l ev R s m args below meth c H locs cells slots Q dC dI cA A hF hP hS hr ls hL)
theorem q_pop {v : Value} (hd : decode cc pc = .ok (.pop, 1)) (hv : v.category = 1) (k : qJ own cc nL fr lo vd G b K (pc + 1) L st σ e) : qJ own cc nL fr lo vd G b K pc L (v :: st) σ e :=
  fun z hz p l ev R s m args below meth c H locs cells slots Q dC dI cA A hF hP hS hr ls hL => lv_pop hF.1.1 hF.1.2.1 hd hv (k z hz p l ev R s m args below meth c H locs cells slots Q dC dI cA A hF hP hS hr ls hL)
theorem q_goto {off : Int} (tgt : Nat) (hd : decode cc pc = .ok (.goto off, 3)) (ht : (pc : Int) + off = (tgt : Int)) (k : qJ own cc nL fr lo vd G b K tgt L st σ e) : qJ own cc nL fr lo vd G b K pc L st σ e :=
  fun z hz p l ev R s m args below meth c H locs cells slots Q dC dI cA A hF hP hS hr ls hL => lv_goto hF.1.1 hF.1.2.1 hd ht (k z hz p l ev R s m args below meth c H locs cells slots Q dC dI cA A hF hP hS hr ls hL)
theorem q_ireturn {x : Int32} (hd : decode cc pc = .ok (.ireturn, 1)) : qJ own cc nL fr lo false G b K pc L [.int x] σ (some (x, σ)) :=
  fun z hz p l ev R s m args below meth c H locs cells slots Q dC dI cA A hF hP hS hr ls hL => by
    cases hz
    exact hr pc [.int x] H locs ls (Or.inl ⟨rfl, hd, rfl⟩) hP hS
theorem q_return (hd : decode cc pc = .ok (.return_, 1)) : qJ own cc nL fr lo true G b K pc L [] σ (some (0, σ)) :=
  fun z hz p l ev R s m args below meth c H locs cells slots Q dC dI cA A hF hP hS hr ls hL => by
    cases hz
    exact hr pc [] H locs ls (Or.inr ⟨rfl, hd, rfl, rfl⟩) hP hS
end QROWS
