/-! ===== constructors: a judgement qI with a world that grows ===== -/
def qPL (b h0 : Nat) : Array Slot → Prop := fun ls => ls[0]? = some (.val (.ref (b + h0)))
def qER (cc : ByteArray) : Nat → List Value → Array Slot → Prop := fun pc st _ => decode cc pc = .ok (.return_, 1) ∧ st = []
def qI (own : String) (cc : ByteArray) (nL : Nat) (nm : String) (PL : Array Slot → Prop) (E : Nat → List Value → Array Slot → Prop) (fr lo b : Nat) (pc : Nat) (st : List Value) (ws : ClassId → va_W) (n ca sl : Nat) (wE : ClassId → va_W) (nE cE sE : Nat) : Prop :=
  ∀ (p : Program) (l : Launch) (ev : Env) (R : Room) (s : State) (m : MethodId) (args : Array Value) (below : List Frame) (meth : Method) (c : Code) (H : Heap) (locs : List Loc) (Q : State → Prop) (dC : Nat → ClassId) (dI : Nat → Nat → Nat) (cA : ClassId) (A : Nat → Prop),
    CallFix p m c cc nL s args qtbl own ∧ meth.name = nm ∧ (fr ≤ R.frames ∧ lo ≤ R.locals ∧ cE ≤ R.cells ∧ sE ≤ R.slots) ∧ qKK dC dI cA s ∧ (∀ q, s.heap.size ≤ q → A q) →
    va_P (dC, dI) qcl (ws cA) H → va_D A (ws cA) → va_S A s.heap H locs → b + n ≤ H.size ∧ s.heap.size + ca = b + n →
    (∀ (pcr : Nat) (st' : List Value) (H' : Heap) (locs' : List Loc) (ls' : Array Slot), E pcr st' ls' → va_P (dC, dI) qcl (wE cA) H' → va_D A (wE cA) → va_S A s.heap H' locs' → b + nE ≤ H'.size → W p l ev R s m args below meth c H' locs' cE sE Q (F0 m pcr ls' st')) →
    ∀ ls : Array Slot, ls.size = nL ∧ PL ls → W p l ev R s m args below meth c H locs ca sl Q (F0 m pc ls st)
theorem q_size {p : Program} {l : Launch} {e : Env} {R : Room} {s : State} {m : MethodId} {args : Array Value} {below : List Frame} {meth : Method} {c : Code} {H : Heap} {locs : List Loc} {cells slots : Nat} {Q : State → Prop} {g : JFrame} (k : H.size ≤ s.heap.size + cells → W p l e R s m args below meth c H locs cells slots Q g) : W p l e R s m args below meth c H locs cells slots Q g := fun T hT X => k (by rw [← hT]; exact X.heapSize) T hT X
section QI
variable {own : String} {cc : ByteArray} {nL : Nat} {nm : String} {PL : Array Slot → Prop} {E : Nat → List Value → Array Slot → Prop} {fr lo b h0 : Nat} {pc : Nat} {st : List Value} {ws : ClassId → va_W} {n ca sl : Nat} {wE : ClassId → va_W} {nE cE sE : Nat}
theorem i_aload (hd : decode cc pc = .ok (.aload_n 0, 1)) (k : qI own cc nL nm (qPL b h0) E fr lo b (pc + 1) (.ref (b + h0) :: st) ws (n) (ca) (sl) wE nE cE sE) : qI own cc nL nm (qPL b h0) E fr lo b pc st ws (n) (ca) (sl) wE nE cE sE :=
  fun p l ev R s m args below meth c H locs Q dC dI cA A hF hP hD hS hz hr ls hL => lv_aload_n hF.1.1 hF.1.2.1 hd rfl hL.2 (k p l ev R s m args below meth c H locs Q dC dI cA A hF hP hD hS hz hr ls hL)
theorem i_iconst {i : Int} (v : Int32) (hd : decode cc pc = .ok (.iconst i, 1)) (hv : Int32.ofInt i = v) (k : qI own cc nL nm PL E fr lo b (pc + 1) (.int v :: st) ws (n) (ca) (sl) wE nE cE sE) : qI own cc nL nm PL E fr lo b pc st ws (n) (ca) (sl) wE nE cE sE :=
  fun p l ev R s m args below meth c H locs Q dC dI cA A hF hP hD hS hz hr ls hL => lv_iconst hF.1.1 hF.1.2.1 hd hv (k p l ev R s m args below meth c H locs Q dC dI cA A hF hP hD hS hz hr ls hL)
theorem i_bipush {i : Int} (v : Int32) (hd : decode cc pc = .ok (.bipush i, 2)) (hv : (Int8.ofInt i).toInt32 = v) (k : qI own cc nL nm PL E fr lo b (pc + 2) (.int v :: st) ws (n) (ca) (sl) wE nE cE sE) : qI own cc nL nm PL E fr lo b pc st ws (n) (ca) (sl) wE nE cE sE :=
  fun p l ev R s m args below meth c H locs Q dC dI cA A hF hP hD hS hz hr ls hL => lv_bipush hF.1.1 hF.1.2.1 hd hv (k p l ev R s m args below meth c H locs Q dC dI cA A hF hP hD hS hz hr ls hL)
theorem i_sipush {i : Int} (v : Int32) (hd : decode cc pc = .ok (.sipush i, 3)) (hv : (Int16.ofInt i).toInt32 = v) (k : qI own cc nL nm PL E fr lo b (pc + 3) (.int v :: st) ws (n) (ca) (sl) wE nE cE sE) : qI own cc nL nm PL E fr lo b pc st ws (n) (ca) (sl) wE nE cE sE :=
  fun p l ev R s m args below meth c H locs Q dC dI cA A hF hP hD hS hz hr ls hL => lv_sipush hF.1.1 hF.1.2.1 hd hv (k p l ev R s m args below meth c H locs Q dC dI cA A hF hP hD hS hz hr ls hL)
theorem i_dup {v : Value} (hd : decode cc pc = .ok (.dup, 1)) (hv : v.category = 1) (k : qI own cc nL nm PL E fr lo b (pc + 1) (v :: v :: st) ws (n) (ca) (sl) wE nE cE sE) : qI own cc nL nm PL E fr lo b pc (v :: st) ws (n) (ca) (sl) wE nE cE sE :=
  fun p l ev R s m args below meth c H locs Q dC dI cA A hF hP hD hS hz hr ls hL => lv_dup hF.1.1 hF.1.2.1 hd hv (k p l ev R s m args below meth c H locs Q dC dI cA A hF hP hD hS hz hr ls hL)
theorem i_return (hd : decode cc pc = .ok (.return_, 1)) : qI own cc nL nm PL (qER cc) fr lo b pc [] wE nE cE sE wE nE cE sE :=
  fun p l ev R s m args below meth c H locs Q dC dI cA A hF hP hD hS hz hr ls hL => hr pc [] H locs ls ⟨hd, rfl⟩ hP hD hS hz.1
theorem i_exit (hE : ∀ ls : Array Slot, ls.size = nL → PL ls → E pc st ls) : qI own cc nL nm PL E fr lo b pc st wE nE cE sE wE nE cE sE :=
  fun p l ev R s m args below meth c H locs Q dC dI cA A hF hP hD hS hz hr ls hL => hr pc st H locs ls (hE ls hL.1 hL.2) hP hD hS hz.1
theorem i_eq {ws' : ClassId → va_W} (h : ∀ cA, ws cA = ws' cA) (k : qI own cc nL nm PL E fr lo b pc st ws' (n) (ca) (sl) wE nE cE sE) : qI own cc nL nm PL E fr lo b pc st ws (n) (ca) (sl) wE nE cE sE :=
  fun p l ev R s m args below meth c H locs Q dC dI cA A hF hP hD hS hz hr ls hL => k p l ev R s m args below meth c H locs Q dC dI cA A hF (h cA ▸ hP) (h cA ▸ hD) hS hz hr ls hL
theorem i_obj {a index : Nat} (hd : decode cc pc = .ok (.invokespecial index, 3)) (hl : Cond.methodLink own index Lib.objectInit ∈ qtbl) (h1 : Cond.instanceMethod Lib.objectInit ∈ qtbl) (h2 : Cond.code Lib.objectInit ⟨#[0xb1]⟩ 1 none ∈ qtbl) (hfr : 1 ≤ fr) (hlo : 12 ≤ lo) (k : qI own cc nL nm PL E fr lo b (pc + 3) [] ws (n) (ca) (sl) wE nE cE sE) : qI own cc nL nm PL E fr lo b pc [.ref a] ws (n) (ca) (sl) wE nE cE sE :=
  fun p l ev R s m args below meth c H locs Q dC dI cA A hF hP hD hS hz hr ls hL => W.objInit hF.1.1 hF.1.2.1 hF.1.2.2.2.1 (hF.1.2.2.2.2 _ hl) (hF.1.2.2.2.2 _ h1) (hF.1.2.2.2.2 _ h2) rfl (hL.1.trans hF.1.2.2.1.symm) rfl hd (Nat.le_trans hfr hF.2.2.1.1) (Nat.le_trans (show 2 * 0 + 0 + 12 ≤ lo from hlo) hF.2.2.1.2.1) (k p l ev R s m args below meth c H locs Q dC dI cA A hF hP hD hS hz hr ls hL)
theorem i_new {ci N index : Nat} {C : String} {T : u_T} {ty : Nat → FieldType} (fs : List Value) (hd : decode cc pc = .ok (.new index, 3)) (hc : qcl[ci]? = some (C, T, N)) (hin : ∀ w ∈ u_ws C T N, w ∈ qtbl) (hty : ∀ k, k < N → parseFieldDescriptor (T k).2.2.1 = some (ty k)) (hcl : Cond.classLink own index C ∈ qtbl) (h1 : Cond.instantiable C N ∈ qtbl) (h2 : Cond.initialized C ∈ qtbl) (hfs : ∀ j, j < N → defaultValue (ty j) = vp_V fs j) (hcE : ca + 1 ≤ cE) (hsE : sl + N ≤ sE)
    (k : qI own cc nL nm PL E fr lo b (pc + 3) (.ref (b + n) :: st) (fun cA => ws cA ++ [(b + n, .inr (ci, fs))]) (n + 1) (ca + 1) (sl + N) wE nE cE sE) : qI own cc nL nm PL E fr lo b pc st ws (n) (ca) (sl) wE nE cE sE :=
  fun p l ev R s m args below meth c H locs Q dC dI cA A hF hP hD hS hz hr ls hL => by
    refine q_size (fun hsz => ?_)
    have hz0 := hz
    have hz : H.size = b + n := by omega
    have hKn := hF.2.2.2.1.1.1 ci _ hc
    refine W.newcK hF.1.1 hF.1.2.1 hF.1.2.2.2.1 (hF.1.2.2.2.2 _ hcl) (hF.1.2.2.2.2 _ h1) (hF.1.2.2.2.2 _ h2) rfl hd (Nat.le_trans hcE hF.2.2.1.2.2.1) (Nat.le_trans hsE hF.2.2.1.2.2.2) hKn.2.1 hz fun H1 kC hkC e1 z1 o1 => ?_
    have hk : ∀ (k : Nat) (x : Nat × va_E), (ws cA)[k]? = some x → H1[x.1]? = H[x.1]? := fun k x hx => o1 x.1 (by rw [← hz]; exact (hP k x hx).lt)
    refine k p l ev R s m args below meth c H1 locs Q dC dI cA A hF ((hP.kept hk).app (fun k x hx => ?_)) (hD.push hP hz.symm (hF.2.2.2.2 _ (by rw [← hz]; exact hS.1))) ⟨Nat.le_trans hS.1 (by omega), fun x h1 h2 => (o1 x (by rw [← hz]; exact (Nat.lt_of_lt_of_le h1 hS.1))).trans (hS.2.1 x h1 h2), hS.2.2⟩ ⟨by omega, by omega⟩ hr ls hL
    have hzz : k < 1 := (List.getElem?_eq_some_iff.mp hx).1
    rw [show k = 0 by omega] at hx
    cases hx
    exact ⟨_, hc, (u_born ty hF.1.2.2.2.2 hin hKn hkC e1 hty).to hfs⟩
theorem i_newa {x : Int32} {N : Nat} (hd : decode cc pc = .ok (.newarray .int, 2)) (hw : Cond.arrayClass .int ∈ qtbl) (hx0 : ¬ x < 0) (hN : x.toNatClampNeg = N) (hb : N ≤ 1000) (hcE : ca + 1 ≤ cE) (hsE : sl + N ≤ sE)
    (k : qI own cc nL nm PL E fr lo b (pc + 2) (.ref (b + n) :: st) (fun cA => ws cA ++ [(b + n, .inl (cA, N, .inl (fun _ => 0)))]) (n + 1) (ca + 1) (sl + N) wE nE cE sE) : qI own cc nL nm PL E fr lo b pc (.int x :: st) ws (n) (ca) (sl) wE nE cE sE :=
  fun p l ev R s m args below meth c H locs Q dC dI cA A hF hP hD hS hz hr ls hL => by
    refine q_size (fun hsz => ?_)
    have hz0 := hz
    have hz : H.size = b + n := by omega
    refine va_newaK hF.1.1 hF.1.2.1 (atype := .int) (hF.1.2.2.2.2 _ hw) rfl hd rfl hx0 hN (by show N * 4 ≤ 536870912; omega) (Nat.le_trans hcE hF.2.2.1.2.2.1) (Nat.le_trans hsE hF.2.2.1.2.2.2) hz fun H1 cA' e1 z1 o1 hAr hNm => ?_
    have hcA : cA' = cA := by
      have h9 := (hF.2.2.2.1.1.2 0 _ rfl).2
      exact Option.some.inj (hNm.symm.trans h9)
    subst hcA
    have hk : ∀ (k : Nat) (x : Nat × va_E), (ws cA')[k]? = some x → H1[x.1]? = H[x.1]? := fun k x hx => o1 x.1 (by rw [← hz]; exact (hP k x hx).lt)
    refine k p l ev R s m args below meth c H1 locs Q dC dI cA' A hF ((hP.kept hk).app (fun k x hx => ?_)) (hD.push hP hz.symm (hF.2.2.2.2 _ (by rw [← hz]; exact hS.1))) ⟨Nat.le_trans hS.1 (by omega), fun x h1 h2 => (o1 x (by rw [← hz]; exact (Nat.lt_of_lt_of_le h1 hS.1))).trans (hS.2.1 x h1 h2), hS.2.2⟩ ⟨by omega, by omega⟩ hr ls hL
    have hzz : k < 1 := (List.getElem?_eq_some_iff.mp hx).1
    rw [show k = 0 by omega] at hx
    cases hx
    exact e1
theorem i_put {a q0 ci j N index : Nat} {C : String} {T : u_T} {ty0 : Nat → FieldType} {ty : FieldType} {v : Value} (fs : List Value) (hd : decode cc pc = .ok (.putfield index, 3)) (hc : qcl[ci]? = some (C, T, N)) (hin : ∀ w ∈ u_ws C T N, w ∈ qtbl) (hty : ∀ k, k < N → parseFieldDescriptor (T k).2.2.1 = some (ty0 k)) (hnm : ∀ a, a < N → ∀ b, b < N → a ≠ b → (T a).2.1 ≠ (T b).2.1) (he : ∀ cA, (ws cA)[q0]? = some (a, .inr (ci, fs))) (hj : j < N) (hl : Cond.fieldLink own index (T j).1 (T j).2.1 (T j).2.2.1 ∈ qtbl) (hfin : (T j).2.2.2 = false) (hdt : parseFieldDescriptor (T j).2.2.1 = some ty) (hn : narrow ty v = v) (hfit : fits ty v = true) (hlen : j < fs.length) (q1 : Nat) (hn1 : 1 ≤ n) (hq1 : ∀ cA, ∃ e, ((ws cA).set q0 (a, .inr (ci, fs.set j v)))[q1]? = some (b + (n - 1), e))
    (k : qI own cc nL nm PL E fr lo b (pc + 3) st (fun cA => (ws cA).set q0 (a, .inr (ci, fs.set j v))) (n) (ca) (sl) wE nE cE sE) : qI own cc nL nm PL E fr lo b pc (v :: .ref a :: st) ws (n) (ca) (sl) wE nE cE sE :=
  fun p l ev R s m args below meth c H locs Q dC dI cA A hF hP hD hS hz hr ls hL => va_put hF.1.1 hF.1.2.1 hF.1.2.2.2.2 hin ty0 hty hnm hF.1.2.2.2.1 hF.2.2.2.1.1 hP hD hS q0 (he cA) hc j hj (hF.1.2.2.2.2 _ hl) (fun x hx => hx) hfin hdt hn hfit hlen hd (fun H1 locs1 hP1 hD1 hS1 => k p l ev R s m args below meth c H1 locs1 Q dC dI cA A hF hP1 hD1 hS1 ⟨by obtain ⟨e, he1⟩ := hq1 cA; have := (hP1 q1 _ he1).lt; dsimp only at this; omega, hz.2⟩ hr ls hL)
theorem i_putF {a q0 ci j N index : Nat} {C : String} {T : u_T} {ty0 : Nat → FieldType} {ty : FieldType} {v : Value} (fs : List Value) (hd : decode cc pc = .ok (.putfield index, 3)) (hc : qcl[ci]? = some (C, T, N)) (hin : ∀ w ∈ u_ws C T N, w ∈ qtbl) (hty : ∀ k, k < N → parseFieldDescriptor (T k).2.2.1 = some (ty0 k)) (hnm : ∀ a, a < N → ∀ b, b < N → a ≠ b → (T a).2.1 ≠ (T b).2.1) (he : ∀ cA, (ws cA)[q0]? = some (a, .inr (ci, fs))) (hj : j < N) (hl : Cond.fieldLink own index (T j).1 (T j).2.1 (T j).2.2.1 ∈ qtbl) (hfin : (T j).2.2.2 = true) (hnm2 : nm = "<init>") (hdc : (T j).1 = own) (hdt : parseFieldDescriptor (T j).2.2.1 = some ty) (hn : narrow ty v = v) (hfit : fits ty v = true) (hlen : j < fs.length) (q1 : Nat) (hn1 : 1 ≤ n) (hq1 : ∀ cA, ∃ e, ((ws cA).set q0 (a, .inr (ci, fs.set j v)))[q1]? = some (b + (n - 1), e))
    (k : qI own cc nL nm PL E fr lo b (pc + 3) st (fun cA => (ws cA).set q0 (a, .inr (ci, fs.set j v))) (n) (ca) (sl) wE nE cE sE) : qI own cc nL nm PL E fr lo b pc (v :: .ref a :: st) ws (n) (ca) (sl) wE nE cE sE :=
  fun p l ev R s m args below meth c H locs Q dC dI cA A hF hP hD hS hz hr ls hL => va_putF hF.1.1 hF.1.2.1 hF.1.2.2.2.2 hin ty0 hty hnm hF.1.2.2.2.1 hF.2.2.2.1.1 hP hD hS q0 (he cA) hc j hj (hF.1.2.2.2.2 _ hl) (fun x hx => hx) hfin (hF.2.1.trans hnm2) hdc hdt hn hfit hlen hd (fun H1 locs1 hP1 hD1 hS1 => k p l ev R s m args below meth c H1 locs1 Q dC dI cA A hF hP1 hD1 hS1 ⟨by obtain ⟨e, he1⟩ := hq1 cA; have := (hP1 q1 _ he1).lt; dsimp only at this; omega, hz.2⟩ hr ls hL)
/-- a constructor's contract: its object is the cell b + k that was made last -/
def qSI (y : MethodName) (cc : ByteArray) (fr lo ca sl : Nat) (b k ci : Nat) (fs : List Value) (nE : Nat) (wE : ClassId → va_W) : Prop :=
  ∀ (l : Launch) (dC : Nat → ClassId) (dI : Nat → Nat → Nat) (cA : ClassId),
    Met l y (.code y cc 1 none :: qtbl) { frames := fr, cells := ca, slots := sl, locals := lo } (va_Pc [.ref (b + k)] (fun U => U.heap.size = b + (k + 1) ∧ va_P (dC, dI) qcl [(b + k, .inr (ci, fs))] U.heap ∧ qKK dC dI cA U))
      (fun _ s oc t => (oc = .returned none ∧ b + nE ≤ t.heap.size ∧ va_P (dC, dI) qcl (wE cA) t.heap ∧ va_D (va_A [(b + k, .inr (ci, fs))] (b + (k + 1))) (wE cA)) ∧ va_F (va_A [(b + k, .inr (ci, fs))] (b + (k + 1))) s t) ca sl (va_A [(b + k, .inr (ci, fs))] (b + (k + 1)))
theorem qSI_of {y : MethodName} {own : String} {cc : ByteArray} {fr lo ca sl b k ci nE : Nat} {fs : List Value} {wE : ClassId → va_W} (hown : y.cls = own) (hnm : y.name = "<init>") (hpl : plainName y.cls = true) (hJ : qI own cc 1 "<init>" (qPL b k) (qER cc) fr lo b 0 [] (fun _ => [(b + k, .inr (ci, fs))]) (k + 1) 0 0 wE nE ca sl) : qSI y cc fr lo ca sl b k ci fs nE wE := by
  intro l dC dI cA
  refine Met.ofW (cc := cc) (maxL := 1) (ret := none) hpl rfl ?_
  intro p ev s m args below meth c s₁ B hml hv0
  obtain ⟨rfl, hsz, hP, hKK⟩ := hv0
  have hts := atoms_spec (ws := .code y cc 1 none :: qtbl) B.pre
  have hl := lv_entry ([.ref (b + k)]) (n := 1) (Nat.le_of_ble_eq_true rfl)
  rw [lg_entry_eq]
  generalize (lg_sl ([.ref (b + k)]) ++ List.replicate (1 - (lg_sl ([.ref (b + k)])).length) Slot.unset).toArray = ls at hl ⊢
  have hown' : s.vm.findClass own = some m.cls := by rw [← hown]; exact findClass_of_methodNamed B.named
  have hlocks := B.notSynchronized
  have hr := B.returns
  have hin : meth.name = "<init>" := by rw [← hnm]; exact (name_of_methodNamed B.named B.method).1
  have hD : va_D (va_A [(b + k, .inr (ci, fs))] (b + (k + 1))) [(b + k, .inr (ci, fs))] := by
    refine ⟨fun i j p q hi hj hpq => ?_, fun i q hi => ⟨i, q.2, hi⟩ |> Or.inl⟩
    have a1 : i < 1 := (List.getElem?_eq_some_iff.mp hi).1
    have a2 : j < 1 := (List.getElem?_eq_some_iff.mp hj).1
    omega
  refine hJ p l ev _ s m _ below meth c s.heap [] _ dC dI cA (va_A [(b + k, .inr (ci, fs))] (b + (k + 1))) ⟨⟨B.exec, B.bytes, hml, hown', fun w hw => hts w (List.mem_cons_of_mem _ hw)⟩, hin, ⟨Nat.le_refl _, Nat.le_refl _, Nat.le_refl _, Nat.le_refl _⟩, hKK, fun q hq => Or.inr (by rw [← hsz]; exact hq)⟩ hP hD va_S.rf ⟨by omega, by omega⟩ ?_ ls ⟨hl.1, hl.2.2 (0, .ref (b + k)) (by simp [lv_args])⟩
  rintro pcr st' H' locs' ls' ⟨hd, rfl⟩ hP' hD' hS' hz'
  exact W.vret B.exec B.bytes hr (fun t ht _ => ⟨⟨rfl, by rw [ht]; exact hz', by rw [ht]; exact hP', hD'⟩, hS'.F ht⟩) (fun q hq => hS'.2.2 q hq) hd hlocks

/-- a constructor is called on the cell made last; wr: the other cells -/
theorem i_init {y : MethodName} {cc' : ByteArray} {fr' lo' mc ms ci nE' k index : Nat} {fs : List Value} {w1 : ClassId → va_W} (wr : ClassId → va_W) (isC isR : List Nat) (hd : decode cc pc = .ok (.invokespecial index, 3)) (hl : Cond.methodLink own index y ∈ qtbl) (hy : qY y cc' 1 none 0) (hi : Cond.instanceMethod y ∈ qtbl) (hnm : y.name = "<init>") (hs : qSI y cc' fr' lo' mc ms b k ci fs nE' w1) (hn : n = k + 1) (hnE : nE' = n + mc)
    (hC : ∀ cA, isC.map (fun i => (ws cA)[i]?) = [(b + k, (Sum.inr (ci, fs) : va_E))].map some) (hR : ∀ cA, isR.map (fun i => (ws cA)[i]?) = (wr cA).map some) (hnd : va_nd isR = true) (hdis : ∀ i ∈ isR, i ∉ isC) (hw : (st.map fun v => v.category).sum ≤ 8) (hroom : fr' + 1 ≤ fr ∧ 8 + (1 + 11) + lo' ≤ lo) (hcE : ca + mc ≤ cE) (hsE : sl + ms ≤ sE)
    (h : qI own cc nL nm PL E fr lo b (pc + 3) st (fun cA => wr cA ++ w1 cA) (n + mc) (ca + mc) (sl + ms) wE nE cE sE) : qI own cc nL nm PL E fr lo b pc (.ref (b + k) :: st) ws (n) (ca) (sl) wE nE cE sE :=
  fun p l ev R s m args below meth c H locs Q dC dI cA A hF hP hD hS hz hr ls hL => by
    refine q_size (fun hsz => ?_)
    have hz0 := hz
    have hz : H.size = b + n := by omega
    subst hn
    obtain ⟨hx, hb, hml, hown, hts⟩ := id hF.1
    have hM := hs l dC dI cA
    have cw := cwI (R := R) (s := s) (args := args) (own := own) (index := index) (y := y) (bytes := cc') (maxL := 1) (rm := { frames := fr', cells := mc, slots := ms, locals := lo' }) 0 hts (q_gi hy.1) rfl rfl rfl (hts _ hy.2.1) (hts _ hl) (hts _ hi) hnm hy.2.2 ⟨Nat.le_trans hroom.1 hF.2.2.1.1, Nat.le_trans hroom.2 hF.2.2.1.2.1⟩
    have hPc : va_P (dC, dI) qcl [(b + k, .inr (ci, fs))] H := by
      intro i q hiq
      have h1 := hC cA
      have hi1 : i < 1 := (List.getElem?_eq_some_iff.mp hiq).1
      have hi0 : i = 0 := by omega
      subst hi0
      cases hiq
      cases isC with
      | nil => cases h1
      | cons a t =>
        rw [List.map_cons, List.map_cons] at h1
        exact hP a _ (List.cons.inj h1).1
    have hFc : ∀ q, va_A [(b + k, .inr (ci, fs))] H.size q → A q := va_free hD hS hF.2.2.2.2 isC (hC cA)
    have hrun := va_runI (As := []) (rest := st) (b := b + k) (H := H) (locs := locs) (cells := ca) (slots := sl) (l := l) (e := ev) (below := below) (meth := meth) (g := F0 m pc ls (.ref (b + k) :: st)) ⟨hx, hb, hml, hown, hts⟩ hM cw ⟨fun a U g mk q => by obtain ⟨q0, q1, q2, q3⟩ := q; exact ⟨q0, q1, q2, va_K.moved (u := U) (U := U.calling g mk a) (Vm.Alike.refl U.vm) q3.1, fun q hq => va_Nw.same rfl rfl (q3.2 q hq)⟩, fun U hU hW => ⟨rfl, by rw [hU]; exact hz, by rw [hU]; exact hPc, qKK.moved hW hF.2.2.2.1⟩⟩ rfl rfl hL.1 rfl (lv_room hw) hd ⟨Nat.le_trans hcE hF.2.2.1.2.2.1, Nat.le_trans hsE hF.2.2.1.2.2.2⟩
    intro T hT X
    obtain ⟨v', st₀, t, T', L, h0, X', hL', e1, e2, ⟨⟨hv, hzt, hPt, hDt⟩, hzz, hk⟩, go⟩ := hrun T hT X
    cases hv
    rw [h0] at hzz hk
    rw [← hz] at hk hDt
    obtain ⟨hP', hD'⟩ := va_join (wr := wr cA) (w1 := w1 cA) (H1 := t.heap) hP hD isC isR (hC cA) (hR cA) hnd hdis hk hFc hPt hDt
    obtain ⟨t2, a1, b1⟩ := h p l ev R s m args below meth c T'.heap (locs ++ L) Q dC dI cA A hF (by rw [e1]; exact hP') hD' ⟨Nat.le_trans hS.1 (by rw [e1]; exact hzz), fun q h1 h2 => by rw [e1, hk q (Nat.lt_of_lt_of_le h1 hS.1) (fun z => h2 (hFc q z))]; exact hS.2.1 q h1 h2, fun q hq' => by
      rcases List.mem_append.mp hq' with h | h
      · exact hS.2.2 q h
      · exact hFc _ (by rw [hz]; exact hL' q h)⟩ ⟨by rw [e1]; omega, by omega⟩ hr ls hL T' rfl X'
    exact ⟨t2, go t2 a1, b1⟩

/-- a method (by its qS) is called on a part of the world, K: its places are isC -/
theorem i_callv {y : MethodName} {cc' : ByteArray} {nL' fr' lo' k ci N na index : Nat} {C : String} {T : u_T} {K : List Nat} {σ σ' : qSt} {r : Int32} (As : List Value) (wr : ClassId → va_W) (isC isR : List Nat) (hd : decode cc pc = .ok (.invokevirtual index, 3)) (hl : Cond.methodLink own index y ∈ qtbl) (hy : qY y cc' nL' none na) (hi : Cond.instanceMethod y ∈ qtbl ∧ Cond.selects C y y ∈ qtbl) (hk : qIn K k ci) (hci : ci < 5) (hc : qcl[ci]? = some (C, T, N)) (hs : qS y cc' nL' none fr' lo' b K (.ref (b + k) :: As) σ (some (r, σ'))) (hKn : K.Nodup) (hna : As.length = na) {stk : List Value} (hstk : stk = As.reverse ++ .ref (b + k) :: st)
    (hC : ∀ cA, isC.map (fun i => (ws cA)[i]?) = (qw b cA σ K).map some) (hR : ∀ cA, isR.map (fun i => (ws cA)[i]?) = (wr cA).map some) (hnd : va_nd isR = true) (hdis : ∀ i ∈ isR, i ∉ isC) (hw : (st.map fun v => v.category).sum ≤ 8) (hroom : fr' + 1 ≤ fr ∧ 8 + (nL' + 11) + lo' ≤ lo) (hcE : ca ≤ cE) (hsE : sl ≤ sE)
    (h : qI own cc nL nm PL E fr lo b (pc + 3) st (fun cA => wr cA ++ qw b cA σ' K) (n) (ca) (sl) wE nE cE sE) : qI own cc nL nm PL E fr lo b pc stk ws (n) (ca) (sl) wE nE cE sE :=
  fun p l ev R s m args below meth c H locs Q dC dI cA A hF hP hD hS hz hr ls hL => by
    obtain ⟨hx, hb, hml, hown, hts⟩ := id hF.1
    have hM := hs (r, σ') rfl l dC dI cA
    have cw := callB_of (R := R) (s := s) (args := args) (own := own) (index := index) (y := y) (bytes := cc') (maxL := nL') (ret := none) (rm := { frames := fr', cells := 0, slots := 0, locals := lo' }) na hts (q_gi hy.1) rfl rfl rfl (hts _ hy.2.1) (hts _ hl) hy.2.2 ⟨Nat.le_trans hroom.1 hF.2.2.1.1, Nat.le_trans hroom.2 hF.2.2.1.2.1⟩
    have hPc : va_P (dC, dI) qcl (qw b cA σ K) H := by
      intro i q hiq
      have h1 : (isC.map (fun i => (ws cA)[i]?))[i]? = some (some q) := by rw [hC cA, List.getElem?_map, hiq]; rfl
      rw [List.getElem?_map] at h1
      cases hq : isC[i]? with
      | none => rw [hq] at h1; cases h1
      | some a => rw [hq] at h1; exact hP a q (Option.some.inj h1)
    have hFc : ∀ q, va_A (qw b cA σ K) H.size q → A q := va_free hD hS hF.2.2.2.2 isC (hC cA)
    have hqA : ∀ q, qA b K q → va_A (qw b cA σ K) H.size q := fun q hq => by
      obtain ⟨k', hk', rfl⟩ := hq
      obtain ⟨i, -, hi'⟩ := qw_at (b := b) (cA := cA) (σ := σ) hk'
      exact Or.inl ⟨i, _, hi'⟩
    obtain ⟨q0, -, he⟩ := qw_at (b := b) (cA := cA) (σ := σ) hk.1
    have he2 : qent b cA σ k = .inr (ci, qfs b σ k ci) := by unfold qent; rw [hk.2, if_pos hci]
    rw [he2] at he
    have hrun := va_runV (C := C) (As := As) (rest := st) (b := b + k) (H := H) (locs := locs) (cells := ca) (slots := sl) (mc := 0) (ms := 0) (l := l) (e := ev) (below := below) (meth := meth) (g := F0 m pc ls stk) ⟨hx, hb, hml, hown, hts⟩ hM ⟨cw, hts _ hi.1, hts _ hi.2⟩ ⟨q_blind, va_recv hF.2.2.2.1.1 hPc hc he, fun U hU hW => ⟨rfl, by rw [hU]; exact hPc, qKK.moved hW hF.2.2.2.1⟩⟩ rfl hna hL.1 hstk (lv_room hw) hd ⟨Nat.le_trans hcE hF.2.2.1.2.2.1, Nat.le_trans hsE hF.2.2.1.2.2.2⟩
    intro T hT X
    obtain ⟨v', st₀, t, T', L, h0, X', hL', e1, e2, ⟨⟨hv, hPt⟩, hzz, hkk⟩, go⟩ := hrun T hT X
    cases hv
    rw [h0] at hzz hkk
    have hk2 : ∀ q : Nat, q < H.size → ¬ va_A (qw b cA σ K) H.size q → t.heap[q]? = H[q]? := fun q h1 h2 => hkk q h1 (fun z => h2 (hqA q z))
    obtain ⟨hP', hD'⟩ := va_join (wr := wr cA) (w1 := qw b cA σ' K) (H1 := t.heap) hP hD isC isR (hC cA) (hR cA) hnd hdis hk2 hFc hPt (qw_D hKn (fun k' hk' => hqA _ ⟨k', hk', rfl⟩))
    obtain ⟨t2, a1, b1⟩ := h p l ev R s m args below meth c T'.heap (locs ++ L) Q dC dI cA A hF (by rw [e1]; exact hP') hD' ⟨Nat.le_trans hS.1 (by rw [e1]; exact hzz), fun q h1 h2 => by rw [e1, hk2 q (Nat.lt_of_lt_of_le h1 hS.1) (fun z => h2 (hFc q z))]; exact hS.2.1 q h1 h2, fun q hq' => by
      rcases List.mem_append.mp hq' with h | h
      · exact hS.2.2 q h
      · exact hFc _ (hqA _ (hL' q h))⟩ ⟨by rw [e1]; omega, hz.2⟩ hr ls hL T' rfl X'
    exact ⟨t2, go t2 a1, b1⟩

end QI
