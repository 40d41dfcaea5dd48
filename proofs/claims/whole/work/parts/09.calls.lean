/-! ===== contracts and calls ===== -/
def qo (ret : Option FieldType) (r : Int32) : Option Value := match ret with
  | none => none
  | some _ => some (.int r)
def qS (y : MethodName) (cc : ByteArray) (nL : Nat) (ret : Option FieldType) (fr lo : Nat) (b : Nat) (K : List Nat) (vs : List Value) (σ : qSt) (e : qR) : Prop :=
  ∀ z : Int32 × qSt, e = some z → ∀ (l : Launch) (dC : Nat → ClassId) (dI : Nat → Nat → Nat) (cA : ClassId),
    Met l y (.code y cc nL ret :: qtbl) { frames := fr, cells := 0, slots := 0, locals := lo } (va_Pc vs (fun U => va_P (dC, dI) qcl (qw b cA σ K) U.heap ∧ qKK dC dI cA U))
      (fun _ s oc t => (oc = .returned (qo ret z.1) ∧ va_P (dC, dI) qcl (qw b cA z.2 K) t.heap) ∧ va_F (qA b K) s t) 0 0 (qA b K)
def qL0 (n : Nat) (vs : List Value) : List (Option Value) := vs.map some ++ List.replicate (n - vs.length) none
theorem q_sl {vs : List Value} (hv : ∀ v ∈ vs, v.category = 1) : lg_sl vs = vs.map (fun v => Slot.val v) := by
  induction vs with
  | nil => rfl
  | cons a t ih =>
    have h1 := hv a List.mem_cons_self
    have := ih (fun v h => hv v (List.mem_cons_of_mem _ h))
    simp only [lg_sl] at this ⊢
    rw [List.flatMap_cons, this]
    simp [h1]
theorem q_args {vs : List Value} (hv : ∀ v ∈ vs, v.category = 1) : ∀ (n i : Nat) (v : Value), vs[i]? = some v → (n + i, v) ∈ lv_args n vs := by
  induction vs with
  | nil => intro n i v h; simp at h
  | cons a t ih =>
    intro n i v h
    have h1 := hv a List.mem_cons_self
    simp only [lv_args]
    cases i with
    | zero => simp at h; subst h; exact List.mem_cons_self
    | succ i =>
      rw [List.getElem?_cons_succ] at h
      have := ih (fun v h => hv v (List.mem_cons_of_mem _ h)) (n + 1) i v h
      rw [if_neg (by omega)]
      rw [show n + (i + 1) = n + 1 + i by omega]
      exact List.mem_cons_of_mem _ this
theorem qS_of {y : MethodName} {own : String} {cc : ByteArray} {nL fr lo : Nat} {ret : Option FieldType} {b : Nat} {K : List Nat} {vs : List Value} {σ : qSt} {e : qR} (hown : y.cls = own) (hpl : plainName y.cls = true) (hK : K.Nodup) (hv : ∀ v ∈ vs, v.category = 1) (hn : vs.length ≤ nL)
    (hret : ∀ z, e = some z → ∀ ty, ret = some ty → narrow ty (.int z.1) = .int z.1) (hJ : qJ own cc nL fr lo (ret == none) (fun _ _ => True) b K 0 (qL0 nL vs) [] σ e) : qS y cc nL ret fr lo b K vs σ e := by
  intro z hz l dC dI cA
  refine Met.ofW (cc := cc) (maxL := nL) (ret := ret) hpl rfl ?_
  intro p ev s m args below meth c s₁ B hml hv0
  obtain ⟨rfl, hP, hKK⟩ := hv0
  have hts := atoms_spec (ws := .code y cc nL ret :: qtbl) B.pre
  have hl := lv_entry vs (n := nL) (by rw [q_sl hv, List.length_map]; exact hn)
  rw [lg_entry_eq]
  generalize (lg_sl vs ++ List.replicate (nL - (lg_sl vs).length) Slot.unset).toArray = ls at hl ⊢
  have hown' : s.vm.findClass own = some m.cls := by rw [← hown]; exact findClass_of_methodNamed B.named
  have hlocks := B.notSynchronized
  have hr := B.returns
  refine hJ z hz p l ev _ s m vs.toArray below meth c s.heap [] 0 0 _ dC dI cA (qA b K) ⟨⟨B.exec, B.bytes, hml, hown', fun w hw => hts w (List.mem_cons_of_mem _ hw)⟩, ⟨Nat.le_refl _, Nat.le_refl _, Nat.zero_le _, Nat.zero_le _⟩, hKK, hK, fun k hk => ⟨k, hk, rfl⟩, trivial⟩ hP va_S.rf ?_ ls ⟨hl.1, hl.2.1, ?_⟩
  · intro pcr st' H' locs' ls' hq hP' hS'
    rcases hq with ⟨h1, h2, rfl⟩ | ⟨h1, h2, rfl, -⟩
    · cases ret with
      | none => cases h1
      | some ty =>
        refine W.zret B.exec B.bytes hr (hret z hz ty rfl) (fun t ht _ => ⟨⟨rfl, by rw [ht]; exact hP'⟩, hS'.F ht⟩) (fun q hq => hS'.2.2 q hq) h2 hlocks
    · cases ret with
      | some ty => cases h1
      | none =>
        refine W.vret B.exec B.bytes hr (fun t ht _ => ⟨⟨rfl, by rw [ht]; exact hP'⟩, hS'.F ht⟩) (fun q hq => hS'.2.2 q hq) h2 hlocks
  · intro i v hi
    rw [qL0, List.getElem?_append] at hi
    split at hi
    · rw [List.getElem?_map] at hi
      cases hq : vs[i]? with
      | none => rw [hq] at hi; cases hi
      | some w =>
        rw [hq] at hi
        cases hi
        have := q_args hv 0 i v hq
        rw [Nat.zero_add] at this
        exact ⟨hl.2.2 (i, v) this, hv v (List.mem_of_getElem? hq)⟩
    · rw [List.getElem?_replicate] at hi
      split at hi <;> cases hi
theorem q_good : qtbl.all goodWord = true := List.all_eq_true.mpr fun w h => (List.mem_filter.mp h).2
theorem q_gi {y : MethodName} {cc : ByteArray} {nL : Nat} {ret : Option FieldType} (h : Cond.code y cc nL ret ∈ qtbl) : GoodIn qtbl (.code y cc nL ret :: qtbl) := by
  intro w hw
  have hm : w ∈ qtbl := by
    rcases List.mem_cons.mp hw with rfl | h1
    · exact h
    · exact h1
  exact ⟨hm, good_of_word (List.all_eq_true.mp q_good w hm)⟩
/-- what the tables say of a method that is called -/
def qY (y : MethodName) (cc : ByteArray) (nL : Nat) (ret : Option FieldType) (n : Nat) : Prop := Cond.code y cc nL ret ∈ qtbl ∧ Cond.initialized y.cls ∈ qtbl ∧ (y.cls ≠ "java/lang/invoke/MethodHandle" ∧ y.cls ≠ "java/lang/invoke/VarHandle" ∧ (parseMethodDescriptor y.desc).map (fun d => d.parameters.length) = some n)
theorem q_blind {b : Nat} {K : List Nat} {vs : List Value} {σ : qSt} {dC : Nat → ClassId} {dI : Nat → Nat → Nat} {cA : ClassId} : FrameBlind (va_Pc vs (fun U => va_P (dC, dI) qcl (qw b cA σ K) U.heap ∧ qKK dC dI cA U)) :=
  fun a U g mk q => by
    obtain ⟨q0, q1, q2⟩ := q
    exact ⟨q0, q1, va_K.moved (u := U) (U := U.calling g mk a) (Vm.Alike.refl U.vm) q2.1, fun q hq => va_Nw.same rfl rfl (q2.2 q hq)⟩
section QCALLS
variable {own : String} {cc : ByteArray} {nL fr lo : Nat} {vd : Bool} {G : State → (Nat → Prop) → Prop} {b : Nat} {K : List Nat} {pc : Nat} {L : List (Option Value)} {st stk : List Value} {σ : qSt} {e1 : qR} {f : Int32 → qSt → qR}
variable {y : MethodName} {cc' : ByteArray} {nL' fr' lo' n index : Nat} {ret : Option FieldType}
theorem q_behind {p : Program} {l : Launch} {ev : Env} {R : Room} {s : State} {m : MethodId} {args : Array Value} {below : List Frame} {meth : Method} {c : Code} {H : Heap} {locs : List Loc} {cells slots : Nat} {Q : State → Prop} {dC : Nat → ClassId} {dI : Nat → Nat → Nat} {cA : ClassId} {A : Nat → Prop} {ls : Array Slot} {σ' : qSt} {v : Option Value}
    (hA : ∀ k ∈ K, A (b + k)) (hS : va_S A s.heap H locs)
    (hr : va_Run p l ev R s m args below meth c H locs cells slots 0 0 (F0 m pc ls stk) st (fun s oc t => (oc = .returned v ∧ va_P (dC, dI) qcl (qw b cA σ' K) t.heap) ∧ va_F (qA b K) s t) (qA b K))
    (kk : ∀ (H1 : Heap) (locs1 : List Loc), va_P (dC, dI) qcl (qw b cA σ' K) H1 → va_S A s.heap H1 locs1 → W p l ev R s m args below meth c H1 locs1 cells slots Q (F0 m (pc + 3) ls (v.toList ++ st))) : W p l ev R s m args below meth c H locs cells slots Q (F0 m pc ls stk) := by
  intro T hT X
  obtain ⟨v', st₀, t, T', L, h0, X', hL, e1, e2, ⟨⟨hv, hPt⟩, hz, hk⟩, go⟩ := hr T hT X
  cases hv
  rw [h0] at hz hk
  have hq : ∀ q, qA b K q → A q := fun q h => by obtain ⟨k, hk, rfl⟩ := h; exact hA k hk
  obtain ⟨t2, a1, b1⟩ := kk T'.heap (locs ++ L) (by rw [e1]; exact hPt)
    ⟨Nat.le_trans hS.1 (by rw [e1]; exact hz), fun q h1 h2 => by rw [e1, hk q (Nat.lt_of_lt_of_le h1 hS.1) (fun z => h2 (hq q z))]; exact hS.2.1 q h1 h2, fun q hq' => by
      rcases List.mem_append.mp hq' with h | h
      · exact hS.2.2 q h
      · exact hq _ (hL q h)⟩ T' rfl X'
  exact ⟨t2, go t2 a1, b1⟩
theorem qb_some {x : qR} {f : Int32 → qSt → qR} {z : Int32 × qSt} (h : qb x f = some z) : ∃ z1, x = some z1 ∧ f z1.1 z1.2 = some z := by
  cases x with
  | none => cases h
  | some z1 => exact ⟨z1, rfl, h⟩
theorem q_callV {k ci N : Nat} {C : String} {T : u_T} (As : List Value) (hd : decode cc pc = .ok (.invokevirtual index, 3)) (hl : Cond.methodLink own index y ∈ qtbl) (hy : qY y cc' nL' ret n) (hi : Cond.instanceMethod y ∈ qtbl ∧ Cond.selects C y y ∈ qtbl) (hk : qIn K k ci) (hci : ci < 5) (hc : qcl[ci]? = some (C, T, N)) (hs : qS y cc' nL' ret fr' lo' b K (.ref (b + k) :: As) σ e1) (hn : As.length = n) (hstk : stk = As.reverse ++ .ref (b + k) :: st) (hw : (st.map fun v => v.category).sum ≤ 8) (hroom : fr' + 1 ≤ fr ∧ 8 + (nL' + 11) + lo' ≤ lo)
    (h : ∀ (r : Int32) (σ' : qSt), qJ own cc nL fr lo vd G b K (pc + 3) L ((qo ret r).toList ++ st) σ' (f r σ')) : qJ own cc nL fr lo vd G b K pc L stk σ (qb e1 f) :=
  fun z hz p l ev R s m args below meth c H locs cells slots Q dC dI cA A hF hP hS hr ls hL => by
    obtain ⟨z1, h1, h2⟩ := qb_some hz
    obtain ⟨q0, -, he⟩ := qw_at (b := b) (cA := cA) (σ := σ) hk.1
    have he2 : qent b cA σ k = .inr (ci, qfs b σ k ci) := by unfold qent; rw [hk.2, if_pos hci]
    rw [he2] at he
    obtain ⟨hx, hb, hml, hown, hts⟩ := id hF.1
    have hM := hs z1 h1 l dC dI cA
    have cw := callB_of (R := R) (s := s) (args := args) (own := own) (index := index) (y := y) (bytes := cc') (maxL := nL') (ret := ret) (rm := { frames := fr', cells := 0, slots := 0, locals := lo' }) n hts (q_gi hy.1) rfl rfl rfl (hts _ hy.2.1) (hts _ hl) hy.2.2 ⟨Nat.le_trans hroom.1 hF.2.1.1, Nat.le_trans hroom.2 hF.2.1.2.1⟩
    refine q_behind hF.2.2.2.2.1 hS (va_runV (C := C) (As := As) (rest := st) (mc := 0) (ms := 0) ⟨hx, hb, hml, hown, hts⟩ hM ⟨cw, hts _ hi.1, hts _ hi.2⟩ ⟨q_blind, va_recv hF.2.2.1.1 hP hc he, fun U hU hW => ⟨rfl, by rw [hU]; exact hP, qKK.moved hW hF.2.2.1⟩⟩ rfl hn hL.1 hstk (lv_room hw) hd ⟨by rw [Nat.add_zero]; exact hF.2.1.2.2.1, by rw [Nat.add_zero]; exact hF.2.1.2.2.2⟩) (fun H1 locs1 hP1 hS1 => ?_)
    exact h z1.1 z1.2 z h2 p l ev R s m args below meth c H1 locs1 cells slots Q dC dI cA A hF hP1 hS1 hr ls hL
theorem q_callS (As : List Value) (hd : decode cc pc = .ok (.invokestatic index, 3)) (hl : Cond.methodLink own index y ∈ qtbl) (hy : qY y cc' nL' ret n) (hi : Cond.static y ∈ qtbl) (hs : qS y cc' nL' ret fr' lo' b K As σ e1) (hn : As.length = n) (hstk : stk = As.reverse ++ st) (hw : (st.map fun v => v.category).sum ≤ 8) (hroom : fr' + 1 ≤ fr ∧ 8 + (nL' + 11) + lo' ≤ lo)
    (h : ∀ (r : Int32) (σ' : qSt), qJ own cc nL fr lo vd G b K (pc + 3) L ((qo ret r).toList ++ st) σ' (f r σ')) : qJ own cc nL fr lo vd G b K pc L stk σ (qb e1 f) :=
  fun z hz p l ev R s m args below meth c H locs cells slots Q dC dI cA A hF hP hS hr ls hL => by
    obtain ⟨z1, h1, h2⟩ := qb_some hz
    obtain ⟨hx, hb, hml, hown, hts⟩ := id hF.1
    have hM := hs z1 h1 l dC dI cA
    have cw := callB_of (R := R) (s := s) (args := args) (own := own) (index := index) (y := y) (bytes := cc') (maxL := nL') (ret := ret) (rm := { frames := fr', cells := 0, slots := 0, locals := lo' }) n hts (q_gi hy.1) rfl rfl rfl (hts _ hy.2.1) (hts _ hl) hy.2.2 ⟨Nat.le_trans hroom.1 hF.2.1.1, Nat.le_trans hroom.2 hF.2.1.2.1⟩
    refine q_behind hF.2.2.2.2.1 hS (va_runS (As := As) (rest := st) (mc := 0) (ms := 0) ⟨hx, hb, hml, hown, hts⟩ hM ⟨cw, hts _ hi⟩ ⟨q_blind, fun U hU hW => ⟨rfl, by rw [hU]; exact hP, qKK.moved hW hF.2.2.1⟩⟩ rfl hn hL.1 hstk (lv_room hw) hd ⟨by rw [Nat.add_zero]; exact hF.2.1.2.2.1, by rw [Nat.add_zero]; exact hF.2.1.2.2.2⟩) (fun H1 locs1 hP1 hS1 => ?_)
    exact h z1.1 z1.2 z h2 p l ev R s m args below meth c H1 locs1 cells slots Q dC dI cA A hF hP1 hS1 hr ls hL
theorem q_callSN {host : String} (As : List Value) (hd : decode cc pc = .ok (.invokestatic index, 3)) (hl : (own, index, y, host) ∈ qnest) (hy : qY y cc' nL' ret n) (hi : Cond.static y ∈ qtbl) (hs : qS y cc' nL' ret fr' lo' b K As σ e1) (hn : As.length = n) (hstk : stk = As.reverse ++ st) (hw : (st.map fun v => v.category).sum ≤ 8) (hroom : fr' + 1 ≤ fr ∧ 8 + (nL' + 11) + lo' ≤ lo)
    (h : ∀ (r : Int32) (σ' : qSt), qJ own cc nL fr lo vd G b K (pc + 3) L ((qo ret r).toList ++ st) σ' (f r σ')) : qJ own cc nL fr lo vd G b K pc L stk σ (qb e1 f) :=
  fun z hz p l ev R s m args below meth c H locs cells slots Q dC dI cA A hF hP hS hr ls hL => by
    obtain ⟨z1, h1, h2⟩ := qb_some hz
    obtain ⟨hx, hb, hml, hown, hts⟩ := id hF.1
    have hM := hs z1 h1 l dC dI cA
    have hgi := q_gi hy.1
    have hc : Cond.code y cc' nL' ret ∈ (Cond.code y cc' nL' ret :: qtbl) := List.mem_cons_self
    have cw : va_CN R s args own index y host cc' nL' ret (Cond.code y cc' nL' ret :: qtbl) { frames := fr', cells := 0, slots := 0, locals := lo' } 0 0 n := ⟨⟨rfl, rfl, Nat.le_trans hroom.1 hF.2.1.1, Nat.le_trans hroom.2 hF.2.1.2.1, pay_in hts hgi, hc⟩, hts _ hy.1, hts _ hy.2.1, ⟨hy.2.2.1, hy.2.2.2.1⟩, fun sig hsg => by have h2 := hy.2.2.2.2; rw [hsg] at h2; exact (Option.some.inj h2).symm, va_Nw.use rfl (hF.2.2.1.2 _ hl)⟩
    refine q_behind hF.2.2.2.2.1 hS (va_runSN (As := As) (rest := st) (mc := 0) (ms := 0) ⟨hx, hb, hml, hown, hts⟩ hM ⟨cw, hts _ hi, trivial⟩ ⟨q_blind, fun U hU hW => ⟨rfl, by rw [hU]; exact hP, qKK.moved hW hF.2.2.1⟩⟩ rfl hn hL.1 hstk (lv_room hw) hd ⟨by rw [Nat.add_zero]; exact hF.2.1.2.2.1, by rw [Nat.add_zero]; exact hF.2.1.2.2.2⟩) (fun H1 locs1 hP1 hS1 => ?_)
    exact h z1.1 z1.2 z h2 p l ev R s m args below meth c H1 locs1 cells slots Q dC dI cA A hF hP1 hS1 hr ls hL
end QCALLS
