-- ===== end of PART A; then your names; then what follows =====
/-! THE CLAIM OUT OF ONE WALK OF THE LAW'S BODY. Your part is whole_start (and what it stands on); all else here is the same for every law, but numbers. -/
def R_law : String := "LineSearchLaw"
def lw_P (b : Addr) (xs : List Int32) (args : Array Value) (s : State) : Prop := args = #[.ref b] ∧ s.IntsAt b xs ∧ xs.length ≤ 2048 ∧ (Jvm.Cond.and given_1 narrow_1).before args s = true
def lw_Q (_ : Array Value) (s : State) (o : Outcome) (t : State) : Prop := o = .returned (some (.int 1)) ∧ Framed s o t [] 25 2839
def lw_Z (below : List Frame) (a : Array Value) (s : State) : State → Prop := fun t => ∃ o, t.status = .running ∧ Ended t below o ∧ lw_Q a s o t
/-- the law's own end, with 1 on the stack, nothing written that was there before, its room as the claim has it -/
theorem lw_ret {p : Program} {l : Launch} {e : Env} {s : State} {m : MethodId} {below : List Frame} {meth : Method} {c : Code} {b : Nat} (hx : p.tables.exec = Jvm.exec) (hb : c.code = code) (hr : meth.sig.returnType = ret) (hlocks : meth.locks = false) {pc : Nat} {H : Heap} {ls : Array Slot} (hdg : decode code pc = .ok (.ireturn, 1)) : W p l e room_1 s m #[Value.ref b] below meth c H [] 25 2839 (lw_Z below #[Value.ref b] s) (F0 m pc ls [.int 1]) := by
  intro T hT X
  obtain ⟨fs, hret, hrun, hended, hW, hframe⟩ := X.leave (v := some (.int 1)) (hlocks := hlocks) (fun h => by rw [hr] at h; cases h)
  have hmeth' : T.vm.method? m = some meth := X.method'
  refine ⟨T.setFrames fs, ?_, .returned (some (.int 1)), hrun, hended, rfl, ⟨_, rfl⟩, hW, hframe⟩
  jvm_step X.here [X.here.top, hx, hb, hdg, hmeth', hr, ret, narrow_b1]
  (try refine ⟨rfl, ?_⟩); (try refine ⟨rfl, ?_⟩)
  first | (intro acts; rw [hret _ acts rfl rfl rfl]) | rw [hret _ _ rfl rfl rfl]
  exact Steps.refl _
/-- what holds at the law's entry: the machine, the code, the tables' words (any of lw_tbl by 'hts w (by decide +kernel)'), the script of L ints xs at the cell b, what the Statement gives of the start (any of its parts by flat_of_before) -/
def lw_At (p : Program) (s : State) (m : MethodId) (meth : Method) (c : Code) (b L : Nat) (xs : Nat → Int32) : Prop :=
  p.tables.exec = Jvm.exec ∧ c.code = code ∧ meth.sig.returnType = ret ∧ c.maxLocals = 4 ∧ s.vm.findClass R_law = some m.cls ∧ (∀ w ∈ lw_tbl, w.before #[Value.ref b] s = true) ∧ va_X b L xs s s.heap ∧ b < s.heap.size ∧ meth.locks = false ∧ (Jvm.Cond.and given_1 narrow_1).before #[Value.ref b] s = true
/-- the store behind both constructors -/
def qS00 : qSt := fun k j => if k < 18 then qL00 k j else qM1 k j
def qK25 : List Nat := [0, 1, 2, 3, 4, 5, 6, 7, 8, 9, 10, 11, 12, 13, 14, 15, 16, 17, 18, 19, 20, 21, 22, 23, 24]
theorem qnest_in : ∀ q ∈ qnest, Cond.methodLinkNest q.1 q.2.1 q.2.2.1 q.2.2.2 ∈ lw_tbl := by decide +kernel
set_option maxHeartbeats 4000000 in
set_option maxRecDepth 100000 in
theorem whole_open {p : Program} {e : Env} {s : State} {m : MethodId} {below : List Frame} {meth : Method} {c : Code} (l : Launch) {b L : Nat} {xs : Nat → Int32} (hp : ∃ σ', fL_law_18 L xs 0 18 qfu 0 qS00 = some (1, σ')) (C0 : lw_At p s m meth c b L xs) : W p l e room_1 s m #[Value.ref b] below meth c s.heap [] 0 0 (lw_Z below #[Value.ref b] s) (entryFrame m ([Value.ref b] : List Value).toArray 4) := by
  obtain ⟨hx, hb, hr, hml, hown, hts, hX, hbl, hlocks, hgv⟩ := id C0
  have htq : ∀ w ∈ qtbl, w.before #[Value.ref b] s = true := fun w hw => hts w (qtbl_in hw)
  obtain ⟨c0, iS0, hKn0⟩ := u_known (C := RX0) (T := TX0) (N := 3) (n := 3) htq inX0 (htq _ wi_X0)
  obtain ⟨c1, iS1, hKn1⟩ := u_known (C := RX1) (T := TX1) (N := 8) (n := 8) htq inX1 (htq _ wi_X1)
  obtain ⟨c2, iS2, hKn2⟩ := u_known (C := RX2) (T := TX2) (N := 3) (n := 3) htq inX2 (htq _ wi_X2)
  obtain ⟨c3, iS3, hKn3⟩ := u_known (C := RX3) (T := TX3) (N := 11) (n := 11) htq inX3 (htq _ wi_X3)
  obtain ⟨c4, iS4, hKn4⟩ := u_known (C := RX4) (T := TX4) (N := 15) (n := 15) htq inX4 (htq _ wi_X4)
  obtain ⟨cA, kA, comp, hcA, hkA, hkind⟩ := Cond.arrayClass_spec (htq _ w_arr)
  obtain ⟨dC, dI, hKc⟩ : ∃ (dC : Nat → ClassId) (dI : Nat → Nat → Nat), ∀ (k : Nat) (q : vw_C), qcl[k]? = some q → u_Kn s q.1 q.2.1 q.2.2 (dC k) (dI k) := by
    refine ⟨fun k => match k with | 0 => c0 | 1 => c1 | 2 => c2 | 3 => c3 | _ => c4, fun k => match k with | 0 => iS0 | 1 => iS1 | 2 => iS2 | 3 => iS3 | _ => iS4, ?_⟩
    intro k q hq
    match k, hq with
    | 0, hq => cases hq; exact hKn0
    | 1, hq => cases hq; exact hKn1
    | 2, hq => cases hq; exact hKn2
    | 3, hq => cases hq; exact hKn3
    | 4, hq => cases hq; exact hKn4
    | k + 5, hq => simp [qcl] at hq
  have hAr : ArrOfT s cA .int := fun n z => ⟨fun k h => (by cases h), kA, hkA, comp, hkind⟩
  have hKK : qKK dC dI cA s := by
    refine ⟨⟨hKc, fun k q hq => ?_⟩, fun q hq => va_Nw.of rfl (hts _ (qnest_in q hq))⟩
    have h1 : k < 1 := (List.getElem?_eq_some_iff.mp hq).1
    have h0 : k = 0 := by omega
    subst h0
    cases hq
    exact ⟨hAr, hcA⟩
  have hl := lv_entry ([.ref b]) (n := 4) (Nat.le_of_ble_eq_true rfl)
  rw [lg_entry_eq]
  generalize (lg_sl ([.ref b]) ++ List.replicate (4 - (lg_sl ([.ref b])).length) Slot.unset).toArray = ls at hl ⊢
  have hl : lv_has ls 4 [(0, .ref b)] := hl
  have hAA : ∀ q : Nat, s.heap.size ≤ q → (fun q : Nat => s.heap.size ≤ q) q := fun _ h => h
  have h1 : qI RL cL_law 4 meth.name (fun ls => lv_has ls 4 [(0, .ref b)]) (fun pc st ls => pc = 7 ∧ st = [.ref (s.heap.size + 0)] ∧ lv_has ls 4 [(0, .ref b)]) 9 332 s.heap.size 0 [] (fun _ => []) 0 0 0 (fun cA => qw s.heap.size cA qL00 [0, 1, 2, 3, 4, 5, 6, 7, 8, 9, 10, 11, 12, 13, 14, 15, 16, 17]) 18 18 1249 := by
    refine i_new (ci := 3) (ty := tyX3) [.int 0, .int 0, .null, .null, .null, .null, .null, .int 0, .int 0, .int 0, .int 0] (pc := 0) dL_law_0 rfl inX3 tyX3_ok lk_L_7 wi_X3 wn_X3 (by decide) (by decide) (by decide) ?_
    refine i_dup (pc := 3) dL_law_3 rfl ?_
    refine i_init (k := 0) (ci := 3) (nE' := 18) (mc := 17) (ms := 1238) (w1 := fun cA => qw s.heap.size cA qL00 [0, 1, 2, 3, 4, 5, 6, 7, 8, 9, 10, 11, 12, 13, 14, 15, 16, 17]) (fun _ => []) [0] [] (pc := 4) dL_law_4 lm_L_9 yX3_init_ok yX3_init_in rfl (ci_X3_0 s.heap.size) rfl rfl (fun _ => rfl) (fun _ => rfl) (by decide) (by decide) (Nat.le_of_ble_eq_true rfl) ⟨by decide, by decide⟩ (by decide) (by decide) ?_
    refine i_eq (ws' := fun cA => qw s.heap.size cA qL00 [0, 1, 2, 3, 4, 5, 6, 7, 8, 9, 10, 11, 12, 13, 14, 15, 16, 17]) (fun _ => rfl) ?_
    exact i_exit (fun ls _ h => ⟨rfl, rfl, h⟩)
  refine h1 p l e room_1 s m #[Value.ref b] below meth c s.heap [] _ dC dI cA (fun q : Nat => s.heap.size ≤ q) ⟨⟨hx, hb, hml, hown, htq⟩, rfl, ⟨by decide, by decide, by decide, by decide⟩, hKK, hAA⟩ (fun k q h => by simp at h) ⟨fun i j p q h => by simp at h, fun k q h => by simp at h⟩ va_S.rf ⟨Nat.le_refl _, rfl⟩ ?_ ls ⟨hl.1, hl⟩
  rintro pcr st' H locs ls ⟨rfl, rfl, hl⟩ hP hD hS hz
  refine lv_astore_n (lv' := [(1, .ref (s.heap.size + 0)), (0, .ref b)]) hx hb dL_law_7 rfl hl (by decide) rfl (fun ls hl => ?_)
  have h2 : qI RL cL_law 4 meth.name (fun ls => lv_has ls 4 [(1, .ref (s.heap.size + 0)), (0, .ref b)]) (fun pc st ls => pc = 15 ∧ st = [.ref (s.heap.size + 18)] ∧ lv_has ls 4 [(1, .ref (s.heap.size + 0)), (0, .ref b)]) 9 332 s.heap.size 8 [] (fun cA => qw s.heap.size cA qL00 [0, 1, 2, 3, 4, 5, 6, 7, 8, 9, 10, 11, 12, 13, 14, 15, 16, 17]) 18 18 1249 (fun cA => qw s.heap.size cA qS00 qK25) 25 25 2839 := by
    refine i_new (ci := 4) (ty := tyX4) [.int 0, .int 0, .int 0, .int 0, .null, .int 0, .null, .null, .null, .null, .int 0, .null, .int 0, .int 0, .int 0] (pc := 8) dL_law_8 rfl inX4 tyX4_ok lk_L_10 wi_X4 wn_X4 (by decide) (by decide) (by decide) ?_
    refine i_dup (pc := 11) dL_law_11 rfl ?_
    refine i_init (k := 18) (ci := 4) (nE' := 25) (mc := 6) (ms := 1575) (w1 := fun cA => qw s.heap.size cA qM1 [18, 19, 20, 21, 22, 23, 24]) (fun cA => qw s.heap.size cA qL00 [0, 1, 2, 3, 4, 5, 6, 7, 8, 9, 10, 11, 12, 13, 14, 15, 16, 17]) [18] [0, 1, 2, 3, 4, 5, 6, 7, 8, 9, 10, 11, 12, 13, 14, 15, 16, 17] (pc := 12) dL_law_12 lm_L_12 yX4_init_ok yX4_init_in rfl (ci_X4_18 s.heap.size) rfl rfl (fun _ => rfl) (fun _ => rfl) (by decide) (by decide) (Nat.le_of_ble_eq_true rfl) ⟨by decide, by decide⟩ (by decide) (by decide) ?_
    refine i_eq (ws' := fun cA => qw s.heap.size cA qS00 qK25) (fun _ => rfl) ?_
    exact i_exit (fun ls _ h => ⟨rfl, rfl, h⟩)
  refine h2 p l e room_1 s m #[Value.ref b] below meth c H locs _ dC dI cA (fun q : Nat => s.heap.size ≤ q) ⟨⟨hx, hb, hml, hown, htq⟩, rfl, ⟨by decide, by decide, by decide, by decide⟩, hKK, hAA⟩ hP hD hS ⟨hz, rfl⟩ ?_ ls ⟨hl.1, hl⟩
  rintro pcr st' H locs ls ⟨rfl, rfl, hl⟩ hP hD hS hz
  refine lv_astore_n (lv' := [(2, .ref (s.heap.size + 18)), (1, .ref (s.heap.size + 0)), (0, .ref b)]) hx hb dL_law_15 rfl hl (by decide) rfl (fun ls hl => ?_)
  refine lv_iconst (v := 0) hx hb dL_law_16 (by decide) ?_
  refine lv_istore_n (lv' := [(3, .int 0), (2, .ref (s.heap.size + 18)), (1, .ref (s.heap.size + 0)), (0, .ref b)]) hx hb dL_law_17 rfl hl (by decide) rfl (fun ls hl => ?_)
  obtain ⟨σ', hp⟩ := hp
  have hK : qOk qK25 := ⟨by decide, by decide⟩
  have hS2 : va_S (qA s.heap.size qK25) s.heap H [] := ⟨hS.1, fun q h1 _ => hS.2.1 q h1 (by show ¬ s.heap.size ≤ q; omega), fun q h => by cases h⟩
  refine va_forget (fun q hq => hS.2.2 q hq) ?_
  refine tL_law_18 (bs := b) (Ls := L) (xs := xs) (b := s.heap.size) (K := qK25) hK (k1 := 0) (k2 := 18) ⟨by decide, rfl⟩ ⟨by decide, rfl⟩ qfu 0 qS00 (1, σ') hp p l e room_1 s m #[Value.ref b] below meth c H [] 25 2839 _ dC dI cA (qA s.heap.size qK25) ⟨⟨hx, hb, hml, hown, htq⟩, ⟨by decide, by decide, by decide, by decide⟩, hKK, hK.1, fun k hk => ⟨k, hk, rfl⟩, hX, hbl, ?_⟩ hP hS2 ?_ ls ⟨hl.1, hl.2.1, ?_⟩
  · rintro ⟨k, -, hk⟩
    omega
  · intro pcr st' H' locs' ls' hq hP' hS'
    rcases hq with ⟨-, h2, rfl⟩ | ⟨h1, -⟩
    · refine va_forget (fun q hq => ?_) ?_
      · obtain ⟨k, -, hk⟩ := hS'.2.2 q hq
        omega
      · exact lw_ret hx hb hr hlocks h2
    · cases h1
  · intro i v hi
    match i, hi with
    | 0, hi => cases hi; exact ⟨lv_at hl 3 rfl, rfl⟩
    | 1, hi => cases hi; exact ⟨lv_at hl 2 rfl, rfl⟩
    | 2, hi => cases hi; exact ⟨lv_at hl 1 rfl, rfl⟩
    | 3, hi => cases hi; exact ⟨lv_at hl 0 rfl, rfl⟩
    | i + 4, hi => simp at hi
