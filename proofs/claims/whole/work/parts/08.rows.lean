/-! ===== branches, fields, rows of ints ===== -/
section QROWS2
variable {own : String} {cc : ByteArray} {nL fr lo : Nat} {vd : Bool} {G : State → (Nat → Prop) → Prop} {b : Nat} {K : List Nat} {pc : Nat} {L : List (Option Value)} {st : List Value} {σ : qSt} {e e2 : qR}
theorem q_icmp_eq {x y : Int32} [hdc : Decidable (x = y)] {off : Int} (tgt : Nat) (hd : decode cc pc = .ok (.if_icmp .eq off, 3)) (ht : (pc : Int) + off = (tgt : Int)) (k1 : qJ own cc nL fr lo vd G b K tgt L st σ e) (k2 : qJ own cc nL fr lo vd G b K (pc + 3) L st σ e2) : qJ own cc nL fr lo vd G b K pc L (.int y :: .int x :: st) σ (if x = y then e else e2) :=
  fun z hz p l ev R s m args below meth c H locs cells slots Q dC dI cA A hF hP hS hr ls hL => lv_icmp_eq hF.1.1 hF.1.2.1 hd ht (fun hc => k1 z (by rw [if_pos hc] at hz; exact hz) p l ev R s m args below meth c H locs cells slots Q dC dI cA A hF hP hS hr ls hL) (fun hc => k2 z (by rw [if_neg hc] at hz; exact hz) p l ev R s m args below meth c H locs cells slots Q dC dI cA A hF hP hS hr ls hL)
theorem q_if_eq {x : Int32} [hdc : Decidable (x = 0)] {off : Int} (tgt : Nat) (hd : decode cc pc = .ok (.ifCond .eq off, 3)) (ht : (pc : Int) + off = (tgt : Int)) (k1 : qJ own cc nL fr lo vd G b K tgt L st σ e) (k2 : qJ own cc nL fr lo vd G b K (pc + 3) L st σ e2) : qJ own cc nL fr lo vd G b K pc L (.int x :: st) σ (if x = 0 then e else e2) :=
  fun z hz p l ev R s m args below meth c H locs cells slots Q dC dI cA A hF hP hS hr ls hL => lv_if_eq hF.1.1 hF.1.2.1 hd ht (fun hc => k1 z (by rw [if_pos hc] at hz; exact hz) p l ev R s m args below meth c H locs cells slots Q dC dI cA A hF hP hS hr ls hL) (fun hc => k2 z (by rw [if_neg hc] at hz; exact hz) p l ev R s m args below meth c H locs cells slots Q dC dI cA A hF hP hS hr ls hL)
theorem q_icmp_ne {x y : Int32} [hdc : Decidable (x = y)] {off : Int} (tgt : Nat) (hd : decode cc pc = .ok (.if_icmp .ne off, 3)) (ht : (pc : Int) + off = (tgt : Int)) (k1 : qJ own cc nL fr lo vd G b K tgt L st σ e) (k2 : qJ own cc nL fr lo vd G b K (pc + 3) L st σ e2) : qJ own cc nL fr lo vd G b K pc L (.int y :: .int x :: st) σ (if x = y then e2 else e) :=
  fun z hz p l ev R s m args below meth c H locs cells slots Q dC dI cA A hF hP hS hr ls hL => lv_icmp_ne hF.1.1 hF.1.2.1 hd ht (fun hc => k1 z (by rw [if_neg hc] at hz; exact hz) p l ev R s m args below meth c H locs cells slots Q dC dI cA A hF hP hS hr ls hL) (fun hc => k2 z (by rw [if_pos hc] at hz; exact hz) p l ev R s m args below meth c H locs cells slots Q dC dI cA A hF hP hS hr ls hL)
theorem q_if_ne {x : Int32} [hdc : Decidable (x = 0)] {off : Int} (tgt : Nat) (hd : decode cc pc = .ok (.ifCond .ne off, 3)) (ht : (pc : Int) + off = (tgt : Int)) (k1 : qJ own cc nL fr lo vd G b K tgt L st σ e) (k2 : qJ own cc nL fr lo vd G b K (pc + 3) L st σ e2) : qJ own cc nL fr lo vd G b K pc L (.int x :: st) σ (if x = 0 then e2 else e) :=
  fun z hz p l ev R s m args below meth c H locs cells slots Q dC dI cA A hF hP hS hr ls hL => lv_if_ne hF.1.1 hF.1.2.1 hd ht (fun hc => k1 z (by rw [if_neg hc] at hz; exact hz) p l ev R s m args below meth c H locs cells slots Q dC dI cA A hF hP hS hr ls hL) (fun hc => k2 z (by rw [if_pos hc] at hz; exact hz) p l ev R s m args below meth c H locs cells slots Q dC dI cA A hF hP hS hr ls hL)
theorem q_icmp_lt {x y : Int32} [hdc : Decidable (x < y)] {off : Int} (tgt : Nat) (hd : decode cc pc = .ok (.if_icmp .lt off, 3)) (ht : (pc : Int) + off = (tgt : Int)) (k1 : qJ own cc nL fr lo vd G b K tgt L st σ e) (k2 : qJ own cc nL fr lo vd G b K (pc + 3) L st σ e2) : qJ own cc nL fr lo vd G b K pc L (.int y :: .int x :: st) σ (if x < y then e else e2) :=
  fun z hz p l ev R s m args below meth c H locs cells slots Q dC dI cA A hF hP hS hr ls hL => lv_icmp_lt hF.1.1 hF.1.2.1 hd ht (fun hc => k1 z (by rw [if_pos hc] at hz; exact hz) p l ev R s m args below meth c H locs cells slots Q dC dI cA A hF hP hS hr ls hL) (fun hc => k2 z (by rw [if_neg hc] at hz; exact hz) p l ev R s m args below meth c H locs cells slots Q dC dI cA A hF hP hS hr ls hL)
theorem q_if_lt {x : Int32} [hdc : Decidable (x < 0)] {off : Int} (tgt : Nat) (hd : decode cc pc = .ok (.ifCond .lt off, 3)) (ht : (pc : Int) + off = (tgt : Int)) (k1 : qJ own cc nL fr lo vd G b K tgt L st σ e) (k2 : qJ own cc nL fr lo vd G b K (pc + 3) L st σ e2) : qJ own cc nL fr lo vd G b K pc L (.int x :: st) σ (if x < 0 then e else e2) :=
  fun z hz p l ev R s m args below meth c H locs cells slots Q dC dI cA A hF hP hS hr ls hL => lv_if_lt hF.1.1 hF.1.2.1 hd ht (fun hc => k1 z (by rw [if_pos hc] at hz; exact hz) p l ev R s m args below meth c H locs cells slots Q dC dI cA A hF hP hS hr ls hL) (fun hc => k2 z (by rw [if_neg hc] at hz; exact hz) p l ev R s m args below meth c H locs cells slots Q dC dI cA A hF hP hS hr ls hL)
theorem q_icmp_ge {x y : Int32} [hdc : Decidable (y ≤ x)] {off : Int} (tgt : Nat) (hd : decode cc pc = .ok (.if_icmp .ge off, 3)) (ht : (pc : Int) + off = (tgt : Int)) (k1 : qJ own cc nL fr lo vd G b K tgt L st σ e) (k2 : qJ own cc nL fr lo vd G b K (pc + 3) L st σ e2) : qJ own cc nL fr lo vd G b K pc L (.int y :: .int x :: st) σ (if y ≤ x then e else e2) :=
  fun z hz p l ev R s m args below meth c H locs cells slots Q dC dI cA A hF hP hS hr ls hL => lv_icmp_ge hF.1.1 hF.1.2.1 hd ht (fun hc => k1 z (by rw [if_pos hc] at hz; exact hz) p l ev R s m args below meth c H locs cells slots Q dC dI cA A hF hP hS hr ls hL) (fun hc => k2 z (by rw [if_neg hc] at hz; exact hz) p l ev R s m args below meth c H locs cells slots Q dC dI cA A hF hP hS hr ls hL)
theorem q_if_ge {x : Int32} [hdc : Decidable (0 ≤ x)] {off : Int} (tgt : Nat) (hd : decode cc pc = .ok (.ifCond .ge off, 3)) (ht : (pc : Int) + off = (tgt : Int)) (k1 : qJ own cc nL fr lo vd G b K tgt L st σ e) (k2 : qJ own cc nL fr lo vd G b K (pc + 3) L st σ e2) : qJ own cc nL fr lo vd G b K pc L (.int x :: st) σ (if 0 ≤ x then e else e2) :=
  fun z hz p l ev R s m args below meth c H locs cells slots Q dC dI cA A hF hP hS hr ls hL => lv_if_ge hF.1.1 hF.1.2.1 hd ht (fun hc => k1 z (by rw [if_pos hc] at hz; exact hz) p l ev R s m args below meth c H locs cells slots Q dC dI cA A hF hP hS hr ls hL) (fun hc => k2 z (by rw [if_neg hc] at hz; exact hz) p l ev R s m args below meth c H locs cells slots Q dC dI cA A hF hP hS hr ls hL)
theorem q_icmp_gt {x y : Int32} [hdc : Decidable (y < x)] {off : Int} (tgt : Nat) (hd : decode cc pc = .ok (.if_icmp .gt off, 3)) (ht : (pc : Int) + off = (tgt : Int)) (k1 : qJ own cc nL fr lo vd G b K tgt L st σ e) (k2 : qJ own cc nL fr lo vd G b K (pc + 3) L st σ e2) : qJ own cc nL fr lo vd G b K pc L (.int y :: .int x :: st) σ (if y < x then e else e2) :=
  fun z hz p l ev R s m args below meth c H locs cells slots Q dC dI cA A hF hP hS hr ls hL => lv_icmp_gt hF.1.1 hF.1.2.1 hd ht (fun hc => k1 z (by rw [if_pos hc] at hz; exact hz) p l ev R s m args below meth c H locs cells slots Q dC dI cA A hF hP hS hr ls hL) (fun hc => k2 z (by rw [if_neg hc] at hz; exact hz) p l ev R s m args below meth c H locs cells slots Q dC dI cA A hF hP hS hr ls hL)
theorem q_if_gt {x : Int32} [hdc : Decidable (0 < x)] {off : Int} (tgt : Nat) (hd : decode cc pc = .ok (.ifCond .gt off, 3)) (ht : (pc : Int) + off = (tgt : Int)) (k1 : qJ own cc nL fr lo vd G b K tgt L st σ e) (k2 : qJ own cc nL fr lo vd G b K (pc + 3) L st σ e2) : qJ own cc nL fr lo vd G b K pc L (.int x :: st) σ (if 0 < x then e else e2) :=
  fun z hz p l ev R s m args below meth c H locs cells slots Q dC dI cA A hF hP hS hr ls hL => lv_if_gt hF.1.1 hF.1.2.1 hd ht (fun hc => k1 z (by rw [if_pos hc] at hz; exact hz) p l ev R s m args below meth c H locs cells slots Q dC dI cA A hF hP hS hr ls hL) (fun hc => k2 z (by rw [if_neg hc] at hz; exact hz) p l ev R s m args below meth c H locs cells slots Q dC dI cA A hF hP hS hr ls hL)
theorem q_icmp_le {x y : Int32} [hdc : Decidable (x ≤ y)] {off : Int} (tgt : Nat) (hd : decode cc pc = .ok (.if_icmp .le off, 3)) (ht : (pc : Int) + off = (tgt : Int)) (k1 : qJ own cc nL fr lo vd G b K tgt L st σ e) (k2 : qJ own cc nL fr lo vd G b K (pc + 3) L st σ e2) : qJ own cc nL fr lo vd G b K pc L (.int y :: .int x :: st) σ (if x ≤ y then e else e2) :=
  fun z hz p l ev R s m args below meth c H locs cells slots Q dC dI cA A hF hP hS hr ls hL => lv_icmp_le hF.1.1 hF.1.2.1 hd ht (fun hc => k1 z (by rw [if_pos hc] at hz; exact hz) p l ev R s m args below meth c H locs cells slots Q dC dI cA A hF hP hS hr ls hL) (fun hc => k2 z (by rw [if_neg hc] at hz; exact hz) p l ev R s m args below meth c H locs cells slots Q dC dI cA A hF hP hS hr ls hL)
theorem q_if_le {x : Int32} [hdc : Decidable (x ≤ 0)] {off : Int} (tgt : Nat) (hd : decode cc pc = .ok (.ifCond .le off, 3)) (ht : (pc : Int) + off = (tgt : Int)) (k1 : qJ own cc nL fr lo vd G b K tgt L st σ e) (k2 : qJ own cc nL fr lo vd G b K (pc + 3) L st σ e2) : qJ own cc nL fr lo vd G b K pc L (.int x :: st) σ (if x ≤ 0 then e else e2) :=
  fun z hz p l ev R s m args below meth c H locs cells slots Q dC dI cA A hF hP hS hr ls hL => lv_if_le hF.1.1 hF.1.2.1 hd ht (fun hc => k1 z (by rw [if_pos hc] at hz; exact hz) p l ev R s m args below meth c H locs cells slots Q dC dI cA A hF hP hS hr ls hL) (fun hc => k2 z (by rw [if_neg hc] at hz; exact hz) p l ev R s m args below meth c H locs cells slots Q dC dI cA A hF hP hS hr ls hL)
theorem q_sel {x v : Int32} (k1 : x = v → qJ own cc nL fr lo vd G b K pc L st σ e) (k2 : ¬ x = v → qJ own cc nL fr lo vd G b K pc L st σ e2) : qJ own cc nL fr lo vd G b K pc L st σ (if x = v then e else e2) := by
  by_cases h : x = v
  · rw [if_pos h]; exact k1 h
  · rw [if_neg h]; exact k2 h
theorem q_tabIn {dflt lo1 hi : Int} {offs : Array Int} {len : Nat} {x : Int32} {off : Int} (tgt : Nat) (hd : decode cc pc = .ok (.tableswitch dflt lo1 hi offs, len)) (h1 : ¬ x.toInt < lo1) (h2 : ¬ hi < x.toInt) (ho : offs[(x.toInt - lo1).toNat]? = some off) (ht : (pc : Int) + off = (tgt : Int)) (k : qJ own cc nL fr lo vd G b K tgt L st σ e) : qJ own cc nL fr lo vd G b K pc L (.int x :: st) σ e :=
  fun z hz p l ev R s m args below meth c H locs cells slots Q dC dI cA A hF hP hS hr ls hL => lv_tableIn hF.1.1 hF.1.2.1 hd h1 h2 ho ht (k z hz p l ev R s m args below meth c H locs cells slots Q dC dI cA A hF hP hS hr ls hL)
theorem q_tabOut {dflt lo1 hi : Int} {offs : Array Int} {len : Nat} {x : Int32} (tgt : Nat) (hd : decode cc pc = .ok (.tableswitch dflt lo1 hi offs, len)) (h : x.toInt < lo1 ∨ hi < x.toInt) (ht : (pc : Int) + dflt = (tgt : Int)) (k : qJ own cc nL fr lo vd G b K tgt L st σ e) : qJ own cc nL fr lo vd G b K pc L (.int x :: st) σ e :=
  fun z hz p l ev R s m args below meth c H locs cells slots Q dC dI cA A hF hP hS hr ls hL => lv_tableOut hF.1.1 hF.1.2.1 hd h ht (k z hz p l ev R s m args below meth c H locs cells slots Q dC dI cA A hF hP hS hr ls hL)
theorem qent_o {cA : ClassId} {k j k' : Nat} {v : Int32} (h : k' ≠ k) : qent b cA (qset σ k j v) k' = qent b cA σ k' := by
  have hs : qset σ k j v k' = σ k' := by
    funext q
    simp [qset, h]
  unfold qent qfs
  rw [hs]
theorem q_get {k ci j N index : Nat} {C : String} {T : u_T} {v : Value} (hd : decode cc pc = .ok (.getfield index, 3)) (hk : qIn K k ci) (hci : ci < 5) (hc : qcl[ci]? = some (C, T, N)) (hin : ∀ w ∈ u_ws C T N, w ∈ qtbl) (hj : j < N) (hl : Cond.fieldLink own index (T j).1 (T j).2.1 (T j).2.2.1 ∈ qtbl) (hv : (qfs b σ k ci)[j]? = some v) (h : qJ own cc nL fr lo vd G b K (pc + 3) L (v :: st) σ e) : qJ own cc nL fr lo vd G b K pc L (.ref (b + k) :: st) σ e :=
  fun z hz p l ev R s m args below meth c H locs cells slots Q dC dI cA A hF hP hS hr ls hL => by
    obtain ⟨q0, -, he⟩ := qw_at (b := b) (cA := cA) (σ := σ) hk.1
    have he2 : qent b cA σ k = .inr (ci, qfs b σ k ci) := by unfold qent; rw [hk.2, if_pos hci]
    rw [he2] at he
    exact va_get hF.1.1 hF.1.2.1 hF.1.2.2.2.2 hin hF.1.2.2.2.1 hF.2.2.1.1 hP q0 he hc j hj (hF.1.2.2.2.2 _ hl) (fun x hx => hx) hv hd (h z hz p l ev R s m args below meth c H locs cells slots Q dC dI cA A hF hP hS hr ls hL)
theorem q_getN {k ci j N index : Nat} {C host : String} {T : u_T} {v : Value} (hd : decode cc pc = .ok (.getfield index, 3)) (hk : qIn K k ci) (hci : ci < 5) (hc : qcl[ci]? = some (C, T, N)) (hin : ∀ w ∈ u_ws C T N, w ∈ qtbl) (hj : j < N) (hl : Cond.fieldLinkNest own index (T j).1 (T j).2.1 (T j).2.2.1 host ∈ qtbl) (hv : (qfs b σ k ci)[j]? = some v) (h : qJ own cc nL fr lo vd G b K (pc + 3) L (v :: st) σ e) : qJ own cc nL fr lo vd G b K pc L (.ref (b + k) :: st) σ e :=
  fun z hz p l ev R s m args below meth c H locs cells slots Q dC dI cA A hF hP hS hr ls hL => by
    obtain ⟨q0, -, he⟩ := qw_at (b := b) (cA := cA) (σ := σ) hk.1
    have he2 : qent b cA σ k = .inr (ci, qfs b σ k ci) := by unfold qent; rw [hk.2, if_pos hci]
    rw [he2] at he
    exact va_getN hF.1.1 hF.1.2.1 hF.1.2.2.2.2 hin hF.1.2.2.2.1 hF.2.2.1.1 hP q0 he hc j hj (hF.1.2.2.2.2 _ hl) (fun x hx => hx) hv hd (h z hz p l ev R s m args below meth c H locs cells slots Q dC dI cA A hF hP hS hr ls hL)
theorem q_put {k ci j N index : Nat} {C : String} {T : u_T} {ty0 : Nat → FieldType} {ty : FieldType} {v : Int32} (hd : decode cc pc = .ok (.putfield index, 3)) (hk : qIn K k ci) (hci : ci < 5) (hc : qcl[ci]? = some (C, T, N)) (hin : ∀ w ∈ u_ws C T N, w ∈ qtbl) (hty : ∀ k, k < N → parseFieldDescriptor (T k).2.2.1 = some (ty0 k)) (hnm : ∀ a, a < N → ∀ b, b < N → a ≠ b → (T a).2.1 ≠ (T b).2.1) (hj : j < N) (hl : Cond.fieldLink own index (T j).1 (T j).2.1 (T j).2.2.1 ∈ qtbl) (hfin : (T j).2.2.2 = false) (hdt : parseFieldDescriptor (T j).2.2.1 = some ty) (hn : narrow ty (.int v) = .int v) (hfit : fits ty (.int v) = true) (hlen : j < (qfs b σ k ci).length) (hset : (qfs b σ k ci).set j (.int v) = qfs b (qset σ k j v) k ci) (h : qJ own cc nL fr lo vd G b K (pc + 3) L st (qset σ k j v) e) : qJ own cc nL fr lo vd G b K pc L (.int v :: .ref (b + k) :: st) σ e :=
  fun z hz p l ev R s m args below meth c H locs cells slots Q dC dI cA A hF hP hS hr ls hL => by
    obtain ⟨q0, hq0, he⟩ := qw_at (b := b) (cA := cA) (σ := σ) hk.1
    have he2 : ∀ σ : qSt, qent b cA σ k = .inr (ci, qfs b σ k ci) := fun σ => by unfold qent; rw [hk.2, if_pos hci]
    rw [he2] at he
    refine va_put hF.1.1 hF.1.2.1 hF.1.2.2.2.2 hin ty0 hty hnm hF.1.2.2.2.1 hF.2.2.1.1 hP (qw_D hF.2.2.2.1 hF.2.2.2.2.1) hS q0 he hc j hj (hF.1.2.2.2.2 _ hl) (fun x hx => hx) hfin hdt hn hfit hlen hd (fun H1 locs1 hP1 _ hS1 => ?_)
    refine h z hz p l ev R s m args below meth c H1 locs1 cells slots Q dC dI cA A hF (qw_put hF.2.2.2.1 hq0 ?_ (fun k' hk' => qent_o hk') hP1) hS1 hr ls hL
    rw [he2, hset]
def qin (i : Int32) (n : Nat) : Bool := decide (0 ≤ i) && decide (i.toNatClampNeg < n)
theorem qin_vp {i : Int32} {n : Nat} (h : qin i n = true) : vp_in i n := by
  simp only [qin, Bool.and_eq_true, decide_eq_true_eq] at h
  rintro (h1 | h1)
  · have a := Int32.lt_iff_toInt_lt.mp h1
    have c := Int32.le_iff_toInt_le.mp h.1
    omega
  · omega
theorem q_iald {k : Nat} {i : Int32} (hd : decode cc pc = .ok (.iaload, 1)) (hk : qIn K k 5) (h : qJ own cc nL fr lo vd G b K (pc + 1) L (.int (σ k i.toNatClampNeg) :: st) σ e) : qJ own cc nL fr lo vd G b K pc L (.int i :: .ref (b + k) :: st) σ (if qin i (qlen k) then e else none) :=
  fun z hz p l ev R s m args below meth c H locs cells slots Q dC dI cA A hF hP hS hr ls hL => by
    by_cases hi : qin i (qlen k) = true
    · rw [if_pos hi] at hz
      obtain ⟨q0, -, he⟩ := qw_at (b := b) (cA := cA) (σ := σ) hk.1
      have he2 : qent b cA σ k = .inl (cA, qlen k, .inl (σ k)) := by unfold qent; rw [hk.2]; rfl
      rw [he2] at he
      exact va_iald hF.1.1 hF.1.2.1 hF.2.2.1.1 hP q0 0 he rfl (qin_vp hi) hd (h z hz p l ev R s m args below meth c H locs cells slots Q dC dI cA A hF hP hS hr ls hL)
    · rw [if_neg hi] at hz
      cases hz
theorem q_iast {k : Nat} {i x : Int32} (hd : decode cc pc = .ok (.iastore, 1)) (hk : qIn K k 5) (h : qJ own cc nL fr lo vd G b K (pc + 1) L st (qset σ k i.toNatClampNeg x) e) : qJ own cc nL fr lo vd G b K pc L (.int x :: .int i :: .ref (b + k) :: st) σ (if qin i (qlen k) then e else none) :=
  fun z hz p l ev R s m args below meth c H locs cells slots Q dC dI cA A hF hP hS hr ls hL => by
    by_cases hi : qin i (qlen k) = true
    · rw [if_pos hi] at hz
      obtain ⟨q0, hq0, he⟩ := qw_at (b := b) (cA := cA) (σ := σ) hk.1
      have he2 : ∀ σ : qSt, qent b cA σ k = .inl (cA, qlen k, .inl (σ k)) := fun σ => by unfold qent; rw [hk.2]; rfl
      rw [he2] at he
      refine va_iast hF.1.1 hF.1.2.1 hF.2.2.1.1 hP (qw_D hF.2.2.2.1 hF.2.2.2.2.1) hS q0 0 he rfl (qin_vp hi) hd (fun H1 locs1 hP1 _ hS1 => ?_)
      refine h z hz p l ev R s m args below meth c H1 locs1 cells slots Q dC dI cA A hF (qw_put hF.2.2.2.1 hq0 ?_ (fun k' hk' => qent_o hk') hP1) hS1 hr ls hL
      rw [he2]
      have : qset σ k i.toNatClampNeg x k = upd (σ k) i.toNatClampNeg x := by
        funext q
        simp [qset, upd]
      rw [this]
    · rw [if_neg hi] at hz
      cases hz
theorem q_alen {k : Nat} (hd : decode cc pc = .ok (.arraylength, 1)) (hk : qIn K k 5) (h : qJ own cc nL fr lo vd G b K (pc + 1) L (.int (Int32.ofNat (qlen k)) :: st) σ e) : qJ own cc nL fr lo vd G b K pc L (.ref (b + k) :: st) σ e :=
  fun z hz p l ev R s m args below meth c H locs cells slots Q dC dI cA A hF hP hS hr ls hL => by
    obtain ⟨q0, -, he⟩ := qw_at (b := b) (cA := cA) (σ := σ) hk.1
    have he2 : qent b cA σ k = .inl (cA, qlen k, .inl (σ k)) := by unfold qent; rw [hk.2]; rfl
    rw [he2] at he
    exact va_alen hF.1.1 hF.1.2.1 hF.2.2.1.1 hP q0 0 he (ty := .int) rfl rfl hd (h z hz p l ev R s m args below meth c H locs cells slots Q dC dI cA A hF hP hS hr ls hL)
theorem q_mmax {x y : Int32} {index : Nat} (hd : decode cc pc = .ok (.invokestatic index, 3)) (hl : Cond.methodLink own index Lib.Math.max.name ∈ qtbl) (h1 : Cond.static Lib.Math.max.name ∈ qtbl) (h2 : Cond.initialized "java/lang/Math" ∈ qtbl) (h3 : Cond.code Lib.Math.max.name Lib.Math.max.code 2 (some .int) ∈ qtbl) (hfr : 1 ≤ fr) (hlo : (st.map fun v => v.category).sum + 13 ≤ lo) (h : qJ own cc nL fr lo vd G b K (pc + 3) L (.int (if x < y then y else x) :: st) σ e) : qJ own cc nL fr lo vd G b K pc L (.int y :: .int x :: st) σ e :=
  fun z hz p l ev R s m args below meth c H locs cells slots Q dC dI cA A hF hP hS hr ls hL => va_mmax hF.1.1 hF.1.2.1 (hF.1.2.2.1.trans hL.1.symm) hF.1.2.2.2.1 (hF.1.2.2.2.2 _ hl) (hF.1.2.2.2.2 _ h1) (hF.1.2.2.2.2 _ h2) (hF.1.2.2.2.2 _ h3) (Nat.le_trans hfr hF.2.1.1) (Nat.le_trans hlo hF.2.1.2.1) hF.2.1.2.2.1 hF.2.1.2.2.2 hd (h z hz p l ev R s m args below meth c H locs cells slots Q dC dI cA A hF hP hS hr ls hL)
theorem q_mmin {x y : Int32} {index : Nat} (hd : decode cc pc = .ok (.invokestatic index, 3)) (hl : Cond.methodLink own index Lib.Math.min.name ∈ qtbl) (h1 : Cond.static Lib.Math.min.name ∈ qtbl) (h2 : Cond.initialized "java/lang/Math" ∈ qtbl) (h3 : Cond.code Lib.Math.min.name Lib.Math.min.code 2 (some .int) ∈ qtbl) (hfr : 1 ≤ fr) (hlo : (st.map fun v => v.category).sum + 13 ≤ lo) (h : qJ own cc nL fr lo vd G b K (pc + 3) L (.int (if y < x then y else x) :: st) σ e) : qJ own cc nL fr lo vd G b K pc L (.int y :: .int x :: st) σ e :=
  fun z hz p l ev R s m args below meth c H locs cells slots Q dC dI cA A hF hP hS hr ls hL => va_mmin hF.1.1 hF.1.2.1 (hF.1.2.2.1.trans hL.1.symm) hF.1.2.2.2.1 (hF.1.2.2.2.2 _ hl) (hF.1.2.2.2.2 _ h1) (hF.1.2.2.2.2 _ h2) (hF.1.2.2.2.2 _ h3) (Nat.le_trans hfr hF.2.1.1) (Nat.le_trans hlo hF.2.1.2.1) hF.2.1.2.2.1 hF.2.1.2.2.2 hd (h z hz p l ev R s m args below meth c H locs cells slots Q dC dI cA A hF hP hS hr ls hL)
end QROWS2
