/-! ===== by program (gen.py): rows of fields, links, methods ===== -/
def qfu : Nat := 1000
theorem qne {x : Int32} (c : Int32) (n : Int) (hc : c.toInt = n) (h : ¬ x = c) : x.toInt ≠ n := fun e => h (Int32.toInt_inj.mp (e.trans hc.symm))
theorem qz_bool {e : qR} {z : Int32 × qSt} (h : qz e = some z) : narrow .boolean (.int z.1) = .int z.1 := by
  cases e with
  | none => cases h
  | some w =>
    simp only [qz] at h
    split at h
    · cases h
      rename_i h1
      rcases h1 with h1 | h1 <;> rw [h1] <;> rfl
    · cases h
theorem qJ_qz {own : String} {cc : ByteArray} {nL fr lo : Nat} {vd : Bool} {G : State → (Nat → Prop) → Prop} {b : Nat} {K : List Nat} {pc : Nat} {L : List (Option Value)} {st : List Value} {σ : qSt} {e : qR} (k : qJ own cc nL fr lo vd G b K pc L st σ e) : qJ own cc nL fr lo vd G b K pc L st σ (qz e) := by
  intro z hz
  refine k z ?_
  cases e with
  | none => cases hz
  | some w =>
    simp only [qz] at hz
    split at hz
    · exact hz
    · cases hz
theorem inX0 : ∀ w ∈ u_ws RX0 TX0 3, w ∈ qtbl := by decide +kernel
theorem inX1 : ∀ w ∈ u_ws RX1 TX1 8, w ∈ qtbl := by decide +kernel
theorem inX2 : ∀ w ∈ u_ws RX2 TX2 3, w ∈ qtbl := by decide +kernel
theorem inX3 : ∀ w ∈ u_ws RX3 TX3 11, w ∈ qtbl := by decide +kernel
theorem inX4 : ∀ w ∈ u_ws RX4 TX4 15, w ∈ qtbl := by decide +kernel
theorem qch_0_2 {K : List Nat} {k : Nat} (hK : qOk K) (h : qIn K k 0) : qIn K (k + 1) 5 := qIn.child hK h 2 1 5 (by decide) rfl (by decide) (by decide) (by decide)
theorem qch_1_2 {K : List Nat} {k : Nat} (hK : qOk K) (h : qIn K k 1) : qIn K (k + 1) 5 := qIn.child hK h 2 1 5 (by decide) rfl (by decide) (by decide) (by decide)
theorem qch_1_3 {K : List Nat} {k : Nat} (hK : qOk K) (h : qIn K k 1) : qIn K (k + 2) 5 := qIn.child hK h 3 2 5 (by decide) rfl (by decide) (by decide) (by decide)
theorem qch_1_5 {K : List Nat} {k : Nat} (hK : qOk K) (h : qIn K k 1) : qIn K (k + 3) 5 := qIn.child hK h 5 3 5 (by decide) rfl (by decide) (by decide) (by decide)
theorem qch_1_6 {K : List Nat} {k : Nat} (hK : qOk K) (h : qIn K k 1) : qIn K (k + 4) 5 := qIn.child hK h 6 4 5 (by decide) rfl (by decide) (by decide) (by decide)
theorem qch_1_7 {K : List Nat} {k : Nat} (hK : qOk K) (h : qIn K k 1) : qIn K (k + 5) 5 := qIn.child hK h 7 5 5 (by decide) rfl (by decide) (by decide) (by decide)
theorem qch_2_0 {K : List Nat} {k : Nat} (hK : qOk K) (h : qIn K k 2) : qIn K (k + 1) 5 := qIn.child hK h 0 1 5 (by decide) rfl (by decide) (by decide) (by decide)
theorem qch_2_1 {K : List Nat} {k : Nat} (hK : qOk K) (h : qIn K k 2) : qIn K (k + 2) 5 := qIn.child hK h 1 2 5 (by decide) rfl (by decide) (by decide) (by decide)
theorem qch_3_2 {K : List Nat} {k : Nat} (hK : qOk K) (h : qIn K k 3) : qIn K (k + 1) 0 := qIn.child hK h 2 1 0 (by decide) rfl (by decide) (by decide) (by decide)
theorem qch_3_3 {K : List Nat} {k : Nat} (hK : qOk K) (h : qIn K k 3) : qIn K (k + 3) 2 := qIn.child hK h 3 3 2 (by decide) rfl (by decide) (by decide) (by decide)
theorem qch_3_4 {K : List Nat} {k : Nat} (hK : qOk K) (h : qIn K k 3) : qIn K (k + 6) 1 := qIn.child hK h 4 6 1 (by decide) rfl (by decide) (by decide) (by decide)
theorem qch_3_5 {K : List Nat} {k : Nat} (hK : qOk K) (h : qIn K k 3) : qIn K (k + 12) 2 := qIn.child hK h 5 12 2 (by decide) rfl (by decide) (by decide) (by decide)
theorem qch_3_6 {K : List Nat} {k : Nat} (hK : qOk K) (h : qIn K k 3) : qIn K (k + 15) 2 := qIn.child hK h 6 15 2 (by decide) rfl (by decide) (by decide) (by decide)
theorem qch_4_4 {K : List Nat} {k : Nat} (hK : qOk K) (h : qIn K k 4) : qIn K (k + 1) 5 := qIn.child hK h 4 1 5 (by decide) rfl (by decide) (by decide) (by decide)
theorem qch_4_6 {K : List Nat} {k : Nat} (hK : qOk K) (h : qIn K k 4) : qIn K (k + 2) 5 := qIn.child hK h 6 2 5 (by decide) rfl (by decide) (by decide) (by decide)
theorem qch_4_7 {K : List Nat} {k : Nat} (hK : qOk K) (h : qIn K k 4) : qIn K (k + 3) 5 := qIn.child hK h 7 3 5 (by decide) rfl (by decide) (by decide) (by decide)
theorem qch_4_8 {K : List Nat} {k : Nat} (hK : qOk K) (h : qIn K k 4) : qIn K (k + 4) 5 := qIn.child hK h 8 4 5 (by decide) rfl (by decide) (by decide) (by decide)
theorem qch_4_9 {K : List Nat} {k : Nat} (hK : qOk K) (h : qIn K k 4) : qIn K (k + 5) 5 := qIn.child hK h 9 5 5 (by decide) rfl (by decide) (by decide) (by decide)
theorem qch_4_11 {K : List Nat} {k : Nat} (hK : qOk K) (h : qIn K k 4) : qIn K (k + 6) 5 := qIn.child hK h 11 6 5 (by decide) rfl (by decide) (by decide) (by decide)
section QFIELDS
variable {own : String} {cc : ByteArray} {nL fr lo : Nat} {vd : Bool} {G : State → (Nat → Prop) → Prop} {b : Nat} {K : List Nat} {pc : Nat} {L : List (Option Value)} {st : List Value} {σ : qSt} {e : qR} {k index : Nat} {v : Int32}
theorem qg_0_0 (hd : decode cc pc = .ok (.getfield index, 3)) (hk : qIn K k 0) (hl : Cond.fieldLink own index "LineSearch$Ground" "rays" "I" ∈ qtbl) (h : qJ own cc nL fr lo vd G b K (pc + 3) L (.int (σ k 0) :: st) σ e) : qJ own cc nL fr lo vd G b K pc L (.ref (b + k) :: st) σ e := q_get (ci := 0) (j := 0) (C := RX0) (T := TX0) (N := 3) hd hk (by decide) rfl inX0 (by decide) hl rfl h
theorem qp_0_0 (hd : decode cc pc = .ok (.putfield index, 3)) (hk : qIn K k 0) (hl : Cond.fieldLink own index "LineSearch$Ground" "rays" "I" ∈ qtbl) (h : qJ own cc nL fr lo vd G b K (pc + 3) L st (qset σ k 0 v) e) : qJ own cc nL fr lo vd G b K pc L (.int v :: .ref (b + k) :: st) σ e := q_put (ci := 0) (j := 0) (C := RX0) (T := TX0) (N := 3) (ty0 := tyX0) hd hk (by decide) rfl inX0 tyX0_ok nmX0 (by decide) hl rfl (ty := .int) (by decide +kernel) (vp_nar_int _) rfl (by simp [qfs]) (by simp [qfs, qset]) h
theorem qg_0_1 (hd : decode cc pc = .ok (.getfield index, 3)) (hk : qIn K k 0) (hl : Cond.fieldLink own index "LineSearch$Ground" "reach" "I" ∈ qtbl) (h : qJ own cc nL fr lo vd G b K (pc + 3) L (.int (σ k 1) :: st) σ e) : qJ own cc nL fr lo vd G b K pc L (.ref (b + k) :: st) σ e := q_get (ci := 0) (j := 1) (C := RX0) (T := TX0) (N := 3) hd hk (by decide) rfl inX0 (by decide) hl rfl h
theorem qp_0_1 (hd : decode cc pc = .ok (.putfield index, 3)) (hk : qIn K k 0) (hl : Cond.fieldLink own index "LineSearch$Ground" "reach" "I" ∈ qtbl) (h : qJ own cc nL fr lo vd G b K (pc + 3) L st (qset σ k 1 v) e) : qJ own cc nL fr lo vd G b K pc L (.int v :: .ref (b + k) :: st) σ e := q_put (ci := 0) (j := 1) (C := RX0) (T := TX0) (N := 3) (ty0 := tyX0) hd hk (by decide) rfl inX0 tyX0_ok nmX0 (by decide) hl rfl (ty := .int) (by decide +kernel) (vp_nar_int _) rfl (by simp [qfs]) (by simp [qfs, qset]) h
theorem qg_0_2 (hd : decode cc pc = .ok (.getfield index, 3)) (hk : qIn K k 0) (hl : Cond.fieldLink own index "LineSearch$Ground" "shares" "[I" ∈ qtbl) (h : qJ own cc nL fr lo vd G b K (pc + 3) L (.ref (b + (k + 1)) :: st) σ e) : qJ own cc nL fr lo vd G b K pc L (.ref (b + k) :: st) σ e := q_get (ci := 0) (j := 2) (C := RX0) (T := TX0) (N := 3) hd hk (by decide) rfl inX0 (by decide) hl rfl h
theorem qg_1_0 (hd : decode cc pc = .ok (.getfield index, 3)) (hk : qIn K k 1) (hl : Cond.fieldLink own index "LineSearch$Outlook" "rays" "I" ∈ qtbl) (h : qJ own cc nL fr lo vd G b K (pc + 3) L (.int (σ k 0) :: st) σ e) : qJ own cc nL fr lo vd G b K pc L (.ref (b + k) :: st) σ e := q_get (ci := 1) (j := 0) (C := RX1) (T := TX1) (N := 8) hd hk (by decide) rfl inX1 (by decide) hl rfl h
theorem qp_1_0 (hd : decode cc pc = .ok (.putfield index, 3)) (hk : qIn K k 1) (hl : Cond.fieldLink own index "LineSearch$Outlook" "rays" "I" ∈ qtbl) (h : qJ own cc nL fr lo vd G b K (pc + 3) L st (qset σ k 0 v) e) : qJ own cc nL fr lo vd G b K pc L (.int v :: .ref (b + k) :: st) σ e := q_put (ci := 1) (j := 0) (C := RX1) (T := TX1) (N := 8) (ty0 := tyX1) hd hk (by decide) rfl inX1 tyX1_ok nmX1 (by decide) hl rfl (ty := .int) (by decide +kernel) (vp_nar_int _) rfl (by simp [qfs]) (by simp [qfs, qset]) h
theorem qg_1_1 (hd : decode cc pc = .ok (.getfield index, 3)) (hk : qIn K k 1) (hl : Cond.fieldLink own index "LineSearch$Outlook" "reach" "I" ∈ qtbl) (h : qJ own cc nL fr lo vd G b K (pc + 3) L (.int (σ k 1) :: st) σ e) : qJ own cc nL fr lo vd G b K pc L (.ref (b + k) :: st) σ e := q_get (ci := 1) (j := 1) (C := RX1) (T := TX1) (N := 8) hd hk (by decide) rfl inX1 (by decide) hl rfl h
theorem qp_1_1 (hd : decode cc pc = .ok (.putfield index, 3)) (hk : qIn K k 1) (hl : Cond.fieldLink own index "LineSearch$Outlook" "reach" "I" ∈ qtbl) (h : qJ own cc nL fr lo vd G b K (pc + 3) L st (qset σ k 1 v) e) : qJ own cc nL fr lo vd G b K pc L (.int v :: .ref (b + k) :: st) σ e := q_put (ci := 1) (j := 1) (C := RX1) (T := TX1) (N := 8) (ty0 := tyX1) hd hk (by decide) rfl inX1 tyX1_ok nmX1 (by decide) hl rfl (ty := .int) (by decide +kernel) (vp_nar_int _) rfl (by simp [qfs]) (by simp [qfs, qset]) h
theorem qg_1_2 (hd : decode cc pc = .ok (.getfield index, 3)) (hk : qIn K k 1) (hl : Cond.fieldLink own index "LineSearch$Outlook" "caps" "[I" ∈ qtbl) (h : qJ own cc nL fr lo vd G b K (pc + 3) L (.ref (b + (k + 1)) :: st) σ e) : qJ own cc nL fr lo vd G b K pc L (.ref (b + k) :: st) σ e := q_get (ci := 1) (j := 2) (C := RX1) (T := TX1) (N := 8) hd hk (by decide) rfl inX1 (by decide) hl rfl h
theorem qg_1_3 (hd : decode cc pc = .ok (.getfield index, 3)) (hk : qIn K k 1) (hl : Cond.fieldLink own index "LineSearch$Outlook" "prices" "[I" ∈ qtbl) (h : qJ own cc nL fr lo vd G b K (pc + 3) L (.ref (b + (k + 2)) :: st) σ e) : qJ own cc nL fr lo vd G b K pc L (.ref (b + k) :: st) σ e := q_get (ci := 1) (j := 3) (C := RX1) (T := TX1) (N := 8) hd hk (by decide) rfl inX1 (by decide) hl rfl h
theorem qg_1_4 (hd : decode cc pc = .ok (.getfield index, 3)) (hk : qIn K k 1) (hl : Cond.fieldLink own index "LineSearch$Outlook" "basePrice" "I" ∈ qtbl) (h : qJ own cc nL fr lo vd G b K (pc + 3) L (.int (σ k 4) :: st) σ e) : qJ own cc nL fr lo vd G b K pc L (.ref (b + k) :: st) σ e := q_get (ci := 1) (j := 4) (C := RX1) (T := TX1) (N := 8) hd hk (by decide) rfl inX1 (by decide) hl rfl h
theorem qp_1_4 (hd : decode cc pc = .ok (.putfield index, 3)) (hk : qIn K k 1) (hl : Cond.fieldLink own index "LineSearch$Outlook" "basePrice" "I" ∈ qtbl) (h : qJ own cc nL fr lo vd G b K (pc + 3) L st (qset σ k 4 v) e) : qJ own cc nL fr lo vd G b K pc L (.int v :: .ref (b + k) :: st) σ e := q_put (ci := 1) (j := 4) (C := RX1) (T := TX1) (N := 8) (ty0 := tyX1) hd hk (by decide) rfl inX1 tyX1_ok nmX1 (by decide) hl rfl (ty := .int) (by decide +kernel) (vp_nar_int _) rfl (by simp [qfs]) (by simp [qfs, qset]) h
theorem qg_1_5 (hd : decode cc pc = .ok (.getfield index, 3)) (hk : qIn K k 1) (hl : Cond.fieldLink own index "LineSearch$Outlook" "most" "[I" ∈ qtbl) (h : qJ own cc nL fr lo vd G b K (pc + 3) L (.ref (b + (k + 3)) :: st) σ e) : qJ own cc nL fr lo vd G b K pc L (.ref (b + k) :: st) σ e := q_get (ci := 1) (j := 5) (C := RX1) (T := TX1) (N := 8) hd hk (by decide) rfl inX1 (by decide) hl rfl h
theorem qg_1_6 (hd : decode cc pc = .ok (.getfield index, 3)) (hk : qIn K k 1) (hl : Cond.fieldLink own index "LineSearch$Outlook" "mostOnRay" "[I" ∈ qtbl) (h : qJ own cc nL fr lo vd G b K (pc + 3) L (.ref (b + (k + 4)) :: st) σ e) : qJ own cc nL fr lo vd G b K pc L (.ref (b + k) :: st) σ e := q_get (ci := 1) (j := 6) (C := RX1) (T := TX1) (N := 8) hd hk (by decide) rfl inX1 (by decide) hl rfl h
theorem qg_1_7 (hd : decode cc pc = .ok (.getfield index, 3)) (hk : qIn K k 1) (hl : Cond.fieldLink own index "LineSearch$Outlook" "gone" "[I" ∈ qtbl) (h : qJ own cc nL fr lo vd G b K (pc + 3) L (.ref (b + (k + 5)) :: st) σ e) : qJ own cc nL fr lo vd G b K pc L (.ref (b + k) :: st) σ e := q_get (ci := 1) (j := 7) (C := RX1) (T := TX1) (N := 8) hd hk (by decide) rfl inX1 (by decide) hl rfl h
theorem qg_2_0 (hd : decode cc pc = .ok (.getfield index, 3)) (hk : qIn K k 2) (hl : Cond.fieldLink own index "LineSearch$Plan" "onRay" "[I" ∈ qtbl) (h : qJ own cc nL fr lo vd G b K (pc + 3) L (.ref (b + (k + 1)) :: st) σ e) : qJ own cc nL fr lo vd G b K pc L (.ref (b + k) :: st) σ e := q_get (ci := 2) (j := 0) (C := RX2) (T := TX2) (N := 3) hd hk (by decide) rfl inX2 (by decide) hl rfl h
theorem qg_2_1 (hd : decode cc pc = .ok (.getfield index, 3)) (hk : qIn K k 2) (hl : Cond.fieldLink own index "LineSearch$Plan" "toSteps" "[I" ∈ qtbl) (h : qJ own cc nL fr lo vd G b K (pc + 3) L (.ref (b + (k + 2)) :: st) σ e) : qJ own cc nL fr lo vd G b K pc L (.ref (b + k) :: st) σ e := q_get (ci := 2) (j := 1) (C := RX2) (T := TX2) (N := 3) hd hk (by decide) rfl inX2 (by decide) hl rfl h
theorem qg_2_2 (hd : decode cc pc = .ok (.getfield index, 3)) (hk : qIn K k 2) (hl : Cond.fieldLink own index "LineSearch$Plan" "count" "I" ∈ qtbl) (h : qJ own cc nL fr lo vd G b K (pc + 3) L (.int (σ k 2) :: st) σ e) : qJ own cc nL fr lo vd G b K pc L (.ref (b + k) :: st) σ e := q_get (ci := 2) (j := 2) (C := RX2) (T := TX2) (N := 3) hd hk (by decide) rfl inX2 (by decide) hl rfl h
theorem qp_2_2 (hd : decode cc pc = .ok (.putfield index, 3)) (hk : qIn K k 2) (hl : Cond.fieldLink own index "LineSearch$Plan" "count" "I" ∈ qtbl) (h : qJ own cc nL fr lo vd G b K (pc + 3) L st (qset σ k 2 v) e) : qJ own cc nL fr lo vd G b K pc L (.int v :: .ref (b + k) :: st) σ e := q_put (ci := 2) (j := 2) (C := RX2) (T := TX2) (N := 3) (ty0 := tyX2) hd hk (by decide) rfl inX2 tyX2_ok nmX2 (by decide) hl rfl (ty := .int) (by decide +kernel) (vp_nar_int _) rfl (by simp [qfs]) (by simp [qfs, qset]) h
theorem qg_3_0 (hd : decode cc pc = .ok (.getfield index, 3)) (hk : qIn K k 3) (hl : Cond.fieldLink own index "LineSearch" "out" "I" ∈ qtbl) (h : qJ own cc nL fr lo vd G b K (pc + 3) L (.int (σ k 0) :: st) σ e) : qJ own cc nL fr lo vd G b K pc L (.ref (b + k) :: st) σ e := q_get (ci := 3) (j := 0) (C := RX3) (T := TX3) (N := 11) hd hk (by decide) rfl inX3 (by decide) hl rfl h
theorem qp_3_0 (hd : decode cc pc = .ok (.putfield index, 3)) (hk : qIn K k 3) (hl : Cond.fieldLink own index "LineSearch" "out" "I" ∈ qtbl) (h : qJ own cc nL fr lo vd G b K (pc + 3) L st (qset σ k 0 v) e) : qJ own cc nL fr lo vd G b K pc L (.int v :: .ref (b + k) :: st) σ e := q_put (ci := 3) (j := 0) (C := RX3) (T := TX3) (N := 11) (ty0 := tyX3) hd hk (by decide) rfl inX3 tyX3_ok nmX3 (by decide) hl rfl (ty := .int) (by decide +kernel) (vp_nar_int _) rfl (by simp [qfs]) (by simp [qfs, qset]) h
theorem qg_3_1 (hd : decode cc pc = .ok (.getfield index, 3)) (hk : qIn K k 3) (hl : Cond.fieldLink own index "LineSearch" "back" "I" ∈ qtbl) (h : qJ own cc nL fr lo vd G b K (pc + 3) L (.int (σ k 1) :: st) σ e) : qJ own cc nL fr lo vd G b K pc L (.ref (b + k) :: st) σ e := q_get (ci := 3) (j := 1) (C := RX3) (T := TX3) (N := 11) hd hk (by decide) rfl inX3 (by decide) hl rfl h
theorem qp_3_1 (hd : decode cc pc = .ok (.putfield index, 3)) (hk : qIn K k 3) (hl : Cond.fieldLink own index "LineSearch" "back" "I" ∈ qtbl) (h : qJ own cc nL fr lo vd G b K (pc + 3) L st (qset σ k 1 v) e) : qJ own cc nL fr lo vd G b K pc L (.int v :: .ref (b + k) :: st) σ e := q_put (ci := 3) (j := 1) (C := RX3) (T := TX3) (N := 11) (ty0 := tyX3) hd hk (by decide) rfl inX3 tyX3_ok nmX3 (by decide) hl rfl (ty := .int) (by decide +kernel) (vp_nar_int _) rfl (by simp [qfs]) (by simp [qfs, qset]) h
theorem qg_3_2 (hd : decode cc pc = .ok (.getfield index, 3)) (hk : qIn K k 3) (hl : Cond.fieldLink own index "LineSearch" "ground" "LLineSearch$Ground;" ∈ qtbl) (h : qJ own cc nL fr lo vd G b K (pc + 3) L (.ref (b + (k + 1)) :: st) σ e) : qJ own cc nL fr lo vd G b K pc L (.ref (b + k) :: st) σ e := q_get (ci := 3) (j := 2) (C := RX3) (T := TX3) (N := 11) hd hk (by decide) rfl inX3 (by decide) hl rfl h
theorem qg_3_3 (hd : decode cc pc = .ok (.getfield index, 3)) (hk : qIn K k 3) (hl : Cond.fieldLink own index "LineSearch" "plan" "LLineSearch$Plan;" ∈ qtbl) (h : qJ own cc nL fr lo vd G b K (pc + 3) L (.ref (b + (k + 3)) :: st) σ e) : qJ own cc nL fr lo vd G b K pc L (.ref (b + k) :: st) σ e := q_get (ci := 3) (j := 3) (C := RX3) (T := TX3) (N := 11) hd hk (by decide) rfl inX3 (by decide) hl rfl h
theorem qg_3_4 (hd : decode cc pc = .ok (.getfield index, 3)) (hk : qIn K k 3) (hl : Cond.fieldLink own index "LineSearch" "outlook" "LLineSearch$Outlook;" ∈ qtbl) (h : qJ own cc nL fr lo vd G b K (pc + 3) L (.ref (b + (k + 6)) :: st) σ e) : qJ own cc nL fr lo vd G b K pc L (.ref (b + k) :: st) σ e := q_get (ci := 3) (j := 4) (C := RX3) (T := TX3) (N := 11) hd hk (by decide) rfl inX3 (by decide) hl rfl h
theorem qg_3_5 (hd : decode cc pc = .ok (.getfield index, 3)) (hk : qIn K k 3) (hl : Cond.fieldLink own index "LineSearch" "meanPlan" "LLineSearch$Plan;" ∈ qtbl) (h : qJ own cc nL fr lo vd G b K (pc + 3) L (.ref (b + (k + 12)) :: st) σ e) : qJ own cc nL fr lo vd G b K pc L (.ref (b + k) :: st) σ e := q_get (ci := 3) (j := 5) (C := RX3) (T := TX3) (N := 11) hd hk (by decide) rfl inX3 (by decide) hl rfl h
theorem qg_3_6 (hd : decode cc pc = .ok (.getfield index, 3)) (hk : qIn K k 3) (hl : Cond.fieldLink own index "LineSearch" "worstPlan" "LLineSearch$Plan;" ∈ qtbl) (h : qJ own cc nL fr lo vd G b K (pc + 3) L (.ref (b + (k + 15)) :: st) σ e) : qJ own cc nL fr lo vd G b K pc L (.ref (b + k) :: st) σ e := q_get (ci := 3) (j := 6) (C := RX3) (T := TX3) (N := 11) hd hk (by decide) rfl inX3 (by decide) hl rfl h
theorem qg_3_7 (hd : decode cc pc = .ok (.getfield index, 3)) (hk : qIn K k 3) (hl : Cond.fieldLink own index "LineSearch" "meanKnown" "Z" ∈ qtbl) (h : qJ own cc nL fr lo vd G b K (pc + 3) L (.int (σ k 7) :: st) σ e) : qJ own cc nL fr lo vd G b K pc L (.ref (b + k) :: st) σ e := q_get (ci := 3) (j := 7) (C := RX3) (T := TX3) (N := 11) hd hk (by decide) rfl inX3 (by decide) hl rfl h
theorem qp_3_7 (hd : decode cc pc = .ok (.putfield index, 3)) (hk : qIn K k 3) (hl : Cond.fieldLink own index "LineSearch" "meanKnown" "Z" ∈ qtbl) (hn : narrow .boolean (.int v) = .int v) (hf : fits .boolean (.int v) = true) (h : qJ own cc nL fr lo vd G b K (pc + 3) L st (qset σ k 7 v) e) : qJ own cc nL fr lo vd G b K pc L (.int v :: .ref (b + k) :: st) σ e := q_put (ci := 3) (j := 7) (C := RX3) (T := TX3) (N := 11) (ty0 := tyX3) hd hk (by decide) rfl inX3 tyX3_ok nmX3 (by decide) hl rfl (ty := .boolean) (by decide +kernel) hn hf (by simp [qfs]) (by simp [qfs, qset]) h
theorem qg_3_8 (hd : decode cc pc = .ok (.getfield index, 3)) (hk : qIn K k 3) (hl : Cond.fieldLink own index "LineSearch" "worstKnown" "Z" ∈ qtbl) (h : qJ own cc nL fr lo vd G b K (pc + 3) L (.int (σ k 8) :: st) σ e) : qJ own cc nL fr lo vd G b K pc L (.ref (b + k) :: st) σ e := q_get (ci := 3) (j := 8) (C := RX3) (T := TX3) (N := 11) hd hk (by decide) rfl inX3 (by decide) hl rfl h
theorem qp_3_8 (hd : decode cc pc = .ok (.putfield index, 3)) (hk : qIn K k 3) (hl : Cond.fieldLink own index "LineSearch" "worstKnown" "Z" ∈ qtbl) (hn : narrow .boolean (.int v) = .int v) (hf : fits .boolean (.int v) = true) (h : qJ own cc nL fr lo vd G b K (pc + 3) L st (qset σ k 8 v) e) : qJ own cc nL fr lo vd G b K pc L (.int v :: .ref (b + k) :: st) σ e := q_put (ci := 3) (j := 8) (C := RX3) (T := TX3) (N := 11) (ty0 := tyX3) hd hk (by decide) rfl inX3 tyX3_ok nmX3 (by decide) hl rfl (ty := .boolean) (by decide +kernel) hn hf (by simp [qfs]) (by simp [qfs, qset]) h
theorem qg_3_9 (hd : decode cc pc = .ok (.getfield index, 3)) (hk : qIn K k 3) (hl : Cond.fieldLink own index "LineSearch" "meanSteps" "I" ∈ qtbl) (h : qJ own cc nL fr lo vd G b K (pc + 3) L (.int (σ k 9) :: st) σ e) : qJ own cc nL fr lo vd G b K pc L (.ref (b + k) :: st) σ e := q_get (ci := 3) (j := 9) (C := RX3) (T := TX3) (N := 11) hd hk (by decide) rfl inX3 (by decide) hl rfl h
theorem qp_3_9 (hd : decode cc pc = .ok (.putfield index, 3)) (hk : qIn K k 3) (hl : Cond.fieldLink own index "LineSearch" "meanSteps" "I" ∈ qtbl) (h : qJ own cc nL fr lo vd G b K (pc + 3) L st (qset σ k 9 v) e) : qJ own cc nL fr lo vd G b K pc L (.int v :: .ref (b + k) :: st) σ e := q_put (ci := 3) (j := 9) (C := RX3) (T := TX3) (N := 11) (ty0 := tyX3) hd hk (by decide) rfl inX3 tyX3_ok nmX3 (by decide) hl rfl (ty := .int) (by decide +kernel) (vp_nar_int _) rfl (by simp [qfs]) (by simp [qfs, qset]) h
theorem qg_3_10 (hd : decode cc pc = .ok (.getfield index, 3)) (hk : qIn K k 3) (hl : Cond.fieldLink own index "LineSearch" "worstParts" "I" ∈ qtbl) (h : qJ own cc nL fr lo vd G b K (pc + 3) L (.int (σ k 10) :: st) σ e) : qJ own cc nL fr lo vd G b K pc L (.ref (b + k) :: st) σ e := q_get (ci := 3) (j := 10) (C := RX3) (T := TX3) (N := 11) hd hk (by decide) rfl inX3 (by decide) hl rfl h
theorem qp_3_10 (hd : decode cc pc = .ok (.putfield index, 3)) (hk : qIn K k 3) (hl : Cond.fieldLink own index "LineSearch" "worstParts" "I" ∈ qtbl) (h : qJ own cc nL fr lo vd G b K (pc + 3) L st (qset σ k 10 v) e) : qJ own cc nL fr lo vd G b K pc L (.int v :: .ref (b + k) :: st) σ e := q_put (ci := 3) (j := 10) (C := RX3) (T := TX3) (N := 11) (ty0 := tyX3) hd hk (by decide) rfl inX3 tyX3_ok nmX3 (by decide) hl rfl (ty := .int) (by decide +kernel) (vp_nar_int _) rfl (by simp [qfs]) (by simp [qfs, qset]) h
theorem qg_4_0 (hd : decode cc pc = .ok (.getfield index, 3)) (hk : qIn K k 4) (hl : Cond.fieldLink own index "LineSearchModel" "rays" "I" ∈ qtbl) (h : qJ own cc nL fr lo vd G b K (pc + 3) L (.int (σ k 0) :: st) σ e) : qJ own cc nL fr lo vd G b K pc L (.ref (b + k) :: st) σ e := q_get (ci := 4) (j := 0) (C := RX4) (T := TX4) (N := 15) hd hk (by decide) rfl inX4 (by decide) hl rfl h
theorem qp_4_0 (hd : decode cc pc = .ok (.putfield index, 3)) (hk : qIn K k 4) (hl : Cond.fieldLink own index "LineSearchModel" "rays" "I" ∈ qtbl) (h : qJ own cc nL fr lo vd G b K (pc + 3) L st (qset σ k 0 v) e) : qJ own cc nL fr lo vd G b K pc L (.int v :: .ref (b + k) :: st) σ e := q_put (ci := 4) (j := 0) (C := RX4) (T := TX4) (N := 15) (ty0 := tyX4) hd hk (by decide) rfl inX4 tyX4_ok nmX4 (by decide) hl rfl (ty := .int) (by decide +kernel) (vp_nar_int _) rfl (by simp [qfs]) (by simp [qfs, qset]) h
theorem qg_4_1 (hd : decode cc pc = .ok (.getfield index, 3)) (hk : qIn K k 4) (hl : Cond.fieldLink own index "LineSearchModel" "steps" "I" ∈ qtbl) (h : qJ own cc nL fr lo vd G b K (pc + 3) L (.int (σ k 1) :: st) σ e) : qJ own cc nL fr lo vd G b K pc L (.ref (b + k) :: st) σ e := q_get (ci := 4) (j := 1) (C := RX4) (T := TX4) (N := 15) hd hk (by decide) rfl inX4 (by decide) hl rfl h
theorem qp_4_1 (hd : decode cc pc = .ok (.putfield index, 3)) (hk : qIn K k 4) (hl : Cond.fieldLink own index "LineSearchModel" "steps" "I" ∈ qtbl) (h : qJ own cc nL fr lo vd G b K (pc + 3) L st (qset σ k 1 v) e) : qJ own cc nL fr lo vd G b K pc L (.int v :: .ref (b + k) :: st) σ e := q_put (ci := 4) (j := 1) (C := RX4) (T := TX4) (N := 15) (ty0 := tyX4) hd hk (by decide) rfl inX4 tyX4_ok nmX4 (by decide) hl rfl (ty := .int) (by decide +kernel) (vp_nar_int _) rfl (by simp [qfs]) (by simp [qfs, qset]) h
theorem qg_4_2 (hd : decode cc pc = .ok (.getfield index, 3)) (hk : qIn K k 4) (hl : Cond.fieldLink own index "LineSearchModel" "out" "I" ∈ qtbl) (h : qJ own cc nL fr lo vd G b K (pc + 3) L (.int (σ k 2) :: st) σ e) : qJ own cc nL fr lo vd G b K pc L (.ref (b + k) :: st) σ e := q_get (ci := 4) (j := 2) (C := RX4) (T := TX4) (N := 15) hd hk (by decide) rfl inX4 (by decide) hl rfl h
theorem qp_4_2 (hd : decode cc pc = .ok (.putfield index, 3)) (hk : qIn K k 4) (hl : Cond.fieldLink own index "LineSearchModel" "out" "I" ∈ qtbl) (h : qJ own cc nL fr lo vd G b K (pc + 3) L st (qset σ k 2 v) e) : qJ own cc nL fr lo vd G b K pc L (.int v :: .ref (b + k) :: st) σ e := q_put (ci := 4) (j := 2) (C := RX4) (T := TX4) (N := 15) (ty0 := tyX4) hd hk (by decide) rfl inX4 tyX4_ok nmX4 (by decide) hl rfl (ty := .int) (by decide +kernel) (vp_nar_int _) rfl (by simp [qfs]) (by simp [qfs, qset]) h
theorem qg_4_3 (hd : decode cc pc = .ok (.getfield index, 3)) (hk : qIn K k 4) (hl : Cond.fieldLink own index "LineSearchModel" "back" "I" ∈ qtbl) (h : qJ own cc nL fr lo vd G b K (pc + 3) L (.int (σ k 3) :: st) σ e) : qJ own cc nL fr lo vd G b K pc L (.ref (b + k) :: st) σ e := q_get (ci := 4) (j := 3) (C := RX4) (T := TX4) (N := 15) hd hk (by decide) rfl inX4 (by decide) hl rfl h
theorem qp_4_3 (hd : decode cc pc = .ok (.putfield index, 3)) (hk : qIn K k 4) (hl : Cond.fieldLink own index "LineSearchModel" "back" "I" ∈ qtbl) (h : qJ own cc nL fr lo vd G b K (pc + 3) L st (qset σ k 3 v) e) : qJ own cc nL fr lo vd G b K pc L (.int v :: .ref (b + k) :: st) σ e := q_put (ci := 4) (j := 3) (C := RX4) (T := TX4) (N := 15) (ty0 := tyX4) hd hk (by decide) rfl inX4 tyX4_ok nmX4 (by decide) hl rfl (ty := .int) (by decide +kernel) (vp_nar_int _) rfl (by simp [qfs]) (by simp [qfs, qset]) h
theorem qg_4_4 (hd : decode cc pc = .ok (.getfield index, 3)) (hk : qIn K k 4) (hl : Cond.fieldLink own index "LineSearchModel" "share" "[I" ∈ qtbl) (h : qJ own cc nL fr lo vd G b K (pc + 3) L (.ref (b + (k + 1)) :: st) σ e) : qJ own cc nL fr lo vd G b K pc L (.ref (b + k) :: st) σ e := q_get (ci := 4) (j := 4) (C := RX4) (T := TX4) (N := 15) hd hk (by decide) rfl inX4 (by decide) hl rfl h
theorem qg_4_5 (hd : decode cc pc = .ok (.getfield index, 3)) (hk : qIn K k 4) (hl : Cond.fieldLink own index "LineSearchModel" "trips" "I" ∈ qtbl) (h : qJ own cc nL fr lo vd G b K (pc + 3) L (.int (σ k 5) :: st) σ e) : qJ own cc nL fr lo vd G b K pc L (.ref (b + k) :: st) σ e := q_get (ci := 4) (j := 5) (C := RX4) (T := TX4) (N := 15) hd hk (by decide) rfl inX4 (by decide) hl rfl h
theorem qp_4_5 (hd : decode cc pc = .ok (.putfield index, 3)) (hk : qIn K k 4) (hl : Cond.fieldLink own index "LineSearchModel" "trips" "I" ∈ qtbl) (h : qJ own cc nL fr lo vd G b K (pc + 3) L st (qset σ k 5 v) e) : qJ own cc nL fr lo vd G b K pc L (.int v :: .ref (b + k) :: st) σ e := q_put (ci := 4) (j := 5) (C := RX4) (T := TX4) (N := 15) (ty0 := tyX4) hd hk (by decide) rfl inX4 tyX4_ok nmX4 (by decide) hl rfl (ty := .int) (by decide +kernel) (vp_nar_int _) rfl (by simp [qfs]) (by simp [qfs, qset]) h
theorem qg_4_6 (hd : decode cc pc = .ok (.getfield index, 3)) (hk : qIn K k 4) (hl : Cond.fieldLink own index "LineSearchModel" "ray" "[I" ∈ qtbl) (h : qJ own cc nL fr lo vd G b K (pc + 3) L (.ref (b + (k + 2)) :: st) σ e) : qJ own cc nL fr lo vd G b K pc L (.ref (b + k) :: st) σ e := q_get (ci := 4) (j := 6) (C := RX4) (T := TX4) (N := 15) hd hk (by decide) rfl inX4 (by decide) hl rfl h
theorem qg_4_7 (hd : decode cc pc = .ok (.getfield index, 3)) (hk : qIn K k 4) (hl : Cond.fieldLink own index "LineSearchModel" "far" "[I" ∈ qtbl) (h : qJ own cc nL fr lo vd G b K (pc + 3) L (.ref (b + (k + 3)) :: st) σ e) : qJ own cc nL fr lo vd G b K pc L (.ref (b + k) :: st) σ e := q_get (ci := 4) (j := 7) (C := RX4) (T := TX4) (N := 15) hd hk (by decide) rfl inX4 (by decide) hl rfl h
theorem qg_4_8 (hd : decode cc pc = .ok (.getfield index, 3)) (hk : qIn K k 4) (hl : Cond.fieldLink own index "LineSearchModel" "least" "[I" ∈ qtbl) (h : qJ own cc nL fr lo vd G b K (pc + 3) L (.ref (b + (k + 4)) :: st) σ e) : qJ own cc nL fr lo vd G b K pc L (.ref (b + k) :: st) σ e := q_get (ci := 4) (j := 8) (C := RX4) (T := TX4) (N := 15) hd hk (by decide) rfl inX4 (by decide) hl rfl h
theorem qg_4_9 (hd : decode cc pc = .ok (.getfield index, 3)) (hk : qIn K k 4) (hl : Cond.fieldLink own index "LineSearchModel" "most" "[I" ∈ qtbl) (h : qJ own cc nL fr lo vd G b K (pc + 3) L (.ref (b + (k + 5)) :: st) σ e) : qJ own cc nL fr lo vd G b K pc L (.ref (b + k) :: st) σ e := q_get (ci := 4) (j := 9) (C := RX4) (T := TX4) (N := 15) hd hk (by decide) rfl inX4 (by decide) hl rfl h
theorem qg_4_10 (hd : decode cc pc = .ok (.getfield index, 3)) (hk : qIn K k 4) (hl : Cond.fieldLink own index "LineSearchModel" "planned" "I" ∈ qtbl) (h : qJ own cc nL fr lo vd G b K (pc + 3) L (.int (σ k 10) :: st) σ e) : qJ own cc nL fr lo vd G b K pc L (.ref (b + k) :: st) σ e := q_get (ci := 4) (j := 10) (C := RX4) (T := TX4) (N := 15) hd hk (by decide) rfl inX4 (by decide) hl rfl h
theorem qp_4_10 (hd : decode cc pc = .ok (.putfield index, 3)) (hk : qIn K k 4) (hl : Cond.fieldLink own index "LineSearchModel" "planned" "I" ∈ qtbl) (h : qJ own cc nL fr lo vd G b K (pc + 3) L st (qset σ k 10 v) e) : qJ own cc nL fr lo vd G b K pc L (.int v :: .ref (b + k) :: st) σ e := q_put (ci := 4) (j := 10) (C := RX4) (T := TX4) (N := 15) (ty0 := tyX4) hd hk (by decide) rfl inX4 tyX4_ok nmX4 (by decide) hl rfl (ty := .int) (by decide +kernel) (vp_nar_int _) rfl (by simp [qfs]) (by simp [qfs, qset]) h
theorem qg_4_11 (hd : decode cc pc = .ok (.getfield index, 3)) (hk : qIn K k 4) (hl : Cond.fieldLink own index "LineSearchModel" "plan" "[I" ∈ qtbl) (h : qJ own cc nL fr lo vd G b K (pc + 3) L (.ref (b + (k + 6)) :: st) σ e) : qJ own cc nL fr lo vd G b K pc L (.ref (b + k) :: st) σ e := q_get (ci := 4) (j := 11) (C := RX4) (T := TX4) (N := 15) hd hk (by decide) rfl inX4 (by decide) hl rfl h
theorem qg_4_12 (hd : decode cc pc = .ok (.getfield index, 3)) (hk : qIn K k 4) (hl : Cond.fieldLink own index "LineSearchModel" "worstUp" "I" ∈ qtbl) (h : qJ own cc nL fr lo vd G b K (pc + 3) L (.int (σ k 12) :: st) σ e) : qJ own cc nL fr lo vd G b K pc L (.ref (b + k) :: st) σ e := q_get (ci := 4) (j := 12) (C := RX4) (T := TX4) (N := 15) hd hk (by decide) rfl inX4 (by decide) hl rfl h
theorem qp_4_12 (hd : decode cc pc = .ok (.putfield index, 3)) (hk : qIn K k 4) (hl : Cond.fieldLink own index "LineSearchModel" "worstUp" "I" ∈ qtbl) (h : qJ own cc nL fr lo vd G b K (pc + 3) L st (qset σ k 12 v) e) : qJ own cc nL fr lo vd G b K pc L (.int v :: .ref (b + k) :: st) σ e := q_put (ci := 4) (j := 12) (C := RX4) (T := TX4) (N := 15) (ty0 := tyX4) hd hk (by decide) rfl inX4 tyX4_ok nmX4 (by decide) hl rfl (ty := .int) (by decide +kernel) (vp_nar_int _) rfl (by simp [qfs]) (by simp [qfs, qset]) h
theorem qg_4_13 (hd : decode cc pc = .ok (.getfield index, 3)) (hk : qIn K k 4) (hl : Cond.fieldLink own index "LineSearchModel" "worstLow" "I" ∈ qtbl) (h : qJ own cc nL fr lo vd G b K (pc + 3) L (.int (σ k 13) :: st) σ e) : qJ own cc nL fr lo vd G b K pc L (.ref (b + k) :: st) σ e := q_get (ci := 4) (j := 13) (C := RX4) (T := TX4) (N := 15) hd hk (by decide) rfl inX4 (by decide) hl rfl h
theorem qp_4_13 (hd : decode cc pc = .ok (.putfield index, 3)) (hk : qIn K k 4) (hl : Cond.fieldLink own index "LineSearchModel" "worstLow" "I" ∈ qtbl) (h : qJ own cc nL fr lo vd G b K (pc + 3) L st (qset σ k 13 v) e) : qJ own cc nL fr lo vd G b K pc L (.int v :: .ref (b + k) :: st) σ e := q_put (ci := 4) (j := 13) (C := RX4) (T := TX4) (N := 15) (ty0 := tyX4) hd hk (by decide) rfl inX4 tyX4_ok nmX4 (by decide) hl rfl (ty := .int) (by decide +kernel) (vp_nar_int _) rfl (by simp [qfs]) (by simp [qfs, qset]) h
theorem qg_4_14 (hd : decode cc pc = .ok (.getfield index, 3)) (hk : qIn K k 4) (hl : Cond.fieldLink own index "LineSearchModel" "worstFor" "I" ∈ qtbl) (h : qJ own cc nL fr lo vd G b K (pc + 3) L (.int (σ k 14) :: st) σ e) : qJ own cc nL fr lo vd G b K pc L (.ref (b + k) :: st) σ e := q_get (ci := 4) (j := 14) (C := RX4) (T := TX4) (N := 15) hd hk (by decide) rfl inX4 (by decide) hl rfl h
theorem qp_4_14 (hd : decode cc pc = .ok (.putfield index, 3)) (hk : qIn K k 4) (hl : Cond.fieldLink own index "LineSearchModel" "worstFor" "I" ∈ qtbl) (h : qJ own cc nL fr lo vd G b K (pc + 3) L st (qset σ k 14 v) e) : qJ own cc nL fr lo vd G b K pc L (.int v :: .ref (b + k) :: st) σ e := q_put (ci := 4) (j := 14) (C := RX4) (T := TX4) (N := 15) (ty0 := tyX4) hd hk (by decide) rfl inX4 tyX4_ok nmX4 (by decide) hl rfl (ty := .int) (by decide +kernel) (vp_nar_int _) rfl (by simp [qfs]) (by simp [qfs, qset]) h
end QFIELDS
section QC2
variable {own : String} {cc : ByteArray} {nL fr lo : Nat} {vd : Bool} {G : State → (Nat → Prop) → Prop} {b : Nat} {K : List Nat} {pc : Nat} {L : List (Option Value)} {st stk : List Value} {σ : qSt} {e1 : qR} {f : Int32 → qSt → qR}
variable {y : MethodName} {cc' : ByteArray} {nL' fr' lo' n index : Nat} {ty : FieldType}
theorem q_callVi {k ci N : Nat} {C : String} {T : u_T} (As : List Value) (hd : decode cc pc = .ok (.invokevirtual index, 3)) (hl : Cond.methodLink own index y ∈ qtbl) (hy : qY y cc' nL' (some ty) n) (hi : Cond.instanceMethod y ∈ qtbl ∧ Cond.selects C y y ∈ qtbl) (hk : qIn K k ci) (hci : ci < 5) (hc : qcl[ci]? = some (C, T, N)) (hs : qS y cc' nL' (some ty) fr' lo' b K (.ref (b + k) :: As) σ e1) (hn : As.length = n) (hstk : stk = As.reverse ++ .ref (b + k) :: st) (hw : (st.map fun v => v.category).sum ≤ 8) (hroom : fr' + 1 ≤ fr ∧ 8 + (nL' + 11) + lo' ≤ lo) (h : ∀ (r : Int32) (σ' : qSt), qJ own cc nL fr lo vd G b K (pc + 3) L (.int r :: st) σ' (f r σ')) : qJ own cc nL fr lo vd G b K pc L stk σ (qb e1 f) := q_callV As hd hl hy hi hk hci hc hs hn hstk hw hroom h
theorem q_callSi (As : List Value) (hd : decode cc pc = .ok (.invokestatic index, 3)) (hl : Cond.methodLink own index y ∈ qtbl) (hy : qY y cc' nL' (some ty) n) (hi : Cond.static y ∈ qtbl) (hs : qS y cc' nL' (some ty) fr' lo' b K As σ e1) (hn : As.length = n) (hstk : stk = As.reverse ++ st) (hw : (st.map fun v => v.category).sum ≤ 8) (hroom : fr' + 1 ≤ fr ∧ 8 + (nL' + 11) + lo' ≤ lo) (h : ∀ (r : Int32) (σ' : qSt), qJ own cc nL fr lo vd G b K (pc + 3) L (.int r :: st) σ' (f r σ')) : qJ own cc nL fr lo vd G b K pc L stk σ (qb e1 f) := q_callS As hd hl hy hi hs hn hstk hw hroom h
theorem q_callSNi (As : List Value) (hd : decode cc pc = .ok (.invokestatic index, 3)) (hl : (own, index, y, "LineSearch") ∈ qnest) (hy : qY y cc' nL' (some ty) n) (hi : Cond.static y ∈ qtbl) (hs : qS y cc' nL' (some ty) fr' lo' b K As σ e1) (hn : As.length = n) (hstk : stk = As.reverse ++ st) (hw : (st.map fun v => v.category).sum ≤ 8) (hroom : fr' + 1 ≤ fr ∧ 8 + (nL' + 11) + lo' ≤ lo) (h : ∀ (r : Int32) (σ' : qSt), qJ own cc nL fr lo vd G b K (pc + 3) L (.int r :: st) σ' (f r σ')) : qJ own cc nL fr lo vd G b K pc L stk σ (qb e1 f) := q_callSN As hd hl hy hi hs hn hstk hw hroom h
theorem q_callVv {k ci N : Nat} {C : String} {T : u_T} (As : List Value) (hd : decode cc pc = .ok (.invokevirtual index, 3)) (hl : Cond.methodLink own index y ∈ qtbl) (hy : qY y cc' nL' none n) (hi : Cond.instanceMethod y ∈ qtbl ∧ Cond.selects C y y ∈ qtbl) (hk : qIn K k ci) (hci : ci < 5) (hc : qcl[ci]? = some (C, T, N)) (hs : qS y cc' nL' none fr' lo' b K (.ref (b + k) :: As) σ e1) (hn : As.length = n) (hstk : stk = As.reverse ++ .ref (b + k) :: st) (hw : (st.map fun v => v.category).sum ≤ 8) (hroom : fr' + 1 ≤ fr ∧ 8 + (nL' + 11) + lo' ≤ lo) (h : ∀ (r : Int32) (σ' : qSt), qJ own cc nL fr lo vd G b K (pc + 3) L (st) σ' (f r σ')) : qJ own cc nL fr lo vd G b K pc L stk σ (qb e1 f) := q_callV As hd hl hy hi hk hci hc hs hn hstk hw hroom h
theorem q_callSv (As : List Value) (hd : decode cc pc = .ok (.invokestatic index, 3)) (hl : Cond.methodLink own index y ∈ qtbl) (hy : qY y cc' nL' none n) (hi : Cond.static y ∈ qtbl) (hs : qS y cc' nL' none fr' lo' b K As σ e1) (hn : As.length = n) (hstk : stk = As.reverse ++ st) (hw : (st.map fun v => v.category).sum ≤ 8) (hroom : fr' + 1 ≤ fr ∧ 8 + (nL' + 11) + lo' ≤ lo) (h : ∀ (r : Int32) (σ' : qSt), qJ own cc nL fr lo vd G b K (pc + 3) L (st) σ' (f r σ')) : qJ own cc nL fr lo vd G b K pc L stk σ (qb e1 f) := q_callS As hd hl hy hi hs hn hstk hw hroom h
theorem q_callSNv (As : List Value) (hd : decode cc pc = .ok (.invokestatic index, 3)) (hl : (own, index, y, "LineSearch") ∈ qnest) (hy : qY y cc' nL' none n) (hi : Cond.static y ∈ qtbl) (hs : qS y cc' nL' none fr' lo' b K As σ e1) (hn : As.length = n) (hstk : stk = As.reverse ++ st) (hw : (st.map fun v => v.category).sum ≤ 8) (hroom : fr' + 1 ≤ fr ∧ 8 + (nL' + 11) + lo' ≤ lo) (h : ∀ (r : Int32) (σ' : qSt), qJ own cc nL fr lo vd G b K (pc + 3) L (st) σ' (f r σ')) : qJ own cc nL fr lo vd G b K pc L stk σ (qb e1 f) := q_callSN As hd hl hy hi hs hn hstk hw hroom h
end QC2
theorem qM_max1 : Cond.static Lib.Math.max.name ∈ qtbl := (qmem 292 (by decide +kernel) rfl)
theorem qM_max3 : Cond.code Lib.Math.max.name Lib.Math.max.code 2 (some .int) ∈ qtbl := (qmem 293 (by decide +kernel) rfl)
theorem qM_min1 : Cond.static Lib.Math.min.name ∈ qtbl := (qmem 344 (by decide +kernel) rfl)
theorem qM_min3 : Cond.code Lib.Math.min.name Lib.Math.min.code 2 (some .int) ∈ qtbl := (qmem 345 (by decide +kernel) rfl)
theorem qM_i : Cond.initialized "java/lang/Math" ∈ qtbl := (qmem 42 (by decide +kernel) rfl)
theorem yX3_putAll_ok : qY yX3_putAll cX3_putAll 3 none 2 := ⟨(qmem 63 (by decide +kernel) rfl), (qmem 37 (by decide +kernel) rfl), by decide +kernel, by decide +kernel, by decide +kernel⟩
theorem yX3_putAll_in : Cond.static yX3_putAll ∈ qtbl := (qmem 62 (by decide +kernel) rfl)
theorem yX0_lay_ok : qY yX0_lay cX0_lay 3 none 2 := ⟨(qmem 60 (by decide +kernel) rfl), (qmem 38 (by decide +kernel) rfl), by decide +kernel, by decide +kernel, by decide +kernel⟩
theorem yX0_lay_in : Cond.instanceMethod yX0_lay ∈ qtbl ∧ Cond.selects RX0 yX0_lay yX0_lay ∈ qtbl := ⟨(qmem 58 (by decide +kernel) rfl), (qmem 59 (by decide +kernel) rfl)⟩
theorem yX0_isOf_ok : qY yX0_isOf cX0_isOf 3 (some .boolean) 2 := ⟨(qmem 168 (by decide +kernel) rfl), (qmem 38 (by decide +kernel) rfl), by decide +kernel, by decide +kernel, by decide +kernel⟩
theorem yX0_isOf_in : Cond.instanceMethod yX0_isOf ∈ qtbl ∧ Cond.selects RX0 yX0_isOf yX0_isOf ∈ qtbl := ⟨(qmem 166 (by decide +kernel) rfl), (qmem 167 (by decide +kernel) rfl)⟩
theorem yX0_has_ok : qY yX0_has cX0_has 3 (some .boolean) 2 := ⟨(qmem 185 (by decide +kernel) rfl), (qmem 38 (by decide +kernel) rfl), by decide +kernel, by decide +kernel, by decide +kernel⟩
theorem yX0_has_in : Cond.instanceMethod yX0_has ∈ qtbl ∧ Cond.selects RX0 yX0_has yX0_has ∈ qtbl := ⟨(qmem 183 (by decide +kernel) rfl), (qmem 184 (by decide +kernel) rfl)⟩
theorem yX3_at_ok : qY yX3_at cX3_at 2 (some .int) 2 := ⟨(qmem 193 (by decide +kernel) rfl), (qmem 37 (by decide +kernel) rfl), by decide +kernel, by decide +kernel, by decide +kernel⟩
theorem yX3_at_in : Cond.static yX3_at ∈ qtbl := (qmem 192 (by decide +kernel) rfl)
theorem yX0_shareAt_ok : qY yX0_shareAt cX0_shareAt 3 (some .int) 2 := ⟨(qmem 189 (by decide +kernel) rfl), (qmem 38 (by decide +kernel) rfl), by decide +kernel, by decide +kernel, by decide +kernel⟩
theorem yX0_shareAt_in : Cond.instanceMethod yX0_shareAt ∈ qtbl ∧ Cond.selects RX0 yX0_shareAt yX0_shareAt ∈ qtbl := ⟨(qmem 187 (by decide +kernel) rfl), (qmem 188 (by decide +kernel) rfl)⟩
theorem yX3_put_ok : qY yX3_put cX3_put 3 none 3 := ⟨(qmem 200 (by decide +kernel) rfl), (qmem 37 (by decide +kernel) rfl), by decide +kernel, by decide +kernel, by decide +kernel⟩
theorem yX3_put_in : Cond.static yX3_put ∈ qtbl := (qmem 199 (by decide +kernel) rfl)
theorem yX0_setShare_ok : qY yX0_setShare cX0_setShare 4 none 3 := ⟨(qmem 197 (by decide +kernel) rfl), (qmem 38 (by decide +kernel) rfl), by decide +kernel, by decide +kernel, by decide +kernel⟩
theorem yX0_setShare_in : Cond.instanceMethod yX0_setShare ∈ qtbl ∧ Cond.selects RX0 yX0_setShare yX0_setShare ∈ qtbl := ⟨(qmem 195 (by decide +kernel) rfl), (qmem 196 (by decide +kernel) rfl)⟩
theorem yX0_allShares_ok : qY yX0_allShares cX0_allShares 4 (some .int) 0 := ⟨(qmem 439 (by decide +kernel) rfl), (qmem 38 (by decide +kernel) rfl), by decide +kernel, by decide +kernel, by decide +kernel⟩
theorem yX0_allShares_in : Cond.instanceMethod yX0_allShares ∈ qtbl ∧ Cond.selects RX0 yX0_allShares yX0_allShares ∈ qtbl := ⟨(qmem 437 (by decide +kernel) rfl), (qmem 438 (by decide +kernel) rfl)⟩
theorem yX0_sharedSteps_ok : qY yX0_sharedSteps cX0_sharedSteps 4 (some .int) 0 := ⟨(qmem 373 (by decide +kernel) rfl), (qmem 38 (by decide +kernel) rfl), by decide +kernel, by decide +kernel, by decide +kernel⟩
theorem yX0_sharedSteps_in : Cond.instanceMethod yX0_sharedSteps ∈ qtbl ∧ Cond.selects RX0 yX0_sharedSteps yX0_sharedSteps ∈ qtbl := ⟨(qmem 371 (by decide +kernel) rfl), (qmem 372 (by decide +kernel) rfl)⟩
theorem yX1_lengthOf_ok : qY yX1_lengthOf cX1_lengthOf 2 (some .int) 1 := ⟨(qmem 333 (by decide +kernel) rfl), (qmem 40 (by decide +kernel) rfl), by decide +kernel, by decide +kernel, by decide +kernel⟩
theorem yX1_lengthOf_in : Cond.instanceMethod yX1_lengthOf ∈ qtbl ∧ Cond.selects RX1 yX1_lengthOf yX1_lengthOf ∈ qtbl := ⟨(qmem 332 (by decide +kernel) rfl), (qmem 6 (by decide +kernel) rfl)⟩
theorem yX1_through_ok : qY yX1_through cX1_through 4 (some .int) 3 := ⟨(qmem 341 (by decide +kernel) rfl), (qmem 40 (by decide +kernel) rfl), by decide +kernel, by decide +kernel, by decide +kernel⟩
theorem yX1_through_in : Cond.instanceMethod yX1_through ∈ qtbl ∧ Cond.selects RX1 yX1_through yX1_through ∈ qtbl := ⟨(qmem 340 (by decide +kernel) rfl), (qmem 8 (by decide +kernel) rfl)⟩
theorem yX1_offer_ok : qY yX1_offer cX1_offer 6 none 4 := ⟨(qmem 351 (by decide +kernel) rfl), (qmem 40 (by decide +kernel) rfl), by decide +kernel, by decide +kernel, by decide +kernel⟩
theorem yX1_offer_in : Cond.instanceMethod yX1_offer ∈ qtbl ∧ Cond.selects RX1 yX1_offer yX1_offer ∈ qtbl := ⟨(qmem 350 (by decide +kernel) rfl), (qmem 9 (by decide +kernel) rfl)⟩
theorem yX1_settle_ok : qY yX1_settle cX1_settle 9 none 3 := ⟨(qmem 337 (by decide +kernel) rfl), (qmem 40 (by decide +kernel) rfl), by decide +kernel, by decide +kernel, by decide +kernel⟩
theorem yX1_settle_in : Cond.instanceMethod yX1_settle ∈ qtbl ∧ Cond.selects RX1 yX1_settle yX1_settle ∈ qtbl := ⟨(qmem 336 (by decide +kernel) rfl), (qmem 7 (by decide +kernel) rfl)⟩
theorem yX1_sweep_ok : qY yX1_sweep cX1_sweep 4 none 0 := ⟨(qmem 329 (by decide +kernel) rfl), (qmem 40 (by decide +kernel) rfl), by decide +kernel, by decide +kernel, by decide +kernel⟩
theorem yX1_sweep_in : Cond.instanceMethod yX1_sweep ∈ qtbl ∧ Cond.selects RX1 yX1_sweep yX1_sweep ∈ qtbl := ⟨(qmem 328 (by decide +kernel) rfl), (qmem 5 (by decide +kernel) rfl)⟩
theorem yX2_empty_ok : qY yX2_empty cX2_empty 1 none 0 := ⟨(qmem 173 (by decide +kernel) rfl), (qmem 39 (by decide +kernel) rfl), by decide +kernel, by decide +kernel, by decide +kernel⟩
theorem yX2_empty_in : Cond.instanceMethod yX2_empty ∈ qtbl ∧ Cond.selects RX2 yX2_empty yX2_empty ∈ qtbl := ⟨(qmem 171 (by decide +kernel) rfl), (qmem 172 (by decide +kernel) rfl)⟩
theorem yX1_costOf_ok : qY yX1_costOf cX1_costOf 5 (some .int) 2 := ⟨(qmem 364 (by decide +kernel) rfl), (qmem 40 (by decide +kernel) rfl), by decide +kernel, by decide +kernel, by decide +kernel⟩
theorem yX1_costOf_in : Cond.instanceMethod yX1_costOf ∈ qtbl ∧ Cond.selects RX1 yX1_costOf yX1_costOf ∈ qtbl := ⟨(qmem 363 (by decide +kernel) rfl), (qmem 12 (by decide +kernel) rfl)⟩
theorem yX1_stateAfter_ok : qY yX1_stateAfter cX1_stateAfter 5 (some .int) 2 := ⟨(qmem 368 (by decide +kernel) rfl), (qmem 40 (by decide +kernel) rfl), by decide +kernel, by decide +kernel, by decide +kernel⟩
theorem yX1_stateAfter_in : Cond.instanceMethod yX1_stateAfter ∈ qtbl ∧ Cond.selects RX1 yX1_stateAfter yX1_stateAfter ∈ qtbl := ⟨(qmem 367 (by decide +kernel) rfl), (qmem 13 (by decide +kernel) rfl)⟩
theorem yX1_firstTrip_ok : qY yX1_firstTrip cX1_firstTrip 5 (some .int) 1 := ⟨(qmem 360 (by decide +kernel) rfl), (qmem 40 (by decide +kernel) rfl), by decide +kernel, by decide +kernel, by decide +kernel⟩
theorem yX1_firstTrip_in : Cond.instanceMethod yX1_firstTrip ∈ qtbl ∧ Cond.selects RX1 yX1_firstTrip yX1_firstTrip ∈ qtbl := ⟨(qmem 359 (by decide +kernel) rfl), (qmem 11 (by decide +kernel) rfl)⟩
theorem yX2_add_ok : qY yX2_add cX2_add 3 (some .boolean) 2 := ⟨(qmem 212 (by decide +kernel) rfl), (qmem 39 (by decide +kernel) rfl), by decide +kernel, by decide +kernel, by decide +kernel⟩
theorem yX2_add_in : Cond.instanceMethod yX2_add ∈ qtbl ∧ Cond.selects RX2 yX2_add yX2_add ∈ qtbl := ⟨(qmem 210 (by decide +kernel) rfl), (qmem 211 (by decide +kernel) rfl)⟩
theorem yX1_write_ok : qY yX1_write cX1_write 8 none 2 := ⟨(qmem 355 (by decide +kernel) rfl), (qmem 40 (by decide +kernel) rfl), by decide +kernel, by decide +kernel, by decide +kernel⟩
theorem yX1_write_in : Cond.instanceMethod yX1_write ∈ qtbl ∧ Cond.selects RX1 yX1_write yX1_write ∈ qtbl := ⟨(qmem 354 (by decide +kernel) rfl), (qmem 10 (by decide +kernel) rfl)⟩
theorem yX1_planMean_ok : qY yX1_planMean cX1_planMean 6 (some .int) 2 := ⟨(qmem 321 (by decide +kernel) rfl), (qmem 40 (by decide +kernel) rfl), by decide +kernel, by decide +kernel, by decide +kernel⟩
theorem yX1_planMean_in : Cond.instanceMethod yX1_planMean ∈ qtbl ∧ Cond.selects RX1 yX1_planMean yX1_planMean ∈ qtbl := ⟨(qmem 319 (by decide +kernel) rfl), (qmem 320 (by decide +kernel) rfl)⟩
theorem yX1_capBy_ok : qY yX1_capBy cX1_capBy 3 none 1 := ⟨(qmem 397 (by decide +kernel) rfl), (qmem 40 (by decide +kernel) rfl), by decide +kernel, by decide +kernel, by decide +kernel⟩
theorem yX1_capBy_in : Cond.instanceMethod yX1_capBy ∈ qtbl ∧ Cond.selects RX1 yX1_capBy yX1_capBy ∈ qtbl := ⟨(qmem 396 (by decide +kernel) rfl), (qmem 15 (by decide +kernel) rfl)⟩
theorem yX1_planWorst_ok : qY yX1_planWorst cX1_planWorst 7 (some .int) 2 := ⟨(qmem 393 (by decide +kernel) rfl), (qmem 40 (by decide +kernel) rfl), by decide +kernel, by decide +kernel, by decide +kernel⟩
theorem yX1_planWorst_in : Cond.instanceMethod yX1_planWorst ∈ qtbl ∧ Cond.selects RX1 yX1_planWorst yX1_planWorst ∈ qtbl := ⟨(qmem 391 (by decide +kernel) rfl), (qmem 392 (by decide +kernel) rfl)⟩
theorem yX2_has_ok : qY yX2_has cX2_has 2 (some .boolean) 1 := ⟨(qmem 221 (by decide +kernel) rfl), (qmem 39 (by decide +kernel) rfl), by decide +kernel, by decide +kernel, by decide +kernel⟩
theorem yX2_has_in : Cond.instanceMethod yX2_has ∈ qtbl ∧ Cond.selects RX2 yX2_has yX2_has ∈ qtbl := ⟨(qmem 219 (by decide +kernel) rfl), (qmem 220 (by decide +kernel) rfl)⟩
theorem yX2_rayOf_ok : qY yX2_rayOf cX2_rayOf 2 (some .int) 1 := ⟨(qmem 225 (by decide +kernel) rfl), (qmem 39 (by decide +kernel) rfl), by decide +kernel, by decide +kernel, by decide +kernel⟩
theorem yX2_rayOf_in : Cond.instanceMethod yX2_rayOf ∈ qtbl ∧ Cond.selects RX2 yX2_rayOf yX2_rayOf ∈ qtbl := ⟨(qmem 223 (by decide +kernel) rfl), (qmem 224 (by decide +kernel) rfl)⟩
theorem yX2_stepsOf_ok : qY yX2_stepsOf cX2_stepsOf 2 (some .int) 1 := ⟨(qmem 231 (by decide +kernel) rfl), (qmem 39 (by decide +kernel) rfl), by decide +kernel, by decide +kernel, by decide +kernel⟩
theorem yX2_stepsOf_in : Cond.instanceMethod yX2_stepsOf ∈ qtbl ∧ Cond.selects RX2 yX2_stepsOf yX2_stepsOf ∈ qtbl := ⟨(qmem 229 (by decide +kernel) rfl), (qmem 230 (by decide +kernel) rfl)⟩
theorem yX2_removeLast_ok : qY yX2_removeLast cX2_removeLast 1 (some .boolean) 0 := ⟨(qmem 251 (by decide +kernel) rfl), (qmem 39 (by decide +kernel) rfl), by decide +kernel, by decide +kernel, by decide +kernel⟩
theorem yX2_removeLast_in : Cond.instanceMethod yX2_removeLast ∈ qtbl ∧ Cond.selects RX2 yX2_removeLast yX2_removeLast ∈ qtbl := ⟨(qmem 249 (by decide +kernel) rfl), (qmem 250 (by decide +kernel) rfl)⟩
theorem yX2_copy_ok : qY yX2_copy cX2_copy 3 none 1 := ⟨(qmem 417 (by decide +kernel) rfl), (qmem 39 (by decide +kernel) rfl), by decide +kernel, by decide +kernel, by decide +kernel⟩
theorem yX2_copy_in : Cond.instanceMethod yX2_copy ∈ qtbl ∧ Cond.selects RX2 yX2_copy yX2_copy ∈ qtbl := ⟨(qmem 415 (by decide +kernel) rfl), (qmem 416 (by decide +kernel) rfl)⟩
theorem yX2_isFor_ok : qY yX2_isFor cX2_isFor 2 (some .boolean) 2 := ⟨(qmem 238 (by decide +kernel) rfl), (qmem 39 (by decide +kernel) rfl), by decide +kernel, by decide +kernel, by decide +kernel⟩
theorem yX2_isFor_in : Cond.static yX2_isFor ∈ qtbl := (qmem 237 (by decide +kernel) rfl)
theorem yX2_firstTo_ok : qY yX2_firstTo cX2_firstTo 5 (some .int) 3 := ⟨(qmem 267 (by decide +kernel) rfl), (qmem 39 (by decide +kernel) rfl), by decide +kernel, by decide +kernel, by decide +kernel⟩
theorem yX2_firstTo_in : Cond.instanceMethod yX2_firstTo ∈ qtbl ∧ Cond.selects RX2 yX2_firstTo yX2_firstTo ∈ qtbl := ⟨(qmem 265 (by decide +kernel) rfl), (qmem 266 (by decide +kernel) rfl)⟩
theorem yX2_stepsAhead_ok : qY yX2_stepsAhead cX2_stepsAhead 5 (some .int) 2 := ⟨(qmem 235 (by decide +kernel) rfl), (qmem 39 (by decide +kernel) rfl), by decide +kernel, by decide +kernel, by decide +kernel⟩
theorem yX2_stepsAhead_in : Cond.instanceMethod yX2_stepsAhead ∈ qtbl ∧ Cond.selects RX2 yX2_stepsAhead yX2_stepsAhead ∈ qtbl := ⟨(qmem 233 (by decide +kernel) rfl), (qmem 234 (by decide +kernel) rfl)⟩
theorem yX2_farthest_ok : qY yX2_farthest cX2_farthest 5 (some .int) 2 := ⟨(qmem 290 (by decide +kernel) rfl), (qmem 39 (by decide +kernel) rfl), by decide +kernel, by decide +kernel, by decide +kernel⟩
theorem yX2_farthest_in : Cond.instanceMethod yX2_farthest ∈ qtbl ∧ Cond.selects RX2 yX2_farthest yX2_farthest ∈ qtbl := ⟨(qmem 288 (by decide +kernel) rfl), (qmem 289 (by decide +kernel) rfl)⟩
theorem yX3_rays_ok : qY yX3_rays cX3_rays 3 (some .int) 2 := ⟨(qmem 164 (by decide +kernel) rfl), (qmem 37 (by decide +kernel) rfl), by decide +kernel, by decide +kernel, by decide +kernel⟩
theorem yX3_rays_in : Cond.instanceMethod yX3_rays ∈ qtbl ∧ Cond.selects RX3 yX3_rays yX3_rays ∈ qtbl := ⟨(qmem 162 (by decide +kernel) rfl), (qmem 163 (by decide +kernel) rfl)⟩
theorem yX3_costs_ok : qY yX3_costs cX3_costs 3 (some .int) 2 := ⟨(qmem 177 (by decide +kernel) rfl), (qmem 37 (by decide +kernel) rfl), by decide +kernel, by decide +kernel, by decide +kernel⟩
theorem yX3_costs_in : Cond.instanceMethod yX3_costs ∈ qtbl ∧ Cond.selects RX3 yX3_costs yX3_costs ∈ qtbl := ⟨(qmem 175 (by decide +kernel) rfl), (qmem 176 (by decide +kernel) rfl)⟩
theorem yX3_share_ok : qY yX3_share cX3_share 5 (some .int) 3 := ⟨(qmem 181 (by decide +kernel) rfl), (qmem 37 (by decide +kernel) rfl), by decide +kernel, by decide +kernel, by decide +kernel⟩
theorem yX3_share_in : Cond.instanceMethod yX3_share ∈ qtbl ∧ Cond.selects RX3 yX3_share yX3_share ∈ qtbl := ⟨(qmem 179 (by decide +kernel) rfl), (qmem 180 (by decide +kernel) rfl)⟩
theorem yX3_shareOf_ok : qY yX3_shareOf cX3_shareOf 3 (some .int) 2 := ⟨(qmem 204 (by decide +kernel) rfl), (qmem 37 (by decide +kernel) rfl), by decide +kernel, by decide +kernel, by decide +kernel⟩
theorem yX3_shareOf_in : Cond.instanceMethod yX3_shareOf ∈ qtbl ∧ Cond.selects RX3 yX3_shareOf yX3_shareOf ∈ qtbl := ⟨(qmem 202 (by decide +kernel) rfl), (qmem 203 (by decide +kernel) rfl)⟩
theorem yX3_trip_ok : qY yX3_trip cX3_trip 4 (some .int) 2 := ⟨(qmem 208 (by decide +kernel) rfl), (qmem 37 (by decide +kernel) rfl), by decide +kernel, by decide +kernel, by decide +kernel⟩
theorem yX3_trip_in : Cond.instanceMethod yX3_trip ∈ qtbl ∧ Cond.selects RX3 yX3_trip yX3_trip ∈ qtbl := ⟨(qmem 206 (by decide +kernel) rfl), (qmem 207 (by decide +kernel) rfl)⟩
theorem yX3_wholeTrips_ok : qY yX3_wholeTrips cX3_wholeTrips 2 (some .int) 1 := ⟨(qmem 243 (by decide +kernel) rfl), (qmem 37 (by decide +kernel) rfl), by decide +kernel, by decide +kernel, by decide +kernel⟩
theorem yX3_wholeTrips_in : Cond.instanceMethod yX3_wholeTrips ∈ qtbl ∧ Cond.selects RX3 yX3_wholeTrips yX3_wholeTrips ∈ qtbl := ⟨(qmem 242 (by decide +kernel) rfl), (qmem 0 (by decide +kernel) rfl)⟩
theorem yX3_tripOf_ok : qY yX3_tripOf cX3_tripOf 3 (some .int) 2 := ⟨(qmem 217 (by decide +kernel) rfl), (qmem 37 (by decide +kernel) rfl), by decide +kernel, by decide +kernel, by decide +kernel⟩
theorem yX3_tripOf_in : Cond.instanceMethod yX3_tripOf ∈ qtbl ∧ Cond.selects RX3 yX3_tripOf yX3_tripOf ∈ qtbl := ⟨(qmem 215 (by decide +kernel) rfl), (qmem 216 (by decide +kernel) rfl)⟩
theorem yX3_drop_ok : qY yX3_drop cX3_drop 1 (some .int) 0 := ⟨(qmem 247 (by decide +kernel) rfl), (qmem 37 (by decide +kernel) rfl), by decide +kernel, by decide +kernel, by decide +kernel⟩
theorem yX3_drop_in : Cond.instanceMethod yX3_drop ∈ qtbl ∧ Cond.selects RX3 yX3_drop yX3_drop ∈ qtbl := ⟨(qmem 245 (by decide +kernel) rfl), (qmem 246 (by decide +kernel) rfl)⟩
theorem yX3_clear_ok : qY yX3_clear cX3_clear 2 (some .int) 0 := ⟨(qmem 255 (by decide +kernel) rfl), (qmem 37 (by decide +kernel) rfl), by decide +kernel, by decide +kernel, by decide +kernel⟩
theorem yX3_clear_in : Cond.instanceMethod yX3_clear ∈ qtbl ∧ Cond.selects RX3 yX3_clear yX3_clear ∈ qtbl := ⟨(qmem 253 (by decide +kernel) rfl), (qmem 254 (by decide +kernel) rfl)⟩
theorem yX3_wayTo_ok : qY yX3_wayTo cX3_wayTo 4 (some .int) 2 := ⟨(qmem 263 (by decide +kernel) rfl), (qmem 37 (by decide +kernel) rfl), by decide +kernel, by decide +kernel, by decide +kernel⟩
theorem yX3_wayTo_in : Cond.instanceMethod yX3_wayTo ∈ qtbl ∧ Cond.selects RX3 yX3_wayTo yX3_wayTo ∈ qtbl := ⟨(qmem 262 (by decide +kernel) rfl), (qmem 1 (by decide +kernel) rfl)⟩
theorem yX3_way_ok : qY yX3_way cX3_way 3 (some .int) 2 := ⟨(qmem 259 (by decide +kernel) rfl), (qmem 37 (by decide +kernel) rfl), by decide +kernel, by decide +kernel, by decide +kernel⟩
theorem yX3_way_in : Cond.instanceMethod yX3_way ∈ qtbl ∧ Cond.selects RX3 yX3_way yX3_way ∈ qtbl := ⟨(qmem 257 (by decide +kernel) rfl), (qmem 258 (by decide +kernel) rfl)⟩
theorem yX3_commonDivisor_ok : qY yX3_commonDivisor cX3_commonDivisor 6 (some .int) 2 := ⟨(qmem 278 (by decide +kernel) rfl), (qmem 37 (by decide +kernel) rfl), by decide +kernel, by decide +kernel, by decide +kernel⟩
theorem yX3_commonDivisor_in : Cond.static yX3_commonDivisor ∈ qtbl := (qmem 277 (by decide +kernel) rfl)
theorem yX3_lowest_ok : qY yX3_lowest cX3_lowest 4 (some .int) 3 := ⟨(qmem 275 (by decide +kernel) rfl), (qmem 37 (by decide +kernel) rfl), by decide +kernel, by decide +kernel, by decide +kernel⟩
theorem yX3_lowest_in : Cond.static yX3_lowest ∈ qtbl := (qmem 274 (by decide +kernel) rfl)
theorem yX3_late_ok : qY yX3_late cX3_late 5 (some .int) 3 := ⟨(qmem 272 (by decide +kernel) rfl), (qmem 37 (by decide +kernel) rfl), by decide +kernel, by decide +kernel, by decide +kernel⟩
theorem yX3_late_in : Cond.instanceMethod yX3_late ∈ qtbl ∧ Cond.selects RX3 yX3_late yX3_late ∈ qtbl := ⟨(qmem 270 (by decide +kernel) rfl), (qmem 271 (by decide +kernel) rfl)⟩
theorem yX3_countMissed_ok : qY yX3_countMissed cX3_countMissed 3 (some .int) 0 := ⟨(qmem 286 (by decide +kernel) rfl), (qmem 37 (by decide +kernel) rfl), by decide +kernel, by decide +kernel, by decide +kernel⟩
theorem yX3_countMissed_in : Cond.instanceMethod yX3_countMissed ∈ qtbl ∧ Cond.selects RX3 yX3_countMissed yX3_countMissed ∈ qtbl := ⟨(qmem 285 (by decide +kernel) rfl), (qmem 2 (by decide +kernel) rfl)⟩
theorem yX3_worstPlace_ok : qY yX3_worstPlace cX3_worstPlace 7 (some .int) 0 := ⟨(qmem 297 (by decide +kernel) rfl), (qmem 37 (by decide +kernel) rfl), by decide +kernel, by decide +kernel, by decide +kernel⟩
theorem yX3_worstPlace_in : Cond.instanceMethod yX3_worstPlace ∈ qtbl ∧ Cond.selects RX3 yX3_worstPlace yX3_worstPlace ∈ qtbl := ⟨(qmem 296 (by decide +kernel) rfl), (qmem 3 (by decide +kernel) rfl)⟩
theorem yX3_worst_ok : qY yX3_worst cX3_worst 5 (some .int) 1 := ⟨(qmem 282 (by decide +kernel) rfl), (qmem 37 (by decide +kernel) rfl), by decide +kernel, by decide +kernel, by decide +kernel⟩
theorem yX3_worst_in : Cond.instanceMethod yX3_worst ∈ qtbl ∧ Cond.selects RX3 yX3_worst yX3_worst ∈ qtbl := ⟨(qmem 280 (by decide +kernel) rfl), (qmem 281 (by decide +kernel) rfl)⟩
theorem yX3_mean_ok : qY yX3_mean cX3_mean 4 (some .int) 0 := ⟨(qmem 301 (by decide +kernel) rfl), (qmem 37 (by decide +kernel) rfl), by decide +kernel, by decide +kernel, by decide +kernel⟩
theorem yX3_mean_in : Cond.instanceMethod yX3_mean ∈ qtbl ∧ Cond.selects RX3 yX3_mean yX3_mean ∈ qtbl := ⟨(qmem 299 (by decide +kernel) rfl), (qmem 300 (by decide +kernel) rfl)⟩
theorem yX3_missed_ok : qY yX3_missed cX3_missed 5 (some .int) 1 := ⟨(qmem 305 (by decide +kernel) rfl), (qmem 37 (by decide +kernel) rfl), by decide +kernel, by decide +kernel, by decide +kernel⟩
theorem yX3_missed_in : Cond.instanceMethod yX3_missed ∈ qtbl ∧ Cond.selects RX3 yX3_missed yX3_missed ∈ qtbl := ⟨(qmem 303 (by decide +kernel) rfl), (qmem 304 (by decide +kernel) rfl)⟩
theorem yX3_finds_ok : qY yX3_finds cX3_finds 4 (some .int) 1 := ⟨(qmem 309 (by decide +kernel) rfl), (qmem 37 (by decide +kernel) rfl), by decide +kernel, by decide +kernel, by decide +kernel⟩
theorem yX3_finds_in : Cond.instanceMethod yX3_finds ∈ qtbl ∧ Cond.selects RX3 yX3_finds yX3_finds ∈ qtbl := ⟨(qmem 307 (by decide +kernel) rfl), (qmem 308 (by decide +kernel) rfl)⟩
theorem yX3_findMean_ok : qY yX3_findMean cX3_findMean 1 none 0 := ⟨(qmem 317 (by decide +kernel) rfl), (qmem 37 (by decide +kernel) rfl), by decide +kernel, by decide +kernel, by decide +kernel⟩
theorem yX3_findMean_in : Cond.instanceMethod yX3_findMean ∈ qtbl ∧ Cond.selects RX3 yX3_findMean yX3_findMean ∈ qtbl := ⟨(qmem 316 (by decide +kernel) rfl), (qmem 4 (by decide +kernel) rfl)⟩
theorem yX3_leastMean_ok : qY yX3_leastMean cX3_leastMean 1 (some .int) 0 := ⟨(qmem 313 (by decide +kernel) rfl), (qmem 37 (by decide +kernel) rfl), by decide +kernel, by decide +kernel, by decide +kernel⟩
theorem yX3_leastMean_in : Cond.instanceMethod yX3_leastMean ∈ qtbl ∧ Cond.selects RX3 yX3_leastMean yX3_leastMean ∈ qtbl := ⟨(qmem 311 (by decide +kernel) rfl), (qmem 312 (by decide +kernel) rfl)⟩
theorem yX3_placeOf_ok : qY yX3_placeOf cX3_placeOf 2 (some .int) 2 := ⟨(qmem 381 (by decide +kernel) rfl), (qmem 37 (by decide +kernel) rfl), by decide +kernel, by decide +kernel, by decide +kernel⟩
theorem yX3_placeOf_in : Cond.static yX3_placeOf ∈ qtbl := (qmem 380 (by decide +kernel) rfl)
theorem yX3_meanTrip_ok : qY yX3_meanTrip cX3_meanTrip 2 (some .int) 1 := ⟨(qmem 378 (by decide +kernel) rfl), (qmem 37 (by decide +kernel) rfl), by decide +kernel, by decide +kernel, by decide +kernel⟩
theorem yX3_meanTrip_in : Cond.instanceMethod yX3_meanTrip ∈ qtbl ∧ Cond.selects RX3 yX3_meanTrip yX3_meanTrip ∈ qtbl := ⟨(qmem 376 (by decide +kernel) rfl), (qmem 377 (by decide +kernel) rfl)⟩
theorem yX3_findWorst_ok : qY yX3_findWorst cX3_findWorst 1 none 0 := ⟨(qmem 389 (by decide +kernel) rfl), (qmem 37 (by decide +kernel) rfl), by decide +kernel, by decide +kernel, by decide +kernel⟩
theorem yX3_findWorst_in : Cond.instanceMethod yX3_findWorst ∈ qtbl ∧ Cond.selects RX3 yX3_findWorst yX3_findWorst ∈ qtbl := ⟨(qmem 388 (by decide +kernel) rfl), (qmem 14 (by decide +kernel) rfl)⟩
theorem yX3_worstUpper_ok : qY yX3_worstUpper cX3_worstUpper 1 (some .int) 0 := ⟨(qmem 401 (by decide +kernel) rfl), (qmem 37 (by decide +kernel) rfl), by decide +kernel, by decide +kernel, by decide +kernel⟩
theorem yX3_worstUpper_in : Cond.instanceMethod yX3_worstUpper ∈ qtbl ∧ Cond.selects RX3 yX3_worstUpper yX3_worstUpper ∈ qtbl := ⟨(qmem 400 (by decide +kernel) rfl), (qmem 16 (by decide +kernel) rfl)⟩
theorem yX3_leastWorst_ok : qY yX3_leastWorst cX3_leastWorst 2 (some .int) 1 := ⟨(qmem 385 (by decide +kernel) rfl), (qmem 37 (by decide +kernel) rfl), by decide +kernel, by decide +kernel, by decide +kernel⟩
theorem yX3_leastWorst_in : Cond.instanceMethod yX3_leastWorst ∈ qtbl ∧ Cond.selects RX3 yX3_leastWorst yX3_leastWorst ∈ qtbl := ⟨(qmem 383 (by decide +kernel) rfl), (qmem 384 (by decide +kernel) rfl)⟩
theorem yX3_worstTrip_ok : qY yX3_worstTrip cX3_worstTrip 2 (some .int) 1 := ⟨(qmem 405 (by decide +kernel) rfl), (qmem 37 (by decide +kernel) rfl), by decide +kernel, by decide +kernel, by decide +kernel⟩
theorem yX3_worstTrip_in : Cond.instanceMethod yX3_worstTrip ∈ qtbl ∧ Cond.selects RX3 yX3_worstTrip yX3_worstTrip ∈ qtbl := ⟨(qmem 403 (by decide +kernel) rfl), (qmem 404 (by decide +kernel) rfl)⟩
theorem yX3_within_ok : qY yX3_within cX3_within 3 (some .int) 2 := ⟨(qmem 409 (by decide +kernel) rfl), (qmem 37 (by decide +kernel) rfl), by decide +kernel, by decide +kernel, by decide +kernel⟩
theorem yX3_within_in : Cond.instanceMethod yX3_within ∈ qtbl ∧ Cond.selects RX3 yX3_within yX3_within ∈ qtbl := ⟨(qmem 407 (by decide +kernel) rfl), (qmem 408 (by decide +kernel) rfl)⟩
theorem yX3_take_ok : qY yX3_take cX3_take 2 (some .int) 1 := ⟨(qmem 413 (by decide +kernel) rfl), (qmem 37 (by decide +kernel) rfl), by decide +kernel, by decide +kernel, by decide +kernel⟩
theorem yX3_take_in : Cond.instanceMethod yX3_take ∈ qtbl ∧ Cond.selects RX3 yX3_take yX3_take ∈ qtbl := ⟨(qmem 411 (by decide +kernel) rfl), (qmem 412 (by decide +kernel) rfl)⟩
theorem yX3_tripThatMeets_ok : qY yX3_tripThatMeets cX3_tripThatMeets 5 (some .int) 2 := ⟨(qmem 426 (by decide +kernel) rfl), (qmem 37 (by decide +kernel) rfl), by decide +kernel, by decide +kernel, by decide +kernel⟩
theorem yX3_tripThatMeets_in : Cond.instanceMethod yX3_tripThatMeets ∈ qtbl ∧ Cond.selects RX3 yX3_tripThatMeets yX3_tripThatMeets ∈ qtbl := ⟨(qmem 425 (by decide +kernel) rfl), (qmem 17 (by decide +kernel) rfl)⟩
theorem yX3_both_ok : qY yX3_both cX3_both 8 (some .int) 3 := ⟨(qmem 422 (by decide +kernel) rfl), (qmem 37 (by decide +kernel) rfl), by decide +kernel, by decide +kernel, by decide +kernel⟩
theorem yX3_both_in : Cond.instanceMethod yX3_both ∈ qtbl ∧ Cond.selects RX3 yX3_both yX3_both ∈ qtbl := ⟨(qmem 420 (by decide +kernel) rfl), (qmem 421 (by decide +kernel) rfl)⟩
theorem yX3_end_ok : qY yX3_end cX3_end 2 (some .int) 0 := ⟨(qmem 430 (by decide +kernel) rfl), (qmem 37 (by decide +kernel) rfl), by decide +kernel, by decide +kernel, by decide +kernel⟩
theorem yX3_end_in : Cond.instanceMethod yX3_end ∈ qtbl ∧ Cond.selects RX3 yX3_end yX3_end ∈ qtbl := ⟨(qmem 428 (by decide +kernel) rfl), (qmem 429 (by decide +kernel) rfl)⟩
theorem yX3_told_ok : qY yX3_told cX3_told 2 (some .int) 1 := ⟨(qmem 435 (by decide +kernel) rfl), (qmem 37 (by decide +kernel) rfl), by decide +kernel, by decide +kernel, by decide +kernel⟩
theorem yX3_told_in : Cond.instanceMethod yX3_told ∈ qtbl ∧ Cond.selects RX3 yX3_told yX3_told ∈ qtbl := ⟨(qmem 433 (by decide +kernel) rfl), (qmem 434 (by decide +kernel) rfl)⟩
theorem yX4_in_ok : qY yX4_in cX4_in 3 (some .boolean) 3 := ⟨(qmem 502 (by decide +kernel) rfl), (qmem 41 (by decide +kernel) rfl), by decide +kernel, by decide +kernel, by decide +kernel⟩
theorem yX4_in_in : Cond.static yX4_in ∈ qtbl := (qmem 501 (by decide +kernel) rfl)
theorem yX4_begin_ok : qY yX4_begin cX4_begin 2 none 0 := ⟨(qmem 449 (by decide +kernel) rfl), (qmem 41 (by decide +kernel) rfl), by decide +kernel, by decide +kernel, by decide +kernel⟩
theorem yX4_begin_in : Cond.instanceMethod yX4_begin ∈ qtbl ∧ Cond.selects RX4 yX4_begin yX4_begin ∈ qtbl := ⟨(qmem 448 (by decide +kernel) rfl), (qmem 18 (by decide +kernel) rfl)⟩
theorem yX4_isPlace_ok : qY yX4_isPlace cX4_isPlace 3 (some .boolean) 2 := ⟨(qmem 514 (by decide +kernel) rfl), (qmem 41 (by decide +kernel) rfl), by decide +kernel, by decide +kernel, by decide +kernel⟩
theorem yX4_isPlace_in : Cond.instanceMethod yX4_isPlace ∈ qtbl ∧ Cond.selects RX4 yX4_isPlace yX4_isPlace ∈ qtbl := ⟨(qmem 513 (by decide +kernel) rfl), (qmem 19 (by decide +kernel) rfl)⟩
theorem yX4_rays_ok : qY yX4_rays cX4_rays 3 (some .int) 2 := ⟨(qmem 499 (by decide +kernel) rfl), (qmem 41 (by decide +kernel) rfl), by decide +kernel, by decide +kernel, by decide +kernel⟩
theorem yX4_rays_in : Cond.instanceMethod yX4_rays ∈ qtbl ∧ Cond.selects RX4 yX4_rays yX4_rays ∈ qtbl := ⟨(qmem 497 (by decide +kernel) rfl), (qmem 498 (by decide +kernel) rfl)⟩
theorem yX4_costs_ok : qY yX4_costs cX4_costs 3 (some .int) 2 := ⟨(qmem 506 (by decide +kernel) rfl), (qmem 41 (by decide +kernel) rfl), by decide +kernel, by decide +kernel, by decide +kernel⟩
theorem yX4_costs_in : Cond.instanceMethod yX4_costs ∈ qtbl ∧ Cond.selects RX4 yX4_costs yX4_costs ∈ qtbl := ⟨(qmem 504 (by decide +kernel) rfl), (qmem 505 (by decide +kernel) rfl)⟩
theorem yX4_share_ok : qY yX4_share cX4_share 5 (some .int) 3 := ⟨(qmem 510 (by decide +kernel) rfl), (qmem 41 (by decide +kernel) rfl), by decide +kernel, by decide +kernel, by decide +kernel⟩
theorem yX4_share_in : Cond.instanceMethod yX4_share ∈ qtbl ∧ Cond.selects RX4 yX4_share yX4_share ∈ qtbl := ⟨(qmem 508 (by decide +kernel) rfl), (qmem 509 (by decide +kernel) rfl)⟩
theorem yX4_shareOf_ok : qY yX4_shareOf cX4_shareOf 3 (some .int) 2 := ⟨(qmem 518 (by decide +kernel) rfl), (qmem 41 (by decide +kernel) rfl), by decide +kernel, by decide +kernel, by decide +kernel⟩
theorem yX4_shareOf_in : Cond.instanceMethod yX4_shareOf ∈ qtbl ∧ Cond.selects RX4 yX4_shareOf yX4_shareOf ∈ qtbl := ⟨(qmem 516 (by decide +kernel) rfl), (qmem 517 (by decide +kernel) rfl)⟩
theorem yX4_trip_ok : qY yX4_trip cX4_trip 3 (some .int) 2 := ⟨(qmem 522 (by decide +kernel) rfl), (qmem 41 (by decide +kernel) rfl), by decide +kernel, by decide +kernel, by decide +kernel⟩
theorem yX4_trip_in : Cond.instanceMethod yX4_trip ∈ qtbl ∧ Cond.selects RX4 yX4_trip yX4_trip ∈ qtbl := ⟨(qmem 520 (by decide +kernel) rfl), (qmem 521 (by decide +kernel) rfl)⟩
theorem yX4_costAhead_ok : qY yX4_costAhead cX4_costAhead 4 (some .int) 1 := ⟨(qmem 530 (by decide +kernel) rfl), (qmem 41 (by decide +kernel) rfl), by decide +kernel, by decide +kernel, by decide +kernel⟩
theorem yX4_costAhead_in : Cond.instanceMethod yX4_costAhead ∈ qtbl ∧ Cond.selects RX4 yX4_costAhead yX4_costAhead ∈ qtbl := ⟨(qmem 529 (by decide +kernel) rfl), (qmem 20 (by decide +kernel) rfl)⟩
theorem yX4_tripOf_ok : qY yX4_tripOf cX4_tripOf 3 (some .int) 2 := ⟨(qmem 526 (by decide +kernel) rfl), (qmem 41 (by decide +kernel) rfl), by decide +kernel, by decide +kernel, by decide +kernel⟩
theorem yX4_tripOf_in : Cond.instanceMethod yX4_tripOf ∈ qtbl ∧ Cond.selects RX4 yX4_tripOf yX4_tripOf ∈ qtbl := ⟨(qmem 524 (by decide +kernel) rfl), (qmem 525 (by decide +kernel) rfl)⟩
theorem yX4_drop_ok : qY yX4_drop cX4_drop 1 (some .int) 0 := ⟨(qmem 534 (by decide +kernel) rfl), (qmem 41 (by decide +kernel) rfl), by decide +kernel, by decide +kernel, by decide +kernel⟩
theorem yX4_drop_in : Cond.instanceMethod yX4_drop ∈ qtbl ∧ Cond.selects RX4 yX4_drop yX4_drop ∈ qtbl := ⟨(qmem 532 (by decide +kernel) rfl), (qmem 533 (by decide +kernel) rfl)⟩
theorem yX4_clear_ok : qY yX4_clear cX4_clear 2 (some .int) 0 := ⟨(qmem 538 (by decide +kernel) rfl), (qmem 41 (by decide +kernel) rfl), by decide +kernel, by decide +kernel, by decide +kernel⟩
theorem yX4_clear_in : Cond.instanceMethod yX4_clear ∈ qtbl ∧ Cond.selects RX4 yX4_clear yX4_clear ∈ qtbl := ⟨(qmem 536 (by decide +kernel) rfl), (qmem 537 (by decide +kernel) rfl)⟩
theorem yX4_comes_ok : qY yX4_comes cX4_comes 4 (some .int) 2 := ⟨(qmem 550 (by decide +kernel) rfl), (qmem 41 (by decide +kernel) rfl), by decide +kernel, by decide +kernel, by decide +kernel⟩
theorem yX4_comes_in : Cond.instanceMethod yX4_comes ∈ qtbl ∧ Cond.selects RX4 yX4_comes yX4_comes ∈ qtbl := ⟨(qmem 549 (by decide +kernel) rfl), (qmem 22 (by decide +kernel) rfl)⟩
theorem yX4_wayOf_ok : qY yX4_wayOf cX4_wayOf 4 (some .int) 2 := ⟨(qmem 546 (by decide +kernel) rfl), (qmem 41 (by decide +kernel) rfl), by decide +kernel, by decide +kernel, by decide +kernel⟩
theorem yX4_wayOf_in : Cond.instanceMethod yX4_wayOf ∈ qtbl ∧ Cond.selects RX4 yX4_wayOf yX4_wayOf ∈ qtbl := ⟨(qmem 545 (by decide +kernel) rfl), (qmem 21 (by decide +kernel) rfl)⟩
theorem yX4_way_ok : qY yX4_way cX4_way 3 (some .int) 2 := ⟨(qmem 542 (by decide +kernel) rfl), (qmem 41 (by decide +kernel) rfl), by decide +kernel, by decide +kernel, by decide +kernel⟩
theorem yX4_way_in : Cond.instanceMethod yX4_way ∈ qtbl ∧ Cond.selects RX4 yX4_way yX4_way ∈ qtbl := ⟨(qmem 540 (by decide +kernel) rfl), (qmem 541 (by decide +kernel) rfl)⟩
theorem yX4_common_ok : qY yX4_common cX4_common 5 (some .int) 2 := ⟨(qmem 560 (by decide +kernel) rfl), (qmem 41 (by decide +kernel) rfl), by decide +kernel, by decide +kernel, by decide +kernel⟩
theorem yX4_common_in : Cond.static yX4_common ∈ qtbl := (qmem 559 (by decide +kernel) rfl)
theorem yX4_term_ok : qY yX4_term cX4_term 3 (some .int) 3 := ⟨(qmem 557 (by decide +kernel) rfl), (qmem 41 (by decide +kernel) rfl), by decide +kernel, by decide +kernel, by decide +kernel⟩
theorem yX4_term_in : Cond.static yX4_term ∈ qtbl := (qmem 556 (by decide +kernel) rfl)
theorem yX4_late_ok : qY yX4_late cX4_late 5 (some .int) 3 := ⟨(qmem 554 (by decide +kernel) rfl), (qmem 41 (by decide +kernel) rfl), by decide +kernel, by decide +kernel, by decide +kernel⟩
theorem yX4_late_in : Cond.instanceMethod yX4_late ∈ qtbl ∧ Cond.selects RX4 yX4_late yX4_late ∈ qtbl := ⟨(qmem 552 (by decide +kernel) rfl), (qmem 553 (by decide +kernel) rfl)⟩
theorem yX4_missedAt_ok : qY yX4_missedAt cX4_missedAt 5 (some .int) 1 := ⟨(qmem 568 (by decide +kernel) rfl), (qmem 41 (by decide +kernel) rfl), by decide +kernel, by decide +kernel, by decide +kernel⟩
theorem yX4_missedAt_in : Cond.instanceMethod yX4_missedAt ∈ qtbl ∧ Cond.selects RX4 yX4_missedAt yX4_missedAt ∈ qtbl := ⟨(qmem 567 (by decide +kernel) rfl), (qmem 23 (by decide +kernel) rfl)⟩
theorem yX4_worst_ok : qY yX4_worst cX4_worst 6 (some .int) 1 := ⟨(qmem 564 (by decide +kernel) rfl), (qmem 41 (by decide +kernel) rfl), by decide +kernel, by decide +kernel, by decide +kernel⟩
theorem yX4_worst_in : Cond.instanceMethod yX4_worst ∈ qtbl ∧ Cond.selects RX4 yX4_worst yX4_worst ∈ qtbl := ⟨(qmem 562 (by decide +kernel) rfl), (qmem 563 (by decide +kernel) rfl)⟩
theorem yX4_mean_ok : qY yX4_mean cX4_mean 4 (some .int) 0 := ⟨(qmem 572 (by decide +kernel) rfl), (qmem 41 (by decide +kernel) rfl), by decide +kernel, by decide +kernel, by decide +kernel⟩
theorem yX4_mean_in : Cond.instanceMethod yX4_mean ∈ qtbl ∧ Cond.selects RX4 yX4_mean yX4_mean ∈ qtbl := ⟨(qmem 570 (by decide +kernel) rfl), (qmem 571 (by decide +kernel) rfl)⟩
theorem yX4_missed_ok : qY yX4_missed cX4_missed 2 (some .int) 1 := ⟨(qmem 576 (by decide +kernel) rfl), (qmem 41 (by decide +kernel) rfl), by decide +kernel, by decide +kernel, by decide +kernel⟩
theorem yX4_missed_in : Cond.instanceMethod yX4_missed ∈ qtbl ∧ Cond.selects RX4 yX4_missed yX4_missed ∈ qtbl := ⟨(qmem 574 (by decide +kernel) rfl), (qmem 575 (by decide +kernel) rfl)⟩
theorem yX4_finds_ok : qY yX4_finds cX4_finds 4 (some .int) 1 := ⟨(qmem 580 (by decide +kernel) rfl), (qmem 41 (by decide +kernel) rfl), by decide +kernel, by decide +kernel, by decide +kernel⟩
theorem yX4_finds_in : Cond.instanceMethod yX4_finds ∈ qtbl ∧ Cond.selects RX4 yX4_finds yX4_finds ∈ qtbl := ⟨(qmem 578 (by decide +kernel) rfl), (qmem 579 (by decide +kernel) rfl)⟩
theorem yX4_nines_ok : qY yX4_nines cX4_nines 1 (some .int) 1 := ⟨(qmem 602 (by decide +kernel) rfl), (qmem 41 (by decide +kernel) rfl), by decide +kernel, by decide +kernel, by decide +kernel⟩
theorem yX4_nines_in : Cond.static yX4_nines ∈ qtbl := (qmem 601 (by decide +kernel) rfl)
theorem yX4_gone_ok : qY yX4_gone cX4_gone 2 (some .int) 2 := ⟨(qmem 599 (by decide +kernel) rfl), (qmem 41 (by decide +kernel) rfl), by decide +kernel, by decide +kernel, by decide +kernel⟩
theorem yX4_gone_in : Cond.static yX4_gone ∈ qtbl := (qmem 598 (by decide +kernel) rfl)
theorem yX4_lastState_ok : qY yX4_lastState cX4_lastState 1 (some .int) 0 := ⟨(qmem 592 (by decide +kernel) rfl), (qmem 41 (by decide +kernel) rfl), by decide +kernel, by decide +kernel, by decide +kernel⟩
theorem yX4_lastState_in : Cond.instanceMethod yX4_lastState ∈ qtbl ∧ Cond.selects RX4 yX4_lastState yX4_lastState ∈ qtbl := ⟨(qmem 591 (by decide +kernel) rfl), (qmem 25 (by decide +kernel) rfl)⟩
theorem yX4_isState_ok : qY yX4_isState cX4_isState 4 (some .boolean) 1 := ⟨(qmem 596 (by decide +kernel) rfl), (qmem 41 (by decide +kernel) rfl), by decide +kernel, by decide +kernel, by decide +kernel⟩
theorem yX4_isState_in : Cond.instanceMethod yX4_isState ∈ qtbl ∧ Cond.selects RX4 yX4_isState yX4_isState ∈ qtbl := ⟨(qmem 595 (by decide +kernel) rfl), (qmem 26 (by decide +kernel) rfl)⟩
theorem yX4_rest_ok : qY yX4_rest cX4_rest 5 (some .int) 1 := ⟨(qmem 611 (by decide +kernel) rfl), (qmem 41 (by decide +kernel) rfl), by decide +kernel, by decide +kernel, by decide +kernel⟩
theorem yX4_rest_in : Cond.instanceMethod yX4_rest ∈ qtbl ∧ Cond.selects RX4 yX4_rest yX4_rest ∈ qtbl := ⟨(qmem 610 (by decide +kernel) rfl), (qmem 28 (by decide +kernel) rfl)⟩
theorem yX4_adds_ok : qY yX4_adds cX4_adds 3 (some .int) 2 := ⟨(qmem 607 (by decide +kernel) rfl), (qmem 41 (by decide +kernel) rfl), by decide +kernel, by decide +kernel, by decide +kernel⟩
theorem yX4_adds_in : Cond.instanceMethod yX4_adds ∈ qtbl ∧ Cond.selects RX4 yX4_adds yX4_adds ∈ qtbl := ⟨(qmem 606 (by decide +kernel) rfl), (qmem 27 (by decide +kernel) rfl)⟩
theorem yX4_layLeast_ok : qY yX4_layLeast cX4_layLeast 6 none 0 := ⟨(qmem 588 (by decide +kernel) rfl), (qmem 41 (by decide +kernel) rfl), by decide +kernel, by decide +kernel, by decide +kernel⟩
theorem yX4_layLeast_in : Cond.instanceMethod yX4_layLeast ∈ qtbl ∧ Cond.selects RX4 yX4_layLeast yX4_layLeast ∈ qtbl := ⟨(qmem 587 (by decide +kernel) rfl), (qmem 24 (by decide +kernel) rfl)⟩
theorem yX4_leastMean_ok : qY yX4_leastMean cX4_leastMean 4 (some .int) 0 := ⟨(qmem 584 (by decide +kernel) rfl), (qmem 41 (by decide +kernel) rfl), by decide +kernel, by decide +kernel, by decide +kernel⟩
theorem yX4_leastMean_in : Cond.instanceMethod yX4_leastMean ∈ qtbl ∧ Cond.selects RX4 yX4_leastMean yX4_leastMean ∈ qtbl := ⟨(qmem 582 (by decide +kernel) rfl), (qmem 583 (by decide +kernel) rfl)⟩
theorem yX4_layMeanPlan_ok : qY yX4_layMeanPlan cX4_layMeanPlan 6 none 0 := ⟨(qmem 619 (by decide +kernel) rfl), (qmem 41 (by decide +kernel) rfl), by decide +kernel, by decide +kernel, by decide +kernel⟩
theorem yX4_layMeanPlan_in : Cond.instanceMethod yX4_layMeanPlan ∈ qtbl ∧ Cond.selects RX4 yX4_layMeanPlan yX4_layMeanPlan ∈ qtbl := ⟨(qmem 618 (by decide +kernel) rfl), (qmem 29 (by decide +kernel) rfl)⟩
theorem yX4_planAt_ok : qY yX4_planAt cX4_planAt 2 (some .int) 1 := ⟨(qmem 623 (by decide +kernel) rfl), (qmem 41 (by decide +kernel) rfl), by decide +kernel, by decide +kernel, by decide +kernel⟩
theorem yX4_planAt_in : Cond.instanceMethod yX4_planAt ∈ qtbl ∧ Cond.selects RX4 yX4_planAt yX4_planAt ∈ qtbl := ⟨(qmem 622 (by decide +kernel) rfl), (qmem 30 (by decide +kernel) rfl)⟩
theorem yX4_meanTrip_ok : qY yX4_meanTrip cX4_meanTrip 2 (some .int) 1 := ⟨(qmem 615 (by decide +kernel) rfl), (qmem 41 (by decide +kernel) rfl), by decide +kernel, by decide +kernel, by decide +kernel⟩
theorem yX4_meanTrip_in : Cond.instanceMethod yX4_meanTrip ∈ qtbl ∧ Cond.selects RX4 yX4_meanTrip yX4_meanTrip ∈ qtbl := ⟨(qmem 613 (by decide +kernel) rfl), (qmem 614 (by decide +kernel) rfl)⟩
theorem yX4_layMost_ok : qY yX4_layMost cX4_layMost 10 none 2 := ⟨(qmem 636 (by decide +kernel) rfl), (qmem 41 (by decide +kernel) rfl), by decide +kernel, by decide +kernel, by decide +kernel⟩
theorem yX4_layMost_in : Cond.instanceMethod yX4_layMost ∈ qtbl ∧ Cond.selects RX4 yX4_layMost yX4_layMost ∈ qtbl := ⟨(qmem 635 (by decide +kernel) rfl), (qmem 32 (by decide +kernel) rfl)⟩
theorem yX4_findWorst_ok : qY yX4_findWorst cX4_findWorst 5 none 0 := ⟨(qmem 631 (by decide +kernel) rfl), (qmem 41 (by decide +kernel) rfl), by decide +kernel, by decide +kernel, by decide +kernel⟩
theorem yX4_findWorst_in : Cond.instanceMethod yX4_findWorst ∈ qtbl ∧ Cond.selects RX4 yX4_findWorst yX4_findWorst ∈ qtbl := ⟨(qmem 630 (by decide +kernel) rfl), (qmem 31 (by decide +kernel) rfl)⟩
theorem yX4_leastWorst_ok : qY yX4_leastWorst cX4_leastWorst 2 (some .int) 1 := ⟨(qmem 627 (by decide +kernel) rfl), (qmem 41 (by decide +kernel) rfl), by decide +kernel, by decide +kernel, by decide +kernel⟩
theorem yX4_leastWorst_in : Cond.instanceMethod yX4_leastWorst ∈ qtbl ∧ Cond.selects RX4 yX4_leastWorst yX4_leastWorst ∈ qtbl := ⟨(qmem 625 (by decide +kernel) rfl), (qmem 626 (by decide +kernel) rfl)⟩
theorem yX4_layWorstPlan_ok : qY yX4_layWorstPlan cX4_layWorstPlan 8 none 0 := ⟨(qmem 645 (by decide +kernel) rfl), (qmem 41 (by decide +kernel) rfl), by decide +kernel, by decide +kernel, by decide +kernel⟩
theorem yX4_layWorstPlan_in : Cond.instanceMethod yX4_layWorstPlan ∈ qtbl ∧ Cond.selects RX4 yX4_layWorstPlan yX4_layWorstPlan ∈ qtbl := ⟨(qmem 644 (by decide +kernel) rfl), (qmem 33 (by decide +kernel) rfl)⟩
theorem yX4_worstTrip_ok : qY yX4_worstTrip cX4_worstTrip 2 (some .int) 1 := ⟨(qmem 641 (by decide +kernel) rfl), (qmem 41 (by decide +kernel) rfl), by decide +kernel, by decide +kernel, by decide +kernel⟩
theorem yX4_worstTrip_in : Cond.instanceMethod yX4_worstTrip ∈ qtbl ∧ Cond.selects RX4 yX4_worstTrip yX4_worstTrip ∈ qtbl := ⟨(qmem 639 (by decide +kernel) rfl), (qmem 640 (by decide +kernel) rfl)⟩
theorem yX4_within_ok : qY yX4_within cX4_within 3 (some .int) 2 := ⟨(qmem 649 (by decide +kernel) rfl), (qmem 41 (by decide +kernel) rfl), by decide +kernel, by decide +kernel, by decide +kernel⟩
theorem yX4_within_in : Cond.instanceMethod yX4_within ∈ qtbl ∧ Cond.selects RX4 yX4_within yX4_within ∈ qtbl := ⟨(qmem 647 (by decide +kernel) rfl), (qmem 648 (by decide +kernel) rfl)⟩
theorem yX4_take_ok : qY yX4_take cX4_take 3 (some .int) 1 := ⟨(qmem 653 (by decide +kernel) rfl), (qmem 41 (by decide +kernel) rfl), by decide +kernel, by decide +kernel, by decide +kernel⟩
theorem yX4_take_in : Cond.instanceMethod yX4_take ∈ qtbl ∧ Cond.selects RX4 yX4_take yX4_take ∈ qtbl := ⟨(qmem 651 (by decide +kernel) rfl), (qmem 652 (by decide +kernel) rfl)⟩
theorem yX4_comesBy_ok : qY yX4_comesBy cX4_comesBy 5 (some .int) 3 := ⟨(qmem 661 (by decide +kernel) rfl), (qmem 41 (by decide +kernel) rfl), by decide +kernel, by decide +kernel, by decide +kernel⟩
theorem yX4_comesBy_in : Cond.instanceMethod yX4_comesBy ∈ qtbl ∧ Cond.selects RX4 yX4_comesBy yX4_comesBy ∈ qtbl := ⟨(qmem 660 (by decide +kernel) rfl), (qmem 34 (by decide +kernel) rfl)⟩
theorem yX4_aheadOf_ok : qY yX4_aheadOf cX4_aheadOf 4 (some .int) 1 := ⟨(qmem 665 (by decide +kernel) rfl), (qmem 41 (by decide +kernel) rfl), by decide +kernel, by decide +kernel, by decide +kernel⟩
theorem yX4_aheadOf_in : Cond.instanceMethod yX4_aheadOf ∈ qtbl ∧ Cond.selects RX4 yX4_aheadOf yX4_aheadOf ∈ qtbl := ⟨(qmem 664 (by decide +kernel) rfl), (qmem 35 (by decide +kernel) rfl)⟩
theorem yX4_both_ok : qY yX4_both cX4_both 9 (some .int) 3 := ⟨(qmem 657 (by decide +kernel) rfl), (qmem 41 (by decide +kernel) rfl), by decide +kernel, by decide +kernel, by decide +kernel⟩
theorem yX4_both_in : Cond.instanceMethod yX4_both ∈ qtbl ∧ Cond.selects RX4 yX4_both yX4_both ∈ qtbl := ⟨(qmem 655 (by decide +kernel) rfl), (qmem 656 (by decide +kernel) rfl)⟩
theorem yX4_end_ok : qY yX4_end cX4_end 4 (some .int) 0 := ⟨(qmem 669 (by decide +kernel) rfl), (qmem 41 (by decide +kernel) rfl), by decide +kernel, by decide +kernel, by decide +kernel⟩
theorem yX4_end_in : Cond.instanceMethod yX4_end ∈ qtbl ∧ Cond.selects RX4 yX4_end yX4_end ∈ qtbl := ⟨(qmem 667 (by decide +kernel) rfl), (qmem 668 (by decide +kernel) rfl)⟩
theorem yX4_told_ok : qY yX4_told cX4_told 2 (some .int) 1 := ⟨(qmem 673 (by decide +kernel) rfl), (qmem 41 (by decide +kernel) rfl), by decide +kernel, by decide +kernel, by decide +kernel⟩
theorem yX4_told_in : Cond.instanceMethod yX4_told ∈ qtbl ∧ Cond.selects RX4 yX4_told yX4_told ∈ qtbl := ⟨(qmem 671 (by decide +kernel) rfl), (qmem 672 (by decide +kernel) rfl)⟩
theorem lc_X1_49 : Cond.constant RX1 49 (10000000) ∈ qtbl := (qmem 324 (by decide +kernel) rfl)
theorem lc_X1_93 : Cond.constant RX1 93 (-10000000) ∈ qtbl := (qmem 346 (by decide +kernel) rfl)
theorem lc_X4_93 : Cond.constant RX4 93 (1000000000) ∈ qtbl := (qmem 603 (by decide +kernel) rfl)
theorem lc_X4_109 : Cond.constant RX4 109 (1000000) ∈ qtbl := (qmem 632 (by decide +kernel) rfl)
theorem lc_X4_110 : Cond.constant RX4 110 (-1000000) ∈ qtbl := (qmem 637 (by decide +kernel) rfl)
theorem lf_X3_9 : Cond.fieldLink RX3 9 "LineSearch" "out" "I" ∈ qtbl := (qmem 127 (by decide +kernel) rfl)
theorem lf_X3_13 : Cond.fieldLink RX3 13 "LineSearch" "back" "I" ∈ qtbl := (qmem 128 (by decide +kernel) rfl)
theorem lf_X3_19 : Cond.fieldLink RX3 19 "LineSearch" "ground" "LLineSearch$Ground;" ∈ qtbl := (qmem 129 (by decide +kernel) rfl)
theorem lf_X3_26 : Cond.fieldLink RX3 26 "LineSearch" "plan" "LLineSearch$Plan;" ∈ qtbl := (qmem 130 (by decide +kernel) rfl)
theorem lf_X3_33 : Cond.fieldLink RX3 33 "LineSearch" "outlook" "LLineSearch$Outlook;" ∈ qtbl := (qmem 131 (by decide +kernel) rfl)
theorem lf_X3_37 : Cond.fieldLink RX3 37 "LineSearch" "meanPlan" "LLineSearch$Plan;" ∈ qtbl := (qmem 132 (by decide +kernel) rfl)
theorem lf_X3_40 : Cond.fieldLink RX3 40 "LineSearch" "worstPlan" "LLineSearch$Plan;" ∈ qtbl := (qmem 133 (by decide +kernel) rfl)
theorem lf_X3_43 : Cond.fieldLink RX3 43 "LineSearch" "meanKnown" "Z" ∈ qtbl := (qmem 134 (by decide +kernel) rfl)
theorem lf_X3_47 : Cond.fieldLink RX3 47 "LineSearch" "worstKnown" "Z" ∈ qtbl := (qmem 135 (by decide +kernel) rfl)
theorem lf_X3_50 : Cond.fieldLink RX3 50 "LineSearch" "meanSteps" "I" ∈ qtbl := (qmem 136 (by decide +kernel) rfl)
theorem lf_X3_53 : Cond.fieldLink RX3 53 "LineSearch" "worstParts" "I" ∈ qtbl := (qmem 137 (by decide +kernel) rfl)
theorem lf_X3_78 : Cond.fieldLink RX3 78 "LineSearch$Plan" "count" "I" ∈ qtbl := (qmem 88 (by decide +kernel) rfl)
theorem lf_X3_118 : Cond.fieldLink RX3 118 "LineSearch$Ground" "rays" "I" ∈ qtbl := (qmem 66 (by decide +kernel) rfl)
theorem lf_X3_121 : Cond.fieldLink RX3 121 "LineSearch$Ground" "reach" "I" ∈ qtbl := (qmem 69 (by decide +kernel) rfl)
theorem lf_X0_9 : Cond.fieldLink RX0 9 "LineSearch$Ground" "shares" "[I" ∈ qtbl := (qmem 70 (by decide +kernel) rfl)
theorem lf_X0_19 : Cond.fieldLink RX0 19 "LineSearch$Ground" "rays" "I" ∈ qtbl := (qmem 64 (by decide +kernel) rfl)
theorem lf_X0_23 : Cond.fieldLink RX0 23 "LineSearch$Ground" "reach" "I" ∈ qtbl := (qmem 67 (by decide +kernel) rfl)
theorem lf_X1_9 : Cond.fieldLink RX1 9 "LineSearch$Outlook" "rays" "I" ∈ qtbl := (qmem 102 (by decide +kernel) rfl)
theorem lf_X1_15 : Cond.fieldLink RX1 15 "LineSearch$Outlook" "reach" "I" ∈ qtbl := (qmem 103 (by decide +kernel) rfl)
theorem lf_X1_18 : Cond.fieldLink RX1 18 "LineSearch$Outlook" "caps" "[I" ∈ qtbl := (qmem 104 (by decide +kernel) rfl)
theorem lf_X1_22 : Cond.fieldLink RX1 22 "LineSearch$Outlook" "prices" "[I" ∈ qtbl := (qmem 105 (by decide +kernel) rfl)
theorem lf_X1_25 : Cond.fieldLink RX1 25 "LineSearch$Outlook" "basePrice" "I" ∈ qtbl := (qmem 106 (by decide +kernel) rfl)
theorem lf_X1_28 : Cond.fieldLink RX1 28 "LineSearch$Outlook" "most" "[I" ∈ qtbl := (qmem 107 (by decide +kernel) rfl)
theorem lf_X1_31 : Cond.fieldLink RX1 31 "LineSearch$Outlook" "mostOnRay" "[I" ∈ qtbl := (qmem 108 (by decide +kernel) rfl)
theorem lf_X1_34 : Cond.fieldLink RX1 34 "LineSearch$Outlook" "gone" "[I" ∈ qtbl := (qmem 109 (by decide +kernel) rfl)
theorem lf_X1_37 : Cond.fieldLink RX1 37 "LineSearch$Ground" "rays" "I" ∈ qtbl := (qmem 65 (by decide +kernel) rfl)
theorem lf_X1_40 : Cond.fieldLink RX1 40 "LineSearch$Ground" "reach" "I" ∈ qtbl := (qmem 68 (by decide +kernel) rfl)
theorem lf_X2_9 : Cond.fieldLink RX2 9 "LineSearch$Plan" "onRay" "[I" ∈ qtbl := (qmem 85 (by decide +kernel) rfl)
theorem lf_X2_15 : Cond.fieldLink RX2 15 "LineSearch$Plan" "toSteps" "[I" ∈ qtbl := (qmem 86 (by decide +kernel) rfl)
theorem lf_X2_18 : Cond.fieldLink RX2 18 "LineSearch$Plan" "count" "I" ∈ qtbl := (qmem 87 (by decide +kernel) rfl)
theorem lf_X4_7 : Cond.fieldLink RX4 7 "LineSearchModel" "rays" "I" ∈ qtbl := (qmem 450 (by decide +kernel) rfl)
theorem lf_X4_13 : Cond.fieldLink RX4 13 "LineSearchModel" "steps" "I" ∈ qtbl := (qmem 451 (by decide +kernel) rfl)
theorem lf_X4_16 : Cond.fieldLink RX4 16 "LineSearchModel" "out" "I" ∈ qtbl := (qmem 452 (by decide +kernel) rfl)
theorem lf_X4_19 : Cond.fieldLink RX4 19 "LineSearchModel" "back" "I" ∈ qtbl := (qmem 453 (by decide +kernel) rfl)
theorem lf_X4_22 : Cond.fieldLink RX4 22 "LineSearchModel" "share" "[I" ∈ qtbl := (qmem 454 (by decide +kernel) rfl)
theorem lf_X4_26 : Cond.fieldLink RX4 26 "LineSearchModel" "ray" "[I" ∈ qtbl := (qmem 456 (by decide +kernel) rfl)
theorem lf_X4_29 : Cond.fieldLink RX4 29 "LineSearchModel" "far" "[I" ∈ qtbl := (qmem 457 (by decide +kernel) rfl)
theorem lf_X4_32 : Cond.fieldLink RX4 32 "LineSearchModel" "least" "[I" ∈ qtbl := (qmem 458 (by decide +kernel) rfl)
theorem lf_X4_35 : Cond.fieldLink RX4 35 "LineSearchModel" "most" "[I" ∈ qtbl := (qmem 459 (by decide +kernel) rfl)
theorem lf_X4_38 : Cond.fieldLink RX4 38 "LineSearchModel" "plan" "[I" ∈ qtbl := (qmem 461 (by decide +kernel) rfl)
theorem lf_X4_44 : Cond.fieldLink RX4 44 "LineSearchModel" "trips" "I" ∈ qtbl := (qmem 455 (by decide +kernel) rfl)
theorem lf_X4_100 : Cond.fieldLink RX4 100 "LineSearchModel" "planned" "I" ∈ qtbl := (qmem 460 (by decide +kernel) rfl)
theorem lf_X4_111 : Cond.fieldLink RX4 111 "LineSearchModel" "worstFor" "I" ∈ qtbl := (qmem 464 (by decide +kernel) rfl)
theorem lf_X4_114 : Cond.fieldLink RX4 114 "LineSearchModel" "worstUp" "I" ∈ qtbl := (qmem 462 (by decide +kernel) rfl)
theorem lf_X4_117 : Cond.fieldLink RX4 117 "LineSearchModel" "worstLow" "I" ∈ qtbl := (qmem 463 (by decide +kernel) rfl)
theorem lm_X3_56 : Cond.methodLink RX3 56 yX0_isOf ∈ qtbl := (qmem 165 (by decide +kernel) rfl)
theorem lm_X3_60 : Cond.methodLink RX3 60 yX0_lay ∈ qtbl := (qmem 169 (by decide +kernel) rfl)
theorem lm_X3_64 : Cond.methodLink RX3 64 yX2_empty ∈ qtbl := (qmem 170 (by decide +kernel) rfl)
theorem lm_X3_67 : Cond.methodLink RX3 67 yX0_has ∈ qtbl := (qmem 182 (by decide +kernel) rfl)
theorem lm_X3_70 : Cond.methodLink RX3 70 yX0_shareAt ∈ qtbl := (qmem 186 (by decide +kernel) rfl)
theorem lm_X3_74 : Cond.methodLink RX3 74 yX0_setShare ∈ qtbl := (qmem 194 (by decide +kernel) rfl)
theorem lm_X3_81 : Cond.methodLink RX3 81 yX2_add ∈ qtbl := (qmem 209 (by decide +kernel) rfl)
theorem lm_X3_84 : Cond.methodLink RX3 84 yX2_has ∈ qtbl := (qmem 218 (by decide +kernel) rfl)
theorem lm_X3_87 : Cond.methodLink RX3 87 yX2_rayOf ∈ qtbl := (qmem 222 (by decide +kernel) rfl)
theorem lm_X3_91 : Cond.methodLink RX3 91 yX2_stepsOf ∈ qtbl := (qmem 228 (by decide +kernel) rfl)
theorem lm_X3_94 : Cond.methodLink RX3 94 yX2_stepsAhead ∈ qtbl := (qmem 232 (by decide +kernel) rfl)
theorem lm_X3_97 : Cond.methodLink RX3 97 yX3_wholeTrips ∈ qtbl := (qmem 240 (by decide +kernel) rfl)
theorem lm_X3_100 : Cond.methodLink RX3 100 yX2_removeLast ∈ qtbl := (qmem 248 (by decide +kernel) rfl)
theorem lm_X3_104 : Cond.methodLink RX3 104 yX3_wayTo ∈ qtbl := (qmem 260 (by decide +kernel) rfl)
theorem lm_X3_107 : Cond.methodLink RX3 107 yX3_lowest ∈ qtbl := (qmem 273 (by decide +kernel) rfl)
theorem lm_X3_111 : Cond.methodLink RX3 111 yX3_countMissed ∈ qtbl := (qmem 283 (by decide +kernel) rfl)
theorem lm_X3_115 : Cond.methodLink RX3 115 yX3_worstPlace ∈ qtbl := (qmem 294 (by decide +kernel) rfl)
theorem lm_X3_124 : Cond.methodLink RX3 124 yX2_farthest ∈ qtbl := (qmem 287 (by decide +kernel) rfl)
theorem lm_X3_127 : Cond.methodLink RX3 127 yX3_findMean ∈ qtbl := (qmem 314 (by decide +kernel) rfl)
theorem lm_X3_130 : Cond.methodLink RX3 130 yX0_sharedSteps ∈ qtbl := (qmem 370 (by decide +kernel) rfl)
theorem lm_X3_133 : Cond.methodLink RX3 133 yX3_placeOf ∈ qtbl := (qmem 379 (by decide +kernel) rfl)
theorem lm_X3_137 : Cond.methodLink RX3 137 yX3_findWorst ∈ qtbl := (qmem 386 (by decide +kernel) rfl)
theorem lm_X3_140 : Cond.methodLink RX3 140 yX3_worstUpper ∈ qtbl := (qmem 398 (by decide +kernel) rfl)
theorem lm_X3_143 : Cond.methodLink RX3 143 yX2_copy ∈ qtbl := (qmem 414 (by decide +kernel) rfl)
theorem lm_X3_147 : Cond.methodLink RX3 147 yX3_tripThatMeets ∈ qtbl := (qmem 423 (by decide +kernel) rfl)
theorem lm_X3_150 : Cond.methodLink RX3 150 Lib.Math.max.name ∈ qtbl := (qmem 431 (by decide +kernel) rfl)
theorem lm_X3_155 : Cond.methodLink RX3 155 yX0_allShares ∈ qtbl := (qmem 436 (by decide +kernel) rfl)
theorem lm_X3_158 : Cond.methodLink RX3 158 yX2_firstTo ∈ qtbl := (qmem 264 (by decide +kernel) rfl)
theorem lm_X3_161 : Cond.methodLink RX3 161 yX1_planMean ∈ qtbl := (qmem 318 (by decide +kernel) rfl)
theorem lm_X3_165 : Cond.methodLink RX3 165 yX1_planWorst ∈ qtbl := (qmem 390 (by decide +kernel) rfl)
theorem lm_X3_168 : Cond.methodLink RX3 168 yX3_commonDivisor ∈ qtbl := (qmem 276 (by decide +kernel) rfl)
theorem lm_X0_30 : Cond.methodLink RX0 30 yX0_has ∈ qtbl := (qmem 190 (by decide +kernel) rfl)
theorem lm_X0_42 : Cond.methodLink RX0 42 yX0_shareAt ∈ qtbl := (qmem 374 (by decide +kernel) rfl)
theorem lm_X1_45 : Cond.methodLink RX1 45 yX0_shareAt ∈ qtbl := (qmem 323 (by decide +kernel) rfl)
theorem lm_X1_54 : Cond.methodLink RX1 54 yX1_sweep ∈ qtbl := (qmem 326 (by decide +kernel) rfl)
theorem lm_X1_61 : Cond.methodLink RX1 61 yX1_write ∈ qtbl := (qmem 352 (by decide +kernel) rfl)
theorem lm_X1_65 : Cond.methodLink RX1 65 yX1_capBy ∈ qtbl := (qmem 394 (by decide +kernel) rfl)
theorem lm_X1_69 : Cond.methodLink RX1 69 yX1_lengthOf ∈ qtbl := (qmem 330 (by decide +kernel) rfl)
theorem lm_X1_73 : Cond.methodLink RX1 73 yX1_settle ∈ qtbl := (qmem 334 (by decide +kernel) rfl)
theorem lm_X1_77 : Cond.methodLink RX1 77 yX1_through ∈ qtbl := (qmem 338 (by decide +kernel) rfl)
theorem lm_X1_81 : Cond.methodLink RX1 81 Lib.Math.max.name ∈ qtbl := (qmem 347 (by decide +kernel) rfl)
theorem lm_X1_86 : Cond.methodLink RX1 86 yX1_offer ∈ qtbl := (qmem 348 (by decide +kernel) rfl)
theorem lm_X1_90 : Cond.methodLink RX1 90 Lib.Math.min.name ∈ qtbl := (qmem 343 (by decide +kernel) rfl)
theorem lm_X1_94 : Cond.methodLink RX1 94 yX2_empty ∈ qtbl := (qmem 356 (by decide +kernel) rfl)
theorem lm_X1_99 : Cond.methodLink RX1 99 yX1_firstTrip ∈ qtbl := (qmem 357 (by decide +kernel) rfl)
theorem lm_X1_102 : Cond.methodLink RX1 102 yX2_add ∈ qtbl := (qmem 369 (by decide +kernel) rfl)
theorem lm_X1_106 : Cond.methodLink RX1 106 yX1_costOf ∈ qtbl := (qmem 361 (by decide +kernel) rfl)
theorem lm_X1_109 : Cond.methodLink RX1 109 yX1_stateAfter ∈ qtbl := (qmem 365 (by decide +kernel) rfl)
theorem lm_X2_22 : Cond.methodLink RX2 22 yX2_has ∈ qtbl := (qmem 226 (by decide +kernel) rfl)
theorem lm_X2_34 : Cond.methodLink RX2 34 yX2_rayOf ∈ qtbl := (qmem 268 (by decide +kernel) rfl)
theorem lm_X2_38 : Cond.methodLink RX2 38 yX2_stepsOf ∈ qtbl := (qmem 239 (by decide +kernel) rfl)
theorem lm_X2_41 : Cond.methodLink RX2 41 yX2_add ∈ qtbl := (qmem 418 (by decide +kernel) rfl)
theorem lm_X2_45 : Cond.methodLink RX2 45 yX2_isFor ∈ qtbl := (qmem 236 (by decide +kernel) rfl)
theorem lm_X2_48 : Cond.methodLink RX2 48 Lib.Math.max.name ∈ qtbl := (qmem 291 (by decide +kernel) rfl)
theorem lm_X4_41 : Cond.methodLink RX4 41 yX4_begin ∈ qtbl := (qmem 446 (by decide +kernel) rfl)
theorem lm_X4_47 : Cond.methodLink RX4 47 yX4_in ∈ qtbl := (qmem 500 (by decide +kernel) rfl)
theorem lm_X4_51 : Cond.methodLink RX4 51 yX4_isPlace ∈ qtbl := (qmem 511 (by decide +kernel) rfl)
theorem lm_X4_55 : Cond.methodLink RX4 55 yX4_costAhead ∈ qtbl := (qmem 527 (by decide +kernel) rfl)
theorem lm_X4_59 : Cond.methodLink RX4 59 yX4_comes ∈ qtbl := (qmem 547 (by decide +kernel) rfl)
theorem lm_X4_63 : Cond.methodLink RX4 63 yX4_wayOf ∈ qtbl := (qmem 543 (by decide +kernel) rfl)
theorem lm_X4_66 : Cond.methodLink RX4 66 yX4_common ∈ qtbl := (qmem 558 (by decide +kernel) rfl)
theorem lm_X4_69 : Cond.methodLink RX4 69 yX4_term ∈ qtbl := (qmem 555 (by decide +kernel) rfl)
theorem lm_X4_73 : Cond.methodLink RX4 73 yX4_missedAt ∈ qtbl := (qmem 565 (by decide +kernel) rfl)
theorem lm_X4_76 : Cond.methodLink RX4 76 yX4_nines ∈ qtbl := (qmem 600 (by decide +kernel) rfl)
theorem lm_X4_79 : Cond.methodLink RX4 79 yX4_gone ∈ qtbl := (qmem 597 (by decide +kernel) rfl)
theorem lm_X4_82 : Cond.methodLink RX4 82 yX4_rest ∈ qtbl := (qmem 608 (by decide +kernel) rfl)
theorem lm_X4_85 : Cond.methodLink RX4 85 yX4_lastState ∈ qtbl := (qmem 589 (by decide +kernel) rfl)
theorem lm_X4_89 : Cond.methodLink RX4 89 yX4_isState ∈ qtbl := (qmem 593 (by decide +kernel) rfl)
theorem lm_X4_94 : Cond.methodLink RX4 94 yX4_adds ∈ qtbl := (qmem 604 (by decide +kernel) rfl)
theorem lm_X4_97 : Cond.methodLink RX4 97 yX4_layLeast ∈ qtbl := (qmem 585 (by decide +kernel) rfl)
theorem lm_X4_103 : Cond.methodLink RX4 103 yX4_layMeanPlan ∈ qtbl := (qmem 616 (by decide +kernel) rfl)
theorem lm_X4_106 : Cond.methodLink RX4 106 yX4_planAt ∈ qtbl := (qmem 620 (by decide +kernel) rfl)
theorem lm_X4_120 : Cond.methodLink RX4 120 yX4_layMost ∈ qtbl := (qmem 633 (by decide +kernel) rfl)
theorem lm_X4_124 : Cond.methodLink RX4 124 yX4_findWorst ∈ qtbl := (qmem 628 (by decide +kernel) rfl)
theorem lm_X4_127 : Cond.methodLink RX4 127 yX4_layWorstPlan ∈ qtbl := (qmem 642 (by decide +kernel) rfl)
theorem lm_X4_130 : Cond.methodLink RX4 130 yX4_comesBy ∈ qtbl := (qmem 658 (by decide +kernel) rfl)
theorem lm_X4_133 : Cond.methodLink RX4 133 yX4_aheadOf ∈ qtbl := (qmem 662 (by decide +kernel) rfl)
