/-! ===== by program (cons2.py): the five constructors ===== -/
theorem w_arr : Cond.arrayClass .int ∈ qtbl := (qmem 78 (by decide +kernel) rfl)
theorem w_o1 : Cond.instanceMethod Lib.objectInit ∈ qtbl := (qmem 49 (by decide +kernel) rfl)
theorem w_o2 : Cond.code Lib.objectInit ⟨#[0xb1]⟩ 1 none ∈ qtbl := (qmem 50 (by decide +kernel) rfl)
theorem wi_X0 : Cond.instantiable RX0 3 ∈ qtbl := (qmem 52 (by decide +kernel) rfl)
theorem wn_X0 : Cond.initialized RX0 ∈ qtbl := (qmem 38 (by decide +kernel) rfl)
theorem yX0_init_ok : qY yX0_init cX0_init 1 none 0 := ⟨(qmem 55 (by decide +kernel) rfl), (qmem 38 (by decide +kernel) rfl), by decide +kernel, by decide +kernel, by decide +kernel⟩
theorem yX0_init_in : Cond.instanceMethod yX0_init ∈ qtbl := (qmem 54 (by decide +kernel) rfl)
theorem wi_X1 : Cond.instantiable RX1 8 ∈ qtbl := (qmem 97 (by decide +kernel) rfl)
theorem wn_X1 : Cond.initialized RX1 ∈ qtbl := (qmem 40 (by decide +kernel) rfl)
theorem yX1_init_ok : qY yX1_init cX1_init 1 none 0 := ⟨(qmem 100 (by decide +kernel) rfl), (qmem 40 (by decide +kernel) rfl), by decide +kernel, by decide +kernel, by decide +kernel⟩
theorem yX1_init_in : Cond.instanceMethod yX1_init ∈ qtbl := (qmem 99 (by decide +kernel) rfl)
theorem wi_X2 : Cond.instantiable RX2 3 ∈ qtbl := (qmem 80 (by decide +kernel) rfl)
theorem wn_X2 : Cond.initialized RX2 ∈ qtbl := (qmem 39 (by decide +kernel) rfl)
theorem yX2_init_ok : qY yX2_init cX2_init 1 none 0 := ⟨(qmem 83 (by decide +kernel) rfl), (qmem 39 (by decide +kernel) rfl), by decide +kernel, by decide +kernel, by decide +kernel⟩
theorem yX2_init_in : Cond.instanceMethod yX2_init ∈ qtbl := (qmem 82 (by decide +kernel) rfl)
theorem wi_X3 : Cond.instantiable RX3 11 ∈ qtbl := (qmem 44 (by decide +kernel) rfl)
theorem wn_X3 : Cond.initialized RX3 ∈ qtbl := (qmem 37 (by decide +kernel) rfl)
theorem yX3_init_ok : qY yX3_init cX3_init 1 none 0 := ⟨(qmem 47 (by decide +kernel) rfl), (qmem 37 (by decide +kernel) rfl), by decide +kernel, by decide +kernel, by decide +kernel⟩
theorem yX3_init_in : Cond.instanceMethod yX3_init ∈ qtbl := (qmem 46 (by decide +kernel) rfl)
theorem wi_X4 : Cond.instantiable RX4 15 ∈ qtbl := (qmem 441 (by decide +kernel) rfl)
theorem wn_X4 : Cond.initialized RX4 ∈ qtbl := (qmem 41 (by decide +kernel) rfl)
theorem yX4_init_ok : qY yX4_init cX4_init 1 none 0 := ⟨(qmem 444 (by decide +kernel) rfl), (qmem 41 (by decide +kernel) rfl), by decide +kernel, by decide +kernel, by decide +kernel⟩
theorem yX4_init_in : Cond.instanceMethod yX4_init ∈ qtbl := (qmem 443 (by decide +kernel) rfl)
theorem lm_X2_3 : Cond.methodLink RX2 3 Lib.objectInit ∈ qtbl := (qmem 84 (by decide +kernel) rfl)
theorem lm_X1_3 : Cond.methodLink RX1 3 Lib.objectInit ∈ qtbl := (qmem 101 (by decide +kernel) rfl)
theorem lm_X0_3 : Cond.methodLink RX0 3 Lib.objectInit ∈ qtbl := (qmem 56 (by decide +kernel) rfl)
theorem lm_X0_15 : Cond.methodLink RX0 15 yX0_lay ∈ qtbl := (qmem 57 (by decide +kernel) rfl)
theorem lm_X3_3 : Cond.methodLink RX3 3 Lib.objectInit ∈ qtbl := (qmem 48 (by decide +kernel) rfl)
theorem lk_X3_16 : Cond.classLink RX3 16 RX0 ∈ qtbl := (qmem 51 (by decide +kernel) rfl)
theorem lm_X3_18 : Cond.methodLink RX3 18 yX0_init ∈ qtbl := (qmem 53 (by decide +kernel) rfl)
theorem lk_X3_23 : Cond.classLink RX3 23 RX2 ∈ qtbl := (qmem 79 (by decide +kernel) rfl)
theorem lm_X3_25 : Cond.methodLink RX3 25 yX2_init ∈ qtbl := (qmem 81 (by decide +kernel) rfl)
theorem lk_X3_30 : Cond.classLink RX3 30 RX1 ∈ qtbl := (qmem 96 (by decide +kernel) rfl)
theorem lm_X3_32 : Cond.methodLink RX3 32 yX1_init ∈ qtbl := (qmem 98 (by decide +kernel) rfl)
theorem lm_X4_1 : Cond.methodLink RX4 1 Lib.objectInit ∈ qtbl := (qmem 445 (by decide +kernel) rfl)
theorem lk_L_7 : Cond.classLink RL 7 RX3 ∈ qtbl := (qmem 43 (by decide +kernel) rfl)
theorem lk_L_10 : Cond.classLink RL 10 RX4 ∈ qtbl := (qmem 440 (by decide +kernel) rfl)
theorem lm_L_9 : Cond.methodLink RL 9 yX3_init ∈ qtbl := (qmem 45 (by decide +kernel) rfl)
theorem lm_L_12 : Cond.methodLink RL 12 yX4_init ∈ qtbl := (qmem 442 (by decide +kernel) rfl)
set_option maxRecDepth 20000 in
set_option maxHeartbeats 4000000 in
theorem ci_X2_3 (b : Nat) : qSI yX2_init cX2_init 1 12 2 60 b 3 2 [.null, .null, .int 0] 6 (fun cA => qw b cA (fun _ _ => 0) [3, 4, 5]) := by
  refine qSI_of (own := RX2) rfl rfl (by decide) ?_
  refine i_aload (pc := 0) dX2_init_0 ?_
  refine i_obj (pc := 1) dX2_init_1 lm_X2_3 w_o1 w_o2 (by decide) (by decide) ?_
  refine i_aload (pc := 4) dX2_init_4 ?_
  refine i_bipush (pc := 5) 30 dX2_init_5 (by decide) ?_
  refine i_newa (N := 30) (pc := 7) dX2_init_7 w_arr (by decide) (by decide) (by decide) (by decide) (by decide) ?_
  refine i_putF (q0 := 0) (ci := 2) (j := 0) (ty0 := tyX2) (ty := .array .int) [.null, .null, .int 0] (pc := 9) dX2_init_9 rfl inX2 tyX2_ok nmX2 (fun _ => rfl) (by decide) lf_X2_9 rfl rfl rfl (by decide +kernel) rfl rfl (Nat.le_of_ble_eq_true rfl) 1 (by decide) (fun _ => ⟨_, rfl⟩) ?_
  refine i_aload (pc := 12) dX2_init_12 ?_
  refine i_bipush (pc := 13) 30 dX2_init_13 (by decide) ?_
  refine i_newa (N := 30) (pc := 15) dX2_init_15 w_arr (by decide) (by decide) (by decide) (by decide) (by decide) ?_
  refine i_putF (q0 := 0) (ci := 2) (j := 1) (ty0 := tyX2) (ty := .array .int) [.ref (b + 4), .null, .int 0] (pc := 17) dX2_init_17 rfl inX2 tyX2_ok nmX2 (fun _ => rfl) (by decide) lf_X2_15 rfl rfl rfl (by decide +kernel) rfl rfl (Nat.le_of_ble_eq_true rfl) 2 (by decide) (fun _ => ⟨_, rfl⟩) ?_
  refine i_aload (pc := 20) dX2_init_20 ?_
  refine i_iconst (pc := 21) 0 dX2_init_21 (by decide) ?_
  refine i_put (q0 := 0) (ci := 2) (j := 2) (ty0 := tyX2) (ty := .int) [.ref (b + 4), .ref (b + 5), .int 0] (pc := 22) dX2_init_22 rfl inX2 tyX2_ok nmX2 (fun _ => rfl) (by decide) lf_X2_18 rfl (by decide +kernel) rfl rfl (Nat.le_of_ble_eq_true rfl) 2 (by decide) (fun _ => ⟨_, rfl⟩) ?_
  refine i_eq (ws' := (fun cA => qw b cA (fun _ _ => 0) [3, 4, 5])) (fun _ => rfl) ?_
  exact i_return (pc := 25) dX2_init_25
set_option maxRecDepth 20000 in
set_option maxHeartbeats 4000000 in
theorem ci_X2_12 (b : Nat) : qSI yX2_init cX2_init 1 12 2 60 b 12 2 [.null, .null, .int 0] 15 (fun cA => qw b cA (fun _ _ => 0) [12, 13, 14]) := by
  refine qSI_of (own := RX2) rfl rfl (by decide) ?_
  refine i_aload (pc := 0) dX2_init_0 ?_
  refine i_obj (pc := 1) dX2_init_1 lm_X2_3 w_o1 w_o2 (by decide) (by decide) ?_
  refine i_aload (pc := 4) dX2_init_4 ?_
  refine i_bipush (pc := 5) 30 dX2_init_5 (by decide) ?_
  refine i_newa (N := 30) (pc := 7) dX2_init_7 w_arr (by decide) (by decide) (by decide) (by decide) (by decide) ?_
  refine i_putF (q0 := 0) (ci := 2) (j := 0) (ty0 := tyX2) (ty := .array .int) [.null, .null, .int 0] (pc := 9) dX2_init_9 rfl inX2 tyX2_ok nmX2 (fun _ => rfl) (by decide) lf_X2_9 rfl rfl rfl (by decide +kernel) rfl rfl (Nat.le_of_ble_eq_true rfl) 1 (by decide) (fun _ => ⟨_, rfl⟩) ?_
  refine i_aload (pc := 12) dX2_init_12 ?_
  refine i_bipush (pc := 13) 30 dX2_init_13 (by decide) ?_
  refine i_newa (N := 30) (pc := 15) dX2_init_15 w_arr (by decide) (by decide) (by decide) (by decide) (by decide) ?_
  refine i_putF (q0 := 0) (ci := 2) (j := 1) (ty0 := tyX2) (ty := .array .int) [.ref (b + 13), .null, .int 0] (pc := 17) dX2_init_17 rfl inX2 tyX2_ok nmX2 (fun _ => rfl) (by decide) lf_X2_15 rfl rfl rfl (by decide +kernel) rfl rfl (Nat.le_of_ble_eq_true rfl) 2 (by decide) (fun _ => ⟨_, rfl⟩) ?_
  refine i_aload (pc := 20) dX2_init_20 ?_
  refine i_iconst (pc := 21) 0 dX2_init_21 (by decide) ?_
  refine i_put (q0 := 0) (ci := 2) (j := 2) (ty0 := tyX2) (ty := .int) [.ref (b + 13), .ref (b + 14), .int 0] (pc := 22) dX2_init_22 rfl inX2 tyX2_ok nmX2 (fun _ => rfl) (by decide) lf_X2_18 rfl (by decide +kernel) rfl rfl (Nat.le_of_ble_eq_true rfl) 2 (by decide) (fun _ => ⟨_, rfl⟩) ?_
  refine i_eq (ws' := (fun cA => qw b cA (fun _ _ => 0) [12, 13, 14])) (fun _ => rfl) ?_
  exact i_return (pc := 25) dX2_init_25
set_option maxRecDepth 20000 in
set_option maxHeartbeats 4000000 in
theorem ci_X2_15 (b : Nat) : qSI yX2_init cX2_init 1 12 2 60 b 15 2 [.null, .null, .int 0] 18 (fun cA => qw b cA (fun _ _ => 0) [15, 16, 17]) := by
  refine qSI_of (own := RX2) rfl rfl (by decide) ?_
  refine i_aload (pc := 0) dX2_init_0 ?_
  refine i_obj (pc := 1) dX2_init_1 lm_X2_3 w_o1 w_o2 (by decide) (by decide) ?_
  refine i_aload (pc := 4) dX2_init_4 ?_
  refine i_bipush (pc := 5) 30 dX2_init_5 (by decide) ?_
  refine i_newa (N := 30) (pc := 7) dX2_init_7 w_arr (by decide) (by decide) (by decide) (by decide) (by decide) ?_
  refine i_putF (q0 := 0) (ci := 2) (j := 0) (ty0 := tyX2) (ty := .array .int) [.null, .null, .int 0] (pc := 9) dX2_init_9 rfl inX2 tyX2_ok nmX2 (fun _ => rfl) (by decide) lf_X2_9 rfl rfl rfl (by decide +kernel) rfl rfl (Nat.le_of_ble_eq_true rfl) 1 (by decide) (fun _ => ⟨_, rfl⟩) ?_
  refine i_aload (pc := 12) dX2_init_12 ?_
  refine i_bipush (pc := 13) 30 dX2_init_13 (by decide) ?_
  refine i_newa (N := 30) (pc := 15) dX2_init_15 w_arr (by decide) (by decide) (by decide) (by decide) (by decide) ?_
  refine i_putF (q0 := 0) (ci := 2) (j := 1) (ty0 := tyX2) (ty := .array .int) [.ref (b + 16), .null, .int 0] (pc := 17) dX2_init_17 rfl inX2 tyX2_ok nmX2 (fun _ => rfl) (by decide) lf_X2_15 rfl rfl rfl (by decide +kernel) rfl rfl (Nat.le_of_ble_eq_true rfl) 2 (by decide) (fun _ => ⟨_, rfl⟩) ?_
  refine i_aload (pc := 20) dX2_init_20 ?_
  refine i_iconst (pc := 21) 0 dX2_init_21 (by decide) ?_
  refine i_put (q0 := 0) (ci := 2) (j := 2) (ty0 := tyX2) (ty := .int) [.ref (b + 16), .ref (b + 17), .int 0] (pc := 22) dX2_init_22 rfl inX2 tyX2_ok nmX2 (fun _ => rfl) (by decide) lf_X2_18 rfl (by decide +kernel) rfl rfl (Nat.le_of_ble_eq_true rfl) 2 (by decide) (fun _ => ⟨_, rfl⟩) ?_
  refine i_eq (ws' := (fun cA => qw b cA (fun _ _ => 0) [15, 16, 17])) (fun _ => rfl) ?_
  exact i_return (pc := 25) dX2_init_25
set_option maxRecDepth 20000 in
set_option maxHeartbeats 4000000 in
theorem ci_X1_6 (b : Nat) : qSI yX1_init cX1_init 1 12 5 1011 b 6 1 [.int 0, .int 0, .null, .null, .int 0, .null, .null, .null] 12 (fun cA => qw b cA (fun _ _ => 0) [6, 7, 8, 9, 10, 11]) := by
  refine qSI_of (own := RX1) rfl rfl (by decide) ?_
  refine i_aload (pc := 0) dX1_init_0 ?_
  refine i_obj (pc := 1) dX1_init_1 lm_X1_3 w_o1 w_o2 (by decide) (by decide) ?_
  refine i_aload (pc := 4) dX1_init_4 ?_
  refine i_iconst (pc := 5) 0 dX1_init_5 (by decide) ?_
  refine i_put (q0 := 0) (ci := 1) (j := 0) (ty0 := tyX1) (ty := .int) [.int 0, .int 0, .null, .null, .int 0, .null, .null, .null] (pc := 6) dX1_init_6 rfl inX1 tyX1_ok nmX1 (fun _ => rfl) (by decide) lf_X1_9 rfl (by decide +kernel) rfl rfl (Nat.le_of_ble_eq_true rfl) 0 (by decide) (fun _ => ⟨_, rfl⟩) ?_
  refine i_aload (pc := 9) dX1_init_9 ?_
  refine i_iconst (pc := 10) 0 dX1_init_10 (by decide) ?_
  refine i_put (q0 := 0) (ci := 1) (j := 1) (ty0 := tyX1) (ty := .int) [.int 0, .int 0, .null, .null, .int 0, .null, .null, .null] (pc := 11) dX1_init_11 rfl inX1 tyX1_ok nmX1 (fun _ => rfl) (by decide) lf_X1_15 rfl (by decide +kernel) rfl rfl (Nat.le_of_ble_eq_true rfl) 0 (by decide) (fun _ => ⟨_, rfl⟩) ?_
  refine i_aload (pc := 14) dX1_init_14 ?_
  refine i_bipush (pc := 15) 9 dX1_init_15 (by decide) ?_
  refine i_newa (N := 9) (pc := 17) dX1_init_17 w_arr (by decide) (by decide) (by decide) (by decide) (by decide) ?_
  refine i_putF (q0 := 0) (ci := 1) (j := 2) (ty0 := tyX1) (ty := .array .int) [.int 0, .int 0, .null, .null, .int 0, .null, .null, .null] (pc := 19) dX1_init_19 rfl inX1 tyX1_ok nmX1 (fun _ => rfl) (by decide) lf_X1_18 rfl rfl rfl (by decide +kernel) rfl rfl (Nat.le_of_ble_eq_true rfl) 1 (by decide) (fun _ => ⟨_, rfl⟩) ?_
  refine i_aload (pc := 22) dX1_init_22 ?_
  refine i_bipush (pc := 23) 27 dX1_init_23 (by decide) ?_
  refine i_newa (N := 27) (pc := 25) dX1_init_25 w_arr (by decide) (by decide) (by decide) (by decide) (by decide) ?_
  refine i_putF (q0 := 0) (ci := 1) (j := 3) (ty0 := tyX1) (ty := .array .int) [.int 0, .int 0, .ref (b + 7), .null, .int 0, .null, .null, .null] (pc := 27) dX1_init_27 rfl inX1 tyX1_ok nmX1 (fun _ => rfl) (by decide) lf_X1_22 rfl rfl rfl (by decide +kernel) rfl rfl (Nat.le_of_ble_eq_true rfl) 2 (by decide) (fun _ => ⟨_, rfl⟩) ?_
  refine i_aload (pc := 30) dX1_init_30 ?_
  refine i_iconst (pc := 31) 0 dX1_init_31 (by decide) ?_
  refine i_put (q0 := 0) (ci := 1) (j := 4) (ty0 := tyX1) (ty := .int) [.int 0, .int 0, .ref (b + 7), .ref (b + 8), .int 0, .null, .null, .null] (pc := 32) dX1_init_32 rfl inX1 tyX1_ok nmX1 (fun _ => rfl) (by decide) lf_X1_25 rfl (by decide +kernel) rfl rfl (Nat.le_of_ble_eq_true rfl) 2 (by decide) (fun _ => ⟨_, rfl⟩) ?_
  refine i_aload (pc := 35) dX1_init_35 ?_
  refine i_sipush (pc := 36) 729 dX1_init_36 (by decide) ?_
  refine i_newa (N := 729) (pc := 39) dX1_init_39 w_arr (by decide) (by decide) (by decide) (by decide) (by decide) ?_
  refine i_putF (q0 := 0) (ci := 1) (j := 5) (ty0 := tyX1) (ty := .array .int) [.int 0, .int 0, .ref (b + 7), .ref (b + 8), .int 0, .null, .null, .null] (pc := 41) dX1_init_41 rfl inX1 tyX1_ok nmX1 (fun _ => rfl) (by decide) lf_X1_28 rfl rfl rfl (by decide +kernel) rfl rfl (Nat.le_of_ble_eq_true rfl) 3 (by decide) (fun _ => ⟨_, rfl⟩) ?_
  refine i_aload (pc := 44) dX1_init_44 ?_
  refine i_sipush (pc := 45) 243 dX1_init_45 (by decide) ?_
  refine i_newa (N := 243) (pc := 48) dX1_init_48 w_arr (by decide) (by decide) (by decide) (by decide) (by decide) ?_
  refine i_putF (q0 := 0) (ci := 1) (j := 6) (ty0 := tyX1) (ty := .array .int) [.int 0, .int 0, .ref (b + 7), .ref (b + 8), .int 0, .ref (b + 9), .null, .null] (pc := 50) dX1_init_50 rfl inX1 tyX1_ok nmX1 (fun _ => rfl) (by decide) lf_X1_31 rfl rfl rfl (by decide +kernel) rfl rfl (Nat.le_of_ble_eq_true rfl) 4 (by decide) (fun _ => ⟨_, rfl⟩) ?_
  refine i_aload (pc := 53) dX1_init_53 ?_
  refine i_iconst (pc := 54) 3 dX1_init_54 (by decide) ?_
  refine i_newa (N := 3) (pc := 55) dX1_init_55 w_arr (by decide) (by decide) (by decide) (by decide) (by decide) ?_
  refine i_putF (q0 := 0) (ci := 1) (j := 7) (ty0 := tyX1) (ty := .array .int) [.int 0, .int 0, .ref (b + 7), .ref (b + 8), .int 0, .ref (b + 9), .ref (b + 10), .null] (pc := 57) dX1_init_57 rfl inX1 tyX1_ok nmX1 (fun _ => rfl) (by decide) lf_X1_34 rfl rfl rfl (by decide +kernel) rfl rfl (Nat.le_of_ble_eq_true rfl) 5 (by decide) (fun _ => ⟨_, rfl⟩) ?_
  refine i_eq (ws' := (fun cA => qw b cA (fun _ _ => 0) [6, 7, 8, 9, 10, 11])) (fun _ => rfl) ?_
  exact i_return (pc := 60) dX1_init_60
def qG0 : qSt := qfill (qset (qset (fun _ _ => 0) 1 0 2) 1 1 5) 2 0 1
set_option maxRecDepth 20000 in
set_option maxHeartbeats 4000000 in
theorem ci_X0_1 (b : Nat) : qSI yX0_init cX0_init 2 44 1 27 b 1 0 [.int 0, .int 0, .null] 3 (fun cA => qw b cA qG0 [1, 2]) := by
  refine qSI_of (own := RX0) rfl rfl (by decide) ?_
  refine i_aload (pc := 0) dX0_init_0 ?_
  refine i_obj (pc := 1) dX0_init_1 lm_X0_3 w_o1 w_o2 (by decide) (by decide) ?_
  refine i_aload (pc := 4) dX0_init_4 ?_
  refine i_bipush (pc := 5) 27 dX0_init_5 (by decide) ?_
  refine i_newa (N := 27) (pc := 7) dX0_init_7 w_arr (by decide) (by decide) (by decide) (by decide) (by decide) ?_
  refine i_putF (q0 := 0) (ci := 0) (j := 2) (ty0 := tyX0) (ty := .array .int) [.int 0, .int 0, .null] (pc := 9) dX0_init_9 rfl inX0 tyX0_ok nmX0 (fun _ => rfl) (by decide) lf_X0_9 rfl rfl rfl (by decide +kernel) rfl rfl (Nat.le_of_ble_eq_true rfl) 1 (by decide) (fun _ => ⟨_, rfl⟩) ?_
  refine i_aload (pc := 12) dX0_init_12 ?_
  refine i_iconst (pc := 13) 2 dX0_init_13 (by decide) ?_
  refine i_iconst (pc := 14) 5 dX0_init_14 (by decide) ?_
  refine i_eq (ws' := fun cA => qw b cA (fun _ _ => 0) [1, 2]) (fun _ => rfl) ?_
  refine i_callv (k := 1) (ci := 0) (K := [1, 2]) (σ := fun _ _ => 0) (σ' := qG0) (r := 0) (nL' := 3) (fr' := 1) (lo' := 22) [.int 2, .int 5] (fun _ => []) [0, 1] [] (pc := 15) dX0_init_15 lm_X0_15 yX0_lay_ok yX0_lay_in ⟨by decide, rfl⟩ (by decide) rfl ?_ (by decide) rfl rfl (fun _ => rfl) (fun _ => rfl) (by decide) (by decide) (Nat.le_of_ble_eq_true rfl) ⟨by decide, by decide⟩ (by decide) (by decide) ?_
  · have h := sX0_lay (b := b) (K := [1, 2]) ⟨by decide, by decide⟩ (k0 := 1) ⟨by decide, rfl⟩ 2 5 (fun _ _ => 0)
    rw [e_lay] at h
    exact h
  refine i_eq (ws' := (fun cA => qw b cA qG0 [1, 2])) (fun _ => rfl) ?_
  exact i_return (pc := 18) dX0_init_18
/-- the store of a new LineSearch -/
def qL00 : qSt := fun k j => if k = 0 then (if j = 0 then 1 else if j = 1 then 1 else 0) else if k = 1 then qG0 1 j else if k = 2 then qG0 2 j else 0
set_option maxRecDepth 20000 in
set_option maxHeartbeats 4000000 in
theorem ci_X3_0 (b : Nat) : qSI yX3_init cX3_init 3 64 17 1238 b 0 3 [.int 0, .int 0, .null, .null, .null, .null, .null, .int 0, .int 0, .int 0, .int 0] 18 (fun cA => qw b cA qL00 [0, 1, 2, 3, 4, 5, 6, 7, 8, 9, 10, 11, 12, 13, 14, 15, 16, 17]) := by
  refine qSI_of (own := RX3) rfl rfl (by decide) ?_
  refine i_aload (pc := 0) dX3_init_0 ?_
  refine i_obj (pc := 1) dX3_init_1 lm_X3_3 w_o1 w_o2 (by decide) (by decide) ?_
  refine i_aload (pc := 4) dX3_init_4 ?_
  refine i_iconst (pc := 5) 1 dX3_init_5 (by decide) ?_
  refine i_put (q0 := 0) (ci := 3) (j := 0) (ty0 := tyX3) (ty := .int) [.int 0, .int 0, .null, .null, .null, .null, .null, .int 0, .int 0, .int 0, .int 0] (pc := 6) dX3_init_6 rfl inX3 tyX3_ok nmX3 (fun _ => rfl) (by decide) lf_X3_9 rfl (by decide +kernel) rfl rfl (Nat.le_of_ble_eq_true rfl) 0 (by decide) (fun _ => ⟨_, rfl⟩) ?_
  refine i_aload (pc := 9) dX3_init_9 ?_
  refine i_iconst (pc := 10) 1 dX3_init_10 (by decide) ?_
  refine i_put (q0 := 0) (ci := 3) (j := 1) (ty0 := tyX3) (ty := .int) [.int 1, .int 0, .null, .null, .null, .null, .null, .int 0, .int 0, .int 0, .int 0] (pc := 11) dX3_init_11 rfl inX3 tyX3_ok nmX3 (fun _ => rfl) (by decide) lf_X3_13 rfl (by decide +kernel) rfl rfl (Nat.le_of_ble_eq_true rfl) 0 (by decide) (fun _ => ⟨_, rfl⟩) ?_
  refine i_aload (pc := 14) dX3_init_14 ?_
  refine i_new (ci := 0) (ty := tyX0) [.int 0, .int 0, .null] (pc := 15) dX3_init_15 rfl inX0 tyX0_ok lk_X3_16 wi_X0 wn_X0 (by decide) (by decide) (by decide) ?_
  refine i_dup (pc := 18) dX3_init_18 rfl ?_
  refine i_init (k := 1) (ci := 0) (nE' := 3) (mc := 1) (ms := 27) (w1 := (fun cA => qw b cA qG0 [1, 2])) (fun cA => [(b + 0, .inr (3, [.int 1, .int 1, .null, .null, .null, .null, .null, .int 0, .int 0, .int 0, .int 0]))]) [1] [0] (pc := 19) dX3_init_19 lm_X3_18 yX0_init_ok yX0_init_in rfl (ci_X0_1 b) rfl rfl (fun _ => rfl) (fun _ => rfl) (by decide) (by decide) (Nat.le_of_ble_eq_true rfl) ⟨by decide, by decide⟩ (by decide) (by decide) ?_
  refine i_putF (q0 := 0) (ci := 3) (j := 2) (ty0 := tyX3) (ty := .object "LineSearch$Ground") [.int 1, .int 1, .null, .null, .null, .null, .null, .int 0, .int 0, .int 0, .int 0] (pc := 22) dX3_init_22 rfl inX3 tyX3_ok nmX3 (fun _ => rfl) (by decide) lf_X3_19 rfl rfl rfl (by decide +kernel) rfl rfl (Nat.le_of_ble_eq_true rfl) 2 (by decide) (fun _ => ⟨_, rfl⟩) ?_
  refine i_aload (pc := 25) dX3_init_25 ?_
  refine i_new (ci := 2) (ty := tyX2) [.null, .null, .int 0] (pc := 26) dX3_init_26 rfl inX2 tyX2_ok lk_X3_23 wi_X2 wn_X2 (by decide) (by decide) (by decide) ?_
  refine i_dup (pc := 29) dX3_init_29 rfl ?_
  refine i_init (k := 3) (ci := 2) (nE' := 6) (mc := 2) (ms := 60) (w1 := (fun cA => qw b cA (fun _ _ => 0) [3, 4, 5])) (fun cA => [(b + 0, .inr (3, [.int 1, .int 1, .ref (b + 1), .null, .null, .null, .null, .int 0, .int 0, .int 0, .int 0])), (b + 1, qent b cA qG0 1), (b + 2, qent b cA qG0 2)]) [3] [0, 1, 2] (pc := 30) dX3_init_30 lm_X3_25 yX2_init_ok yX2_init_in rfl (ci_X2_3 b) rfl rfl (fun _ => rfl) (fun _ => rfl) (by decide) (by decide) (Nat.le_of_ble_eq_true rfl) ⟨by decide, by decide⟩ (by decide) (by decide) ?_
  refine i_putF (q0 := 0) (ci := 3) (j := 3) (ty0 := tyX3) (ty := .object "LineSearch$Plan") [.int 1, .int 1, .ref (b + 1), .null, .null, .null, .null, .int 0, .int 0, .int 0, .int 0] (pc := 33) dX3_init_33 rfl inX3 tyX3_ok nmX3 (fun _ => rfl) (by decide) lf_X3_26 rfl rfl rfl (by decide +kernel) rfl rfl (Nat.le_of_ble_eq_true rfl) 5 (by decide) (fun _ => ⟨_, rfl⟩) ?_
  refine i_aload (pc := 36) dX3_init_36 ?_
  refine i_new (ci := 1) (ty := tyX1) [.int 0, .int 0, .null, .null, .int 0, .null, .null, .null] (pc := 37) dX3_init_37 rfl inX1 tyX1_ok lk_X3_30 wi_X1 wn_X1 (by decide) (by decide) (by decide) ?_
  refine i_dup (pc := 40) dX3_init_40 rfl ?_
  refine i_init (k := 6) (ci := 1) (nE' := 12) (mc := 5) (ms := 1011) (w1 := (fun cA => qw b cA (fun _ _ => 0) [6, 7, 8, 9, 10, 11])) (fun cA => [(b + 0, .inr (3, [.int 1, .int 1, .ref (b + 1), .ref (b + 3), .null, .null, .null, .int 0, .int 0, .int 0, .int 0])), (b + 1, qent b cA qG0 1), (b + 2, qent b cA qG0 2), (b + 3, qent b cA (fun _ _ => 0) 3), (b + 4, qent b cA (fun _ _ => 0) 4), (b + 5, qent b cA (fun _ _ => 0) 5)]) [6] [0, 1, 2, 3, 4, 5] (pc := 41) dX3_init_41 lm_X3_32 yX1_init_ok yX1_init_in rfl (ci_X1_6 b) rfl rfl (fun _ => rfl) (fun _ => rfl) (by decide) (by decide) (Nat.le_of_ble_eq_true rfl) ⟨by decide, by decide⟩ (by decide) (by decide) ?_
  refine i_putF (q0 := 0) (ci := 3) (j := 4) (ty0 := tyX3) (ty := .object "LineSearch$Outlook") [.int 1, .int 1, .ref (b + 1), .ref (b + 3), .null, .null, .null, .int 0, .int 0, .int 0, .int 0] (pc := 44) dX3_init_44 rfl inX3 tyX3_ok nmX3 (fun _ => rfl) (by decide) lf_X3_33 rfl rfl rfl (by decide +kernel) rfl rfl (Nat.le_of_ble_eq_true rfl) 11 (by decide) (fun _ => ⟨_, rfl⟩) ?_
  refine i_aload (pc := 47) dX3_init_47 ?_
  refine i_new (ci := 2) (ty := tyX2) [.null, .null, .int 0] (pc := 48) dX3_init_48 rfl inX2 tyX2_ok lk_X3_23 wi_X2 wn_X2 (by decide) (by decide) (by decide) ?_
  refine i_dup (pc := 51) dX3_init_51 rfl ?_
  refine i_init (k := 12) (ci := 2) (nE' := 15) (mc := 2) (ms := 60) (w1 := (fun cA => qw b cA (fun _ _ => 0) [12, 13, 14])) (fun cA => [(b + 0, .inr (3, [.int 1, .int 1, .ref (b + 1), .ref (b + 3), .ref (b + 6), .null, .null, .int 0, .int 0, .int 0, .int 0])), (b + 1, qent b cA qG0 1), (b + 2, qent b cA qG0 2), (b + 3, qent b cA (fun _ _ => 0) 3), (b + 4, qent b cA (fun _ _ => 0) 4), (b + 5, qent b cA (fun _ _ => 0) 5), (b + 6, qent b cA (fun _ _ => 0) 6), (b + 7, qent b cA (fun _ _ => 0) 7), (b + 8, qent b cA (fun _ _ => 0) 8), (b + 9, qent b cA (fun _ _ => 0) 9), (b + 10, qent b cA (fun _ _ => 0) 10), (b + 11, qent b cA (fun _ _ => 0) 11)]) [12] [0, 1, 2, 3, 4, 5, 6, 7, 8, 9, 10, 11] (pc := 52) dX3_init_52 lm_X3_25 yX2_init_ok yX2_init_in rfl (ci_X2_12 b) rfl rfl (fun _ => rfl) (fun _ => rfl) (by decide) (by decide) (Nat.le_of_ble_eq_true rfl) ⟨by decide, by decide⟩ (by decide) (by decide) ?_
  refine i_putF (q0 := 0) (ci := 3) (j := 5) (ty0 := tyX3) (ty := .object "LineSearch$Plan") [.int 1, .int 1, .ref (b + 1), .ref (b + 3), .ref (b + 6), .null, .null, .int 0, .int 0, .int 0, .int 0] (pc := 55) dX3_init_55 rfl inX3 tyX3_ok nmX3 (fun _ => rfl) (by decide) lf_X3_37 rfl rfl rfl (by decide +kernel) rfl rfl (Nat.le_of_ble_eq_true rfl) 14 (by decide) (fun _ => ⟨_, rfl⟩) ?_
  refine i_aload (pc := 58) dX3_init_58 ?_
  refine i_new (ci := 2) (ty := tyX2) [.null, .null, .int 0] (pc := 59) dX3_init_59 rfl inX2 tyX2_ok lk_X3_23 wi_X2 wn_X2 (by decide) (by decide) (by decide) ?_
  refine i_dup (pc := 62) dX3_init_62 rfl ?_
  refine i_init (k := 15) (ci := 2) (nE' := 18) (mc := 2) (ms := 60) (w1 := (fun cA => qw b cA (fun _ _ => 0) [15, 16, 17])) (fun cA => [(b + 0, .inr (3, [.int 1, .int 1, .ref (b + 1), .ref (b + 3), .ref (b + 6), .ref (b + 12), .null, .int 0, .int 0, .int 0, .int 0])), (b + 1, qent b cA qG0 1), (b + 2, qent b cA qG0 2), (b + 3, qent b cA (fun _ _ => 0) 3), (b + 4, qent b cA (fun _ _ => 0) 4), (b + 5, qent b cA (fun _ _ => 0) 5), (b + 6, qent b cA (fun _ _ => 0) 6), (b + 7, qent b cA (fun _ _ => 0) 7), (b + 8, qent b cA (fun _ _ => 0) 8), (b + 9, qent b cA (fun _ _ => 0) 9), (b + 10, qent b cA (fun _ _ => 0) 10), (b + 11, qent b cA (fun _ _ => 0) 11), (b + 12, qent b cA (fun _ _ => 0) 12), (b + 13, qent b cA (fun _ _ => 0) 13), (b + 14, qent b cA (fun _ _ => 0) 14)]) [15] [0, 1, 2, 3, 4, 5, 6, 7, 8, 9, 10, 11, 12, 13, 14] (pc := 63) dX3_init_63 lm_X3_25 yX2_init_ok yX2_init_in rfl (ci_X2_15 b) rfl rfl (fun _ => rfl) (fun _ => rfl) (by decide) (by decide) (Nat.le_of_ble_eq_true rfl) ⟨by decide, by decide⟩ (by decide) (by decide) ?_
  refine i_putF (q0 := 0) (ci := 3) (j := 6) (ty0 := tyX3) (ty := .object "LineSearch$Plan") [.int 1, .int 1, .ref (b + 1), .ref (b + 3), .ref (b + 6), .ref (b + 12), .null, .int 0, .int 0, .int 0, .int 0] (pc := 66) dX3_init_66 rfl inX3 tyX3_ok nmX3 (fun _ => rfl) (by decide) lf_X3_40 rfl rfl rfl (by decide +kernel) rfl rfl (Nat.le_of_ble_eq_true rfl) 17 (by decide) (fun _ => ⟨_, rfl⟩) ?_
  refine i_aload (pc := 69) dX3_init_69 ?_
  refine i_iconst (pc := 70) 0 dX3_init_70 (by decide) ?_
  refine i_put (q0 := 0) (ci := 3) (j := 7) (ty0 := tyX3) (ty := .boolean) [.int 1, .int 1, .ref (b + 1), .ref (b + 3), .ref (b + 6), .ref (b + 12), .ref (b + 15), .int 0, .int 0, .int 0, .int 0] (pc := 71) dX3_init_71 rfl inX3 tyX3_ok nmX3 (fun _ => rfl) (by decide) lf_X3_43 rfl (by decide +kernel) rfl rfl (Nat.le_of_ble_eq_true rfl) 17 (by decide) (fun _ => ⟨_, rfl⟩) ?_
  refine i_aload (pc := 74) dX3_init_74 ?_
  refine i_iconst (pc := 75) 0 dX3_init_75 (by decide) ?_
  refine i_put (q0 := 0) (ci := 3) (j := 8) (ty0 := tyX3) (ty := .boolean) [.int 1, .int 1, .ref (b + 1), .ref (b + 3), .ref (b + 6), .ref (b + 12), .ref (b + 15), .int 0, .int 0, .int 0, .int 0] (pc := 76) dX3_init_76 rfl inX3 tyX3_ok nmX3 (fun _ => rfl) (by decide) lf_X3_47 rfl (by decide +kernel) rfl rfl (Nat.le_of_ble_eq_true rfl) 17 (by decide) (fun _ => ⟨_, rfl⟩) ?_
  refine i_aload (pc := 79) dX3_init_79 ?_
  refine i_iconst (pc := 80) 0 dX3_init_80 (by decide) ?_
  refine i_put (q0 := 0) (ci := 3) (j := 9) (ty0 := tyX3) (ty := .int) [.int 1, .int 1, .ref (b + 1), .ref (b + 3), .ref (b + 6), .ref (b + 12), .ref (b + 15), .int 0, .int 0, .int 0, .int 0] (pc := 81) dX3_init_81 rfl inX3 tyX3_ok nmX3 (fun _ => rfl) (by decide) lf_X3_50 rfl (by decide +kernel) rfl rfl (Nat.le_of_ble_eq_true rfl) 17 (by decide) (fun _ => ⟨_, rfl⟩) ?_
  refine i_aload (pc := 84) dX3_init_84 ?_
  refine i_iconst (pc := 85) 0 dX3_init_85 (by decide) ?_
  refine i_put (q0 := 0) (ci := 3) (j := 10) (ty0 := tyX3) (ty := .int) [.int 1, .int 1, .ref (b + 1), .ref (b + 3), .ref (b + 6), .ref (b + 12), .ref (b + 15), .int 0, .int 0, .int 0, .int 0] (pc := 86) dX3_init_86 rfl inX3 tyX3_ok nmX3 (fun _ => rfl) (by decide) lf_X3_53 rfl (by decide +kernel) rfl rfl (Nat.le_of_ble_eq_true rfl) 17 (by decide) (fun _ => ⟨_, rfl⟩) ?_
  refine i_eq (ws' := (fun cA => qw b cA qL00 [0, 1, 2, 3, 4, 5, 6, 7, 8, 9, 10, 11, 12, 13, 14, 15, 16, 17])) (fun _ => rfl) ?_
  exact i_return (pc := 89) dX3_init_89
def qM0 : qSt := qset (qset (qset (qset (fun _ _ => 0) 18 0 2) 18 1 5) 18 2 1) 18 3 1
def qM1 : qSt := qfill (qset qM0 18 5 0) 19 0 1
set_option maxRecDepth 20000 in
set_option maxHeartbeats 4000000 in
theorem ci_X4_18 (b : Nat) : qSI yX4_init cX4_init 1 21 6 1575 b 18 4 [.int 0, .int 0, .int 0, .int 0, .null, .int 0, .null, .null, .null, .null, .int 0, .null, .int 0, .int 0, .int 0] 25 (fun cA => qw b cA qM1 [18, 19, 20, 21, 22, 23, 24]) := by
  refine qSI_of (own := RX4) rfl rfl (by decide) ?_
  refine i_aload (pc := 0) dX4_init_0 ?_
  refine i_obj (pc := 1) dX4_init_1 lm_X4_1 w_o1 w_o2 (by decide) (by decide) ?_
  refine i_aload (pc := 4) dX4_init_4 ?_
  refine i_iconst (pc := 5) 2 dX4_init_5 (by decide) ?_
  refine i_put (q0 := 0) (ci := 4) (j := 0) (ty0 := tyX4) (ty := .int) [.int 0, .int 0, .int 0, .int 0, .null, .int 0, .null, .null, .null, .null, .int 0, .null, .int 0, .int 0, .int 0] (pc := 6) dX4_init_6 rfl inX4 tyX4_ok nmX4 (fun _ => rfl) (by decide) lf_X4_7 rfl (by decide +kernel) rfl rfl (Nat.le_of_ble_eq_true rfl) 0 (by decide) (fun _ => ⟨_, rfl⟩) ?_
  refine i_aload (pc := 9) dX4_init_9 ?_
  refine i_iconst (pc := 10) 5 dX4_init_10 (by decide) ?_
  refine i_put (q0 := 0) (ci := 4) (j := 1) (ty0 := tyX4) (ty := .int) [.int 2, .int 0, .int 0, .int 0, .null, .int 0, .null, .null, .null, .null, .int 0, .null, .int 0, .int 0, .int 0] (pc := 11) dX4_init_11 rfl inX4 tyX4_ok nmX4 (fun _ => rfl) (by decide) lf_X4_13 rfl (by decide +kernel) rfl rfl (Nat.le_of_ble_eq_true rfl) 0 (by decide) (fun _ => ⟨_, rfl⟩) ?_
  refine i_aload (pc := 14) dX4_init_14 ?_
  refine i_iconst (pc := 15) 1 dX4_init_15 (by decide) ?_
  refine i_put (q0 := 0) (ci := 4) (j := 2) (ty0 := tyX4) (ty := .int) [.int 2, .int 5, .int 0, .int 0, .null, .int 0, .null, .null, .null, .null, .int 0, .null, .int 0, .int 0, .int 0] (pc := 16) dX4_init_16 rfl inX4 tyX4_ok nmX4 (fun _ => rfl) (by decide) lf_X4_16 rfl (by decide +kernel) rfl rfl (Nat.le_of_ble_eq_true rfl) 0 (by decide) (fun _ => ⟨_, rfl⟩) ?_
  refine i_aload (pc := 19) dX4_init_19 ?_
  refine i_iconst (pc := 20) 1 dX4_init_20 (by decide) ?_
  refine i_put (q0 := 0) (ci := 4) (j := 3) (ty0 := tyX4) (ty := .int) [.int 2, .int 5, .int 1, .int 0, .null, .int 0, .null, .null, .null, .null, .int 0, .null, .int 0, .int 0, .int 0] (pc := 21) dX4_init_21 rfl inX4 tyX4_ok nmX4 (fun _ => rfl) (by decide) lf_X4_19 rfl (by decide +kernel) rfl rfl (Nat.le_of_ble_eq_true rfl) 0 (by decide) (fun _ => ⟨_, rfl⟩) ?_
  refine i_aload (pc := 24) dX4_init_24 ?_
  refine i_bipush (pc := 25) 27 dX4_init_25 (by decide) ?_
  refine i_newa (N := 27) (pc := 27) dX4_init_27 w_arr (by decide) (by decide) (by decide) (by decide) (by decide) ?_
  refine i_putF (q0 := 0) (ci := 4) (j := 4) (ty0 := tyX4) (ty := .array .int) [.int 2, .int 5, .int 1, .int 1, .null, .int 0, .null, .null, .null, .null, .int 0, .null, .int 0, .int 0, .int 0] (pc := 29) dX4_init_29 rfl inX4 tyX4_ok nmX4 (fun _ => rfl) (by decide) lf_X4_22 rfl rfl rfl (by decide +kernel) rfl rfl (Nat.le_of_ble_eq_true rfl) 1 (by decide) (fun _ => ⟨_, rfl⟩) ?_
  refine i_aload (pc := 32) dX4_init_32 ?_
  refine i_bipush (pc := 33) 30 dX4_init_33 (by decide) ?_
  refine i_newa (N := 30) (pc := 35) dX4_init_35 w_arr (by decide) (by decide) (by decide) (by decide) (by decide) ?_
  refine i_putF (q0 := 0) (ci := 4) (j := 6) (ty0 := tyX4) (ty := .array .int) [.int 2, .int 5, .int 1, .int 1, .ref (b + 19), .int 0, .null, .null, .null, .null, .int 0, .null, .int 0, .int 0, .int 0] (pc := 37) dX4_init_37 rfl inX4 tyX4_ok nmX4 (fun _ => rfl) (by decide) lf_X4_26 rfl rfl rfl (by decide +kernel) rfl rfl (Nat.le_of_ble_eq_true rfl) 2 (by decide) (fun _ => ⟨_, rfl⟩) ?_
  refine i_aload (pc := 40) dX4_init_40 ?_
  refine i_bipush (pc := 41) 30 dX4_init_41 (by decide) ?_
  refine i_newa (N := 30) (pc := 43) dX4_init_43 w_arr (by decide) (by decide) (by decide) (by decide) (by decide) ?_
  refine i_putF (q0 := 0) (ci := 4) (j := 7) (ty0 := tyX4) (ty := .array .int) [.int 2, .int 5, .int 1, .int 1, .ref (b + 19), .int 0, .ref (b + 20), .null, .null, .null, .int 0, .null, .int 0, .int 0, .int 0] (pc := 45) dX4_init_45 rfl inX4 tyX4_ok nmX4 (fun _ => rfl) (by decide) lf_X4_29 rfl rfl rfl (by decide +kernel) rfl rfl (Nat.le_of_ble_eq_true rfl) 3 (by decide) (fun _ => ⟨_, rfl⟩) ?_
  refine i_aload (pc := 48) dX4_init_48 ?_
  refine i_sipush (pc := 49) 729 dX4_init_49 (by decide) ?_
  refine i_newa (N := 729) (pc := 52) dX4_init_52 w_arr (by decide) (by decide) (by decide) (by decide) (by decide) ?_
  refine i_putF (q0 := 0) (ci := 4) (j := 8) (ty0 := tyX4) (ty := .array .int) [.int 2, .int 5, .int 1, .int 1, .ref (b + 19), .int 0, .ref (b + 20), .ref (b + 21), .null, .null, .int 0, .null, .int 0, .int 0, .int 0] (pc := 54) dX4_init_54 rfl inX4 tyX4_ok nmX4 (fun _ => rfl) (by decide) lf_X4_32 rfl rfl rfl (by decide +kernel) rfl rfl (Nat.le_of_ble_eq_true rfl) 4 (by decide) (fun _ => ⟨_, rfl⟩) ?_
  refine i_aload (pc := 57) dX4_init_57 ?_
  refine i_sipush (pc := 58) 729 dX4_init_58 (by decide) ?_
  refine i_newa (N := 729) (pc := 61) dX4_init_61 w_arr (by decide) (by decide) (by decide) (by decide) (by decide) ?_
  refine i_putF (q0 := 0) (ci := 4) (j := 9) (ty0 := tyX4) (ty := .array .int) [.int 2, .int 5, .int 1, .int 1, .ref (b + 19), .int 0, .ref (b + 20), .ref (b + 21), .ref (b + 22), .null, .int 0, .null, .int 0, .int 0, .int 0] (pc := 63) dX4_init_63 rfl inX4 tyX4_ok nmX4 (fun _ => rfl) (by decide) lf_X4_35 rfl rfl rfl (by decide +kernel) rfl rfl (Nat.le_of_ble_eq_true rfl) 5 (by decide) (fun _ => ⟨_, rfl⟩) ?_
  refine i_aload (pc := 66) dX4_init_66 ?_
  refine i_bipush (pc := 67) 30 dX4_init_67 (by decide) ?_
  refine i_newa (N := 30) (pc := 69) dX4_init_69 w_arr (by decide) (by decide) (by decide) (by decide) (by decide) ?_
  refine i_putF (q0 := 0) (ci := 4) (j := 11) (ty0 := tyX4) (ty := .array .int) [.int 2, .int 5, .int 1, .int 1, .ref (b + 19), .int 0, .ref (b + 20), .ref (b + 21), .ref (b + 22), .ref (b + 23), .int 0, .null, .int 0, .int 0, .int 0] (pc := 71) dX4_init_71 rfl inX4 tyX4_ok nmX4 (fun _ => rfl) (by decide) lf_X4_38 rfl rfl rfl (by decide +kernel) rfl rfl (Nat.le_of_ble_eq_true rfl) 6 (by decide) (fun _ => ⟨_, rfl⟩) ?_
  refine i_aload (pc := 74) dX4_init_74 ?_
  refine i_eq (ws' := fun cA => qw b cA qM0 [18, 19, 20, 21, 22, 23, 24]) (fun _ => rfl) ?_
  refine i_callv (k := 18) (ci := 4) (K := [18, 19, 20, 21, 22, 23, 24]) (σ := qM0) (σ' := qM1) (r := 0) (nL' := 2) (fr' := 0) (lo' := 0) [] (fun _ => []) [0, 1, 2, 3, 4, 5, 6] [] (pc := 75) dX4_init_75 lm_X4_41 yX4_begin_ok yX4_begin_in ⟨by decide, rfl⟩ (by decide) rfl ?_ (by decide) rfl rfl (fun _ => rfl) (fun _ => rfl) (by decide) (by decide) (Nat.le_of_ble_eq_true rfl) ⟨by decide, by decide⟩ (by decide) (by decide) ?_
  · have h := sX4_begin (b := b) (K := [18, 19, 20, 21, 22, 23, 24]) ⟨by decide, by decide⟩ (k0 := 18) ⟨by decide, rfl⟩ qM0
    rw [e_begin] at h
    exact h
  refine i_eq (ws' := (fun cA => qw b cA qM1 [18, 19, 20, 21, 22, 23, 24])) (fun _ => rfl) ?_
  exact i_return (pc := 78) dX4_init_78
