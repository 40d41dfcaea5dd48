/-! ===== by program (gen.py): the walk of methods ===== -/
-- LineSearchModel.in(III)Z
def fX4_in_b (x0 x1 x2 : Int32) (sg : qSt) : qR :=
  if x0 < x1 then
    some (0, sg)
  else
  if x2 < x0 then
    some (0, sg)
  else
  some (1, sg)
def fX4_in (x0 x1 x2 : Int32) (sg : qSt) : qR := qz (fX4_in_b x0 x1 x2 sg)
set_option maxRecDepth 20000 in
set_option maxHeartbeats 4000000 in
theorem sX4_in {b : Nat} {K : List Nat} (hK : qOk K) (x0 x1 x2 : Int32) (sg : qSt) : qS yX4_in cX4_in 3 (some .boolean) 0 0 b K [.int x0, .int x1, .int x2] sg (fX4_in x0 x1 x2 sg) := by
  refine qS_of (own := RX4) rfl (by decide) hK.1 (by simp [Value.category]) (Nat.le_of_ble_eq_true rfl) (fun z hz ty h => by cases h; exact qz_bool hz) ?_
  show qJ RX4 cX4_in 3 0 0 false (fun _ _ => True) b K 0 [some (.int x0), some (.int x1), some (.int x2)] [] sg (fX4_in x0 x1 x2 sg)
  refine qJ_qz ?_
  unfold fX4_in_b
  refine q_iload_n (pc := 0) dX4_in_0 rfl ?_
  refine q_iload_n (pc := 1) dX4_in_1 rfl ?_
  refine q_icmp_lt (pc := 2) 14 dX4_in_2 (by decide) ?_ ?_
  · refine q_iconst (pc := 14) 0 dX4_in_14 (by decide) ?_
    exact q_ireturn (pc := 15) dX4_in_15
  refine q_iload_n (pc := 5) dX4_in_5 rfl ?_
  refine q_iload_n (pc := 6) dX4_in_6 rfl ?_
  refine q_icmp_gt (pc := 7) 14 dX4_in_7 (by decide) ?_ ?_
  · refine q_iconst (pc := 14) 0 dX4_in_14 (by decide) ?_
    exact q_ireturn (pc := 15) dX4_in_15
  refine q_iconst (pc := 10) 1 dX4_in_10 (by decide) ?_
  refine q_goto (pc := 11) 15 dX4_in_11 (by decide) ?_
  exact q_ireturn (pc := 15) dX4_in_15
-- LineSearchModel.begin()V
def fX4_begin_7 (k0 : Nat) : Nat → Int32 → qSt → qR
  | 0, _, _ => none
  | n + 1, x1, sg =>
    if 27 ≤ x1 then
      some (0, sg)
    else
    if qin x1 (qlen (k0 + 1)) then
    fX4_begin_7 k0 n ((x1 + 1)) (qset sg (k0 + 1) (Int32.toNatClampNeg x1) 1)
    else none
set_option maxRecDepth 20000 in
set_option maxHeartbeats 4000000 in
theorem tX4_begin_7 {b : Nat} {K : List Nat} (hK : qOk K) {k0 : Nat} (h0 : qIn K k0 4) : ∀ (n : Nat) (x1 : Int32) (sg : qSt), qJ RX4 cX4_begin 2 0 0 true (fun _ _ => True) b K 7 [some (.ref (b + k0)), some (.int x1)] [] sg (fX4_begin_7 k0 n x1 sg) := by
  intro n
  induction n with
  | zero => intro x1 sg; exact qJ_none
  | succ n ih =>
    intro x1 sg
    unfold fX4_begin_7
    refine q_iload_n (pc := 7) dX4_begin_7 rfl ?_
    refine q_bipush (pc := 8) 27 dX4_begin_8 (by decide) ?_
    refine q_icmp_ge (pc := 10) 26 dX4_begin_10 (by decide) ?_ ?_
    · exact q_return (pc := 26) dX4_begin_26
    refine q_aload_n (pc := 13) dX4_begin_13 rfl ?_
    refine qg_4_4 (pc := 14) dX4_begin_14 h0 lf_X4_22 ?_
    refine q_iload_n (pc := 17) dX4_begin_17 rfl ?_
    refine q_iconst (pc := 18) 1 dX4_begin_18 (by decide) ?_
    refine q_iast (pc := 19) dX4_begin_19 (qch_4_4 hK h0) ?_
    refine q_iinc (pc := 20) 1 dX4_begin_20 rfl (by decide) (by decide) ?_
    refine q_goto (pc := 23) 7 dX4_begin_23 (by decide) ?_
    exact ih ((x1 + 1)) (qset sg (k0 + 1) (Int32.toNatClampNeg x1) 1)
def fX4_begin (k0 : Nat) (sg : qSt) : qR :=
  fX4_begin_7 k0 qfu 0 (qset sg k0 5 0)
set_option maxRecDepth 20000 in
set_option maxHeartbeats 4000000 in
theorem sX4_begin {b : Nat} {K : List Nat} (hK : qOk K) {k0 : Nat} (h0 : qIn K k0 4) (sg : qSt) : qS yX4_begin cX4_begin 2 none 0 0 b K [.ref (b + k0)] sg (fX4_begin k0 sg) := by
  refine qS_of (own := RX4) rfl (by decide) hK.1 (by simp [Value.category]) (Nat.le_of_ble_eq_true rfl) (fun z _ ty h => by cases h) ?_
  show qJ RX4 cX4_begin 2 0 0 true (fun _ _ => True) b K 0 [some (.ref (b + k0)), none] [] sg (fX4_begin k0 sg)
  unfold fX4_begin
  refine q_aload_n (pc := 0) dX4_begin_0 rfl ?_
  refine q_iconst (pc := 1) 0 dX4_begin_1 (by decide) ?_
  refine qp_4_5 (pc := 2) dX4_begin_2 h0 lf_X4_44 ?_
  refine q_iconst (pc := 5) 0 dX4_begin_5 (by decide) ?_
  refine q_istore_n (pc := 6) dX4_begin_6 (by decide) ?_
  exact tX4_begin_7 hK h0 qfu 0 (qset sg k0 5 0)
-- LineSearchModel.isPlace(II)Z
def fX4_isPlace_b (k0 : Nat) (x1 x2 : Int32) (sg : qSt) : qR :=
  qb (fX4_in x1 0 ((sg k0 0) - 1) sg) fun r1 s2 =>
  if r1 = 0 then
    some (0, s2)
  else
  qb (fX4_in x2 1 (s2 k0 1) s2) fun r3 s4 =>
  if r3 = 0 then
    some (0, s4)
  else
  some (1, s4)
def fX4_isPlace (k0 : Nat) (x1 x2 : Int32) (sg : qSt) : qR := qz (fX4_isPlace_b k0 x1 x2 sg)
set_option maxRecDepth 20000 in
set_option maxHeartbeats 4000000 in
theorem sX4_isPlace {b : Nat} {K : List Nat} (hK : qOk K) {k0 : Nat} (h0 : qIn K k0 4) (x1 x2 : Int32) (sg : qSt) : qS yX4_isPlace cX4_isPlace 3 (some .boolean) 1 22 b K [.ref (b + k0), .int x1, .int x2] sg (fX4_isPlace k0 x1 x2 sg) := by
  refine qS_of (own := RX4) rfl (by decide) hK.1 (by simp [Value.category]) (Nat.le_of_ble_eq_true rfl) (fun z hz ty h => by cases h; exact qz_bool hz) ?_
  show qJ RX4 cX4_isPlace 3 1 22 false (fun _ _ => True) b K 0 [some (.ref (b + k0)), some (.int x1), some (.int x2)] [] sg (fX4_isPlace k0 x1 x2 sg)
  refine qJ_qz ?_
  unfold fX4_isPlace_b
  refine q_iload_n (pc := 0) dX4_isPlace_0 rfl ?_
  refine q_iconst (pc := 1) 0 dX4_isPlace_1 (by decide) ?_
  refine q_aload_n (pc := 2) dX4_isPlace_2 rfl ?_
  refine qg_4_0 (pc := 3) dX4_isPlace_3 h0 lf_X4_7 ?_
  refine q_iconst (pc := 6) 1 dX4_isPlace_6 (by decide) ?_
  refine q_isub (pc := 7) dX4_isPlace_7 ?_
  refine q_callSi (pc := 8) [.int x1, .int 0, .int (((sg k0 0) - 1))] dX4_isPlace_8 lm_X4_47 yX4_in_ok yX4_in_in (sX4_in hK x1 0 ((sg k0 0) - 1) sg) rfl rfl (Nat.le_of_ble_eq_true rfl) ⟨by decide, by decide⟩ (fun r1 s2 => ?_)
  refine q_if_eq (pc := 11) 30 dX4_isPlace_11 (by decide) ?_ ?_
  · refine q_iconst (pc := 30) 0 dX4_isPlace_30 (by decide) ?_
    exact q_ireturn (pc := 31) dX4_isPlace_31
  refine q_iload_n (pc := 14) dX4_isPlace_14 rfl ?_
  refine q_iconst (pc := 15) 1 dX4_isPlace_15 (by decide) ?_
  refine q_aload_n (pc := 16) dX4_isPlace_16 rfl ?_
  refine qg_4_1 (pc := 17) dX4_isPlace_17 h0 lf_X4_13 ?_
  refine q_callSi (pc := 20) [.int x2, .int 1, .int ((s2 k0 1))] dX4_isPlace_20 lm_X4_47 yX4_in_ok yX4_in_in (sX4_in hK x2 1 (s2 k0 1) s2) rfl rfl (Nat.le_of_ble_eq_true rfl) ⟨by decide, by decide⟩ (fun r3 s4 => ?_)
  refine q_if_eq (pc := 23) 30 dX4_isPlace_23 (by decide) ?_ ?_
  · refine q_iconst (pc := 30) 0 dX4_isPlace_30 (by decide) ?_
    exact q_ireturn (pc := 31) dX4_isPlace_31
  refine q_iconst (pc := 26) 1 dX4_isPlace_26 (by decide) ?_
  refine q_goto (pc := 27) 31 dX4_isPlace_27 (by decide) ?_
  exact q_ireturn (pc := 31) dX4_isPlace_31
-- LineSearchModel.rays(II)I
def fX4_rays (k0 : Nat) (x1 x2 : Int32) (sg : qSt) : qR :=
  qb (fX4_in x1 2 3 sg) fun r1 s2 =>
  if r1 = 0 then
    some ((-2), s2)
  else
  qb (fX4_in x2 1 8 s2) fun r3 s4 =>
  if r3 = 0 then
    some ((-2), s4)
  else
  qb (fX4_begin k0 (qset (qset s4 k0 0 x1) k0 1 x2)) fun r5 s6 =>
  some ((x1 * x2), s6)
set_option maxRecDepth 20000 in
set_option maxHeartbeats 4000000 in
theorem sX4_rays {b : Nat} {K : List Nat} (hK : qOk K) {k0 : Nat} (h0 : qIn K k0 4) (x1 x2 : Int32) (sg : qSt) : qS yX4_rays cX4_rays 3 (some .int) 1 22 b K [.ref (b + k0), .int x1, .int x2] sg (fX4_rays k0 x1 x2 sg) := by
  refine qS_of (own := RX4) rfl (by decide) hK.1 (by simp [Value.category]) (Nat.le_of_ble_eq_true rfl) (fun z _ ty h => by cases h; exact vp_nar_int _) ?_
  show qJ RX4 cX4_rays 3 1 22 false (fun _ _ => True) b K 0 [some (.ref (b + k0)), some (.int x1), some (.int x2)] [] sg (fX4_rays k0 x1 x2 sg)
  unfold fX4_rays
  refine q_iload_n (pc := 0) dX4_rays_0 rfl ?_
  refine q_iconst (pc := 1) 2 dX4_rays_1 (by decide) ?_
  refine q_iconst (pc := 2) 3 dX4_rays_2 (by decide) ?_
  refine q_callSi (pc := 3) [.int x1, .int 2, .int 3] dX4_rays_3 lm_X4_47 yX4_in_ok yX4_in_in (sX4_in hK x1 2 3 sg) rfl rfl (Nat.le_of_ble_eq_true rfl) ⟨by decide, by decide⟩ (fun r1 s2 => ?_)
  refine q_if_eq (pc := 6) 19 dX4_rays_6 (by decide) ?_ ?_
  · refine q_bipush (pc := 19) (-2) dX4_rays_19 (by decide) ?_
    exact q_ireturn (pc := 21) dX4_rays_21
  refine q_iload_n (pc := 9) dX4_rays_9 rfl ?_
  refine q_iconst (pc := 10) 1 dX4_rays_10 (by decide) ?_
  refine q_bipush (pc := 11) 8 dX4_rays_11 (by decide) ?_
  refine q_callSi (pc := 13) [.int x2, .int 1, .int 8] dX4_rays_13 lm_X4_47 yX4_in_ok yX4_in_in (sX4_in hK x2 1 8 s2) rfl rfl (Nat.le_of_ble_eq_true rfl) ⟨by decide, by decide⟩ (fun r3 s4 => ?_)
  refine q_if_ne (pc := 16) 22 dX4_rays_16 (by decide) ?_ ?_
  · refine q_aload_n (pc := 22) dX4_rays_22 rfl ?_
    refine q_iload_n (pc := 23) dX4_rays_23 rfl ?_
    refine qp_4_0 (pc := 24) dX4_rays_24 h0 lf_X4_7 ?_
    refine q_aload_n (pc := 27) dX4_rays_27 rfl ?_
    refine q_iload_n (pc := 28) dX4_rays_28 rfl ?_
    refine qp_4_1 (pc := 29) dX4_rays_29 h0 lf_X4_13 ?_
    refine q_aload_n (pc := 32) dX4_rays_32 rfl ?_
    refine q_callVv (pc := 33) [] dX4_rays_33 lm_X4_41 yX4_begin_ok yX4_begin_in h0 (by decide) rfl (sX4_begin hK h0 (qset (qset s4 k0 0 x1) k0 1 x2)) rfl rfl (Nat.le_of_ble_eq_true rfl) ⟨by decide, by decide⟩ (fun r5 s6 => ?_)
    refine q_iload_n (pc := 36) dX4_rays_36 rfl ?_
    refine q_iload_n (pc := 37) dX4_rays_37 rfl ?_
    refine q_imul (pc := 38) dX4_rays_38 ?_
    exact q_ireturn (pc := 39) dX4_rays_39
  refine q_bipush (pc := 19) (-2) dX4_rays_19 (by decide) ?_
  exact q_ireturn (pc := 21) dX4_rays_21
-- LineSearchModel.costs(II)I
def fX4_costs (k0 : Nat) (x1 x2 : Int32) (sg : qSt) : qR :=
  qb (fX4_in x1 1 9 sg) fun r1 s2 =>
  if r1 = 0 then
    some ((-2), s2)
  else
  qb (fX4_in x2 1 9 s2) fun r3 s4 =>
  if r3 = 0 then
    some ((-2), s4)
  else
  some (1, qset (qset s4 k0 2 x1) k0 3 x2)
set_option maxRecDepth 20000 in
set_option maxHeartbeats 4000000 in
theorem sX4_costs {b : Nat} {K : List Nat} (hK : qOk K) {k0 : Nat} (h0 : qIn K k0 4) (x1 x2 : Int32) (sg : qSt) : qS yX4_costs cX4_costs 3 (some .int) 1 22 b K [.ref (b + k0), .int x1, .int x2] sg (fX4_costs k0 x1 x2 sg) := by
  refine qS_of (own := RX4) rfl (by decide) hK.1 (by simp [Value.category]) (Nat.le_of_ble_eq_true rfl) (fun z _ ty h => by cases h; exact vp_nar_int _) ?_
  show qJ RX4 cX4_costs 3 1 22 false (fun _ _ => True) b K 0 [some (.ref (b + k0)), some (.int x1), some (.int x2)] [] sg (fX4_costs k0 x1 x2 sg)
  unfold fX4_costs
  refine q_iload_n (pc := 0) dX4_costs_0 rfl ?_
  refine q_iconst (pc := 1) 1 dX4_costs_1 (by decide) ?_
  refine q_bipush (pc := 2) 9 dX4_costs_2 (by decide) ?_
  refine q_callSi (pc := 4) [.int x1, .int 1, .int 9] dX4_costs_4 lm_X4_47 yX4_in_ok yX4_in_in (sX4_in hK x1 1 9 sg) rfl rfl (Nat.le_of_ble_eq_true rfl) ⟨by decide, by decide⟩ (fun r1 s2 => ?_)
  refine q_if_eq (pc := 7) 20 dX4_costs_7 (by decide) ?_ ?_
  · refine q_bipush (pc := 20) (-2) dX4_costs_20 (by decide) ?_
    exact q_ireturn (pc := 22) dX4_costs_22
  refine q_iload_n (pc := 10) dX4_costs_10 rfl ?_
  refine q_iconst (pc := 11) 1 dX4_costs_11 (by decide) ?_
  refine q_bipush (pc := 12) 9 dX4_costs_12 (by decide) ?_
  refine q_callSi (pc := 14) [.int x2, .int 1, .int 9] dX4_costs_14 lm_X4_47 yX4_in_ok yX4_in_in (sX4_in hK x2 1 9 s2) rfl rfl (Nat.le_of_ble_eq_true rfl) ⟨by decide, by decide⟩ (fun r3 s4 => ?_)
  refine q_if_ne (pc := 17) 23 dX4_costs_17 (by decide) ?_ ?_
  · refine q_aload_n (pc := 23) dX4_costs_23 rfl ?_
    refine q_iload_n (pc := 24) dX4_costs_24 rfl ?_
    refine qp_4_2 (pc := 25) dX4_costs_25 h0 lf_X4_16 ?_
    refine q_aload_n (pc := 28) dX4_costs_28 rfl ?_
    refine q_iload_n (pc := 29) dX4_costs_29 rfl ?_
    refine qp_4_3 (pc := 30) dX4_costs_30 h0 lf_X4_19 ?_
    refine q_iconst (pc := 33) 1 dX4_costs_33 (by decide) ?_
    exact q_ireturn (pc := 34) dX4_costs_34
  refine q_bipush (pc := 20) (-2) dX4_costs_20 (by decide) ?_
  exact q_ireturn (pc := 22) dX4_costs_22
-- LineSearchModel.share(III)I
def fX4_share (k0 : Nat) (x1 x2 x3 : Int32) (sg : qSt) : qR :=
  qb (fX4_isPlace k0 x1 x2 sg) fun r1 s2 =>
  if r1 = 0 then
    some ((-1), s2)
  else
  qb (fX4_in x3 0 100 s2) fun r3 s4 =>
  if r3 = 0 then
    some ((-2), s4)
  else
  if qin ((9 * x1) + x2) (qlen (k0 + 1)) then
  if qin ((9 * x1) + x2) (qlen (k0 + 1)) then
  some ((s4 (k0 + 1) (Int32.toNatClampNeg ((9 * x1) + x2))), qset s4 (k0 + 1) (Int32.toNatClampNeg ((9 * x1) + x2)) x3)
  else none
  else none
set_option maxRecDepth 20000 in
set_option maxHeartbeats 4000000 in
theorem sX4_share {b : Nat} {K : List Nat} (hK : qOk K) {k0 : Nat} (h0 : qIn K k0 4) (x1 x2 x3 : Int32) (sg : qSt) : qS yX4_share cX4_share 5 (some .int) 2 44 b K [.ref (b + k0), .int x1, .int x2, .int x3] sg (fX4_share k0 x1 x2 x3 sg) := by
  refine qS_of (own := RX4) rfl (by decide) hK.1 (by simp [Value.category]) (Nat.le_of_ble_eq_true rfl) (fun z _ ty h => by cases h; exact vp_nar_int _) ?_
  show qJ RX4 cX4_share 5 2 44 false (fun _ _ => True) b K 0 [some (.ref (b + k0)), some (.int x1), some (.int x2), some (.int x3), none] [] sg (fX4_share k0 x1 x2 x3 sg)
  unfold fX4_share
  refine q_aload_n (pc := 0) dX4_share_0 rfl ?_
  refine q_iload_n (pc := 1) dX4_share_1 rfl ?_
  refine q_iload_n (pc := 2) dX4_share_2 rfl ?_
  refine q_callVi (pc := 3) [.int x1, .int x2] dX4_share_3 lm_X4_51 yX4_isPlace_ok yX4_isPlace_in h0 (by decide) rfl (sX4_isPlace hK h0 x1 x2 sg) rfl rfl (Nat.le_of_ble_eq_true rfl) ⟨by decide, by decide⟩ (fun r1 s2 => ?_)
  refine q_if_ne (pc := 6) 11 dX4_share_6 (by decide) ?_ ?_
  · refine q_iload_n (pc := 11) dX4_share_11 rfl ?_
    refine q_iconst (pc := 12) 0 dX4_share_12 (by decide) ?_
    refine q_bipush (pc := 13) 100 dX4_share_13 (by decide) ?_
    refine q_callSi (pc := 15) [.int x3, .int 0, .int 100] dX4_share_15 lm_X4_47 yX4_in_ok yX4_in_in (sX4_in hK x3 0 100 s2) rfl rfl (Nat.le_of_ble_eq_true rfl) ⟨by decide, by decide⟩ (fun r3 s4 => ?_)
    refine q_if_ne (pc := 18) 24 dX4_share_18 (by decide) ?_ ?_
    · refine q_aload_n (pc := 24) dX4_share_24 rfl ?_
      refine qg_4_4 (pc := 25) dX4_share_25 h0 lf_X4_22 ?_
      refine q_bipush (pc := 28) 9 dX4_share_28 (by decide) ?_
      refine q_iload_n (pc := 30) dX4_share_30 rfl ?_
      refine q_imul (pc := 31) dX4_share_31 ?_
      refine q_iload_n (pc := 32) dX4_share_32 rfl ?_
      refine q_iadd (pc := 33) dX4_share_33 ?_
      refine q_iald (pc := 34) dX4_share_34 (qch_4_4 hK h0) ?_
      refine q_istore (pc := 35) dX4_share_35 (by decide) ?_
      refine q_aload_n (pc := 37) dX4_share_37 rfl ?_
      refine qg_4_4 (pc := 38) dX4_share_38 h0 lf_X4_22 ?_
      refine q_bipush (pc := 41) 9 dX4_share_41 (by decide) ?_
      refine q_iload_n (pc := 43) dX4_share_43 rfl ?_
      refine q_imul (pc := 44) dX4_share_44 ?_
      refine q_iload_n (pc := 45) dX4_share_45 rfl ?_
      refine q_iadd (pc := 46) dX4_share_46 ?_
      refine q_iload_n (pc := 47) dX4_share_47 rfl ?_
      refine q_iast (pc := 48) dX4_share_48 (qch_4_4 hK h0) ?_
      refine q_iload (pc := 49) dX4_share_49 rfl ?_
      exact q_ireturn (pc := 51) dX4_share_51
    refine q_bipush (pc := 21) (-2) dX4_share_21 (by decide) ?_
    exact q_ireturn (pc := 23) dX4_share_23
  refine q_iconst (pc := 9) (-1) dX4_share_9 (by decide) ?_
  exact q_ireturn (pc := 10) dX4_share_10
-- LineSearchModel.shareOf(II)I
def fX4_shareOf (k0 : Nat) (x1 x2 : Int32) (sg : qSt) : qR :=
  qb (fX4_isPlace k0 x1 x2 sg) fun r1 s2 =>
  if r1 = 0 then
    some ((-1), s2)
  else
  if qin ((9 * x1) + x2) (qlen (k0 + 1)) then
  some ((s2 (k0 + 1) (Int32.toNatClampNeg ((9 * x1) + x2))), s2)
  else none
set_option maxRecDepth 20000 in
set_option maxHeartbeats 4000000 in
theorem sX4_shareOf {b : Nat} {K : List Nat} (hK : qOk K) {k0 : Nat} (h0 : qIn K k0 4) (x1 x2 : Int32) (sg : qSt) : qS yX4_shareOf cX4_shareOf 3 (some .int) 2 44 b K [.ref (b + k0), .int x1, .int x2] sg (fX4_shareOf k0 x1 x2 sg) := by
  refine qS_of (own := RX4) rfl (by decide) hK.1 (by simp [Value.category]) (Nat.le_of_ble_eq_true rfl) (fun z _ ty h => by cases h; exact vp_nar_int _) ?_
  show qJ RX4 cX4_shareOf 3 2 44 false (fun _ _ => True) b K 0 [some (.ref (b + k0)), some (.int x1), some (.int x2)] [] sg (fX4_shareOf k0 x1 x2 sg)
  unfold fX4_shareOf
  refine q_aload_n (pc := 0) dX4_shareOf_0 rfl ?_
  refine q_iload_n (pc := 1) dX4_shareOf_1 rfl ?_
  refine q_iload_n (pc := 2) dX4_shareOf_2 rfl ?_
  refine q_callVi (pc := 3) [.int x1, .int x2] dX4_shareOf_3 lm_X4_51 yX4_isPlace_ok yX4_isPlace_in h0 (by decide) rfl (sX4_isPlace hK h0 x1 x2 sg) rfl rfl (Nat.le_of_ble_eq_true rfl) ⟨by decide, by decide⟩ (fun r1 s2 => ?_)
  refine q_if_eq (pc := 6) 23 dX4_shareOf_6 (by decide) ?_ ?_
  · refine q_iconst (pc := 23) (-1) dX4_shareOf_23 (by decide) ?_
    exact q_ireturn (pc := 24) dX4_shareOf_24
  refine q_aload_n (pc := 9) dX4_shareOf_9 rfl ?_
  refine qg_4_4 (pc := 10) dX4_shareOf_10 h0 lf_X4_22 ?_
  refine q_bipush (pc := 13) 9 dX4_shareOf_13 (by decide) ?_
  refine q_iload_n (pc := 15) dX4_shareOf_15 rfl ?_
  refine q_imul (pc := 16) dX4_shareOf_16 ?_
  refine q_iload_n (pc := 17) dX4_shareOf_17 rfl ?_
  refine q_iadd (pc := 18) dX4_shareOf_18 ?_
  refine q_iald (pc := 19) dX4_shareOf_19 (qch_4_4 hK h0) ?_
  refine q_goto (pc := 20) 24 dX4_shareOf_20 (by decide) ?_
  exact q_ireturn (pc := 24) dX4_shareOf_24
-- LineSearchModel.trip(II)I
def fX4_trip (k0 : Nat) (x1 x2 : Int32) (sg : qSt) : qR :=
  qb (fX4_isPlace k0 x1 x2 sg) fun r1 s2 =>
  if r1 = 0 then
    some ((-1), s2)
  else
  if (s2 k0 5) = 30 then
    some ((-4), s2)
  else
  if qin (s2 k0 5) (qlen (k0 + 2)) then
  if qin ((qset s2 (k0 + 2) (Int32.toNatClampNeg (s2 k0 5)) x1) k0 5) (qlen (k0 + 3)) then
  some ((((qset (qset (qset s2 (k0 + 2) (Int32.toNatClampNeg (s2 k0 5)) x1) (k0 + 3) (Int32.toNatClampNeg ((qset s2 (k0 + 2) (Int32.toNatClampNeg (s2 k0 5)) x1) k0 5)) x2) k0 5 (((qset (qset s2 (k0 + 2) (Int32.toNatClampNeg (s2 k0 5)) x1) (k0 + 3) (Int32.toNatClampNeg ((qset s2 (k0 + 2) (Int32.toNatClampNeg (s2 k0 5)) x1) k0 5)) x2) k0 5) + 1)) k0 5) - 1), qset (qset (qset s2 (k0 + 2) (Int32.toNatClampNeg (s2 k0 5)) x1) (k0 + 3) (Int32.toNatClampNeg ((qset s2 (k0 + 2) (Int32.toNatClampNeg (s2 k0 5)) x1) k0 5)) x2) k0 5 (((qset (qset s2 (k0 + 2) (Int32.toNatClampNeg (s2 k0 5)) x1) (k0 + 3) (Int32.toNatClampNeg ((qset s2 (k0 + 2) (Int32.toNatClampNeg (s2 k0 5)) x1) k0 5)) x2) k0 5) + 1))
  else none
  else none
set_option maxRecDepth 20000 in
set_option maxHeartbeats 4000000 in
theorem sX4_trip {b : Nat} {K : List Nat} (hK : qOk K) {k0 : Nat} (h0 : qIn K k0 4) (x1 x2 : Int32) (sg : qSt) : qS yX4_trip cX4_trip 3 (some .int) 2 44 b K [.ref (b + k0), .int x1, .int x2] sg (fX4_trip k0 x1 x2 sg) := by
  refine qS_of (own := RX4) rfl (by decide) hK.1 (by simp [Value.category]) (Nat.le_of_ble_eq_true rfl) (fun z _ ty h => by cases h; exact vp_nar_int _) ?_
  show qJ RX4 cX4_trip 3 2 44 false (fun _ _ => True) b K 0 [some (.ref (b + k0)), some (.int x1), some (.int x2)] [] sg (fX4_trip k0 x1 x2 sg)
  unfold fX4_trip
  refine q_aload_n (pc := 0) dX4_trip_0 rfl ?_
  refine q_iload_n (pc := 1) dX4_trip_1 rfl ?_
  refine q_iload_n (pc := 2) dX4_trip_2 rfl ?_
  refine q_callVi (pc := 3) [.int x1, .int x2] dX4_trip_3 lm_X4_51 yX4_isPlace_ok yX4_isPlace_in h0 (by decide) rfl (sX4_isPlace hK h0 x1 x2 sg) rfl rfl (Nat.le_of_ble_eq_true rfl) ⟨by decide, by decide⟩ (fun r1 s2 => ?_)
  refine q_if_ne (pc := 6) 11 dX4_trip_6 (by decide) ?_ ?_
  · refine q_aload_n (pc := 11) dX4_trip_11 rfl ?_
    refine qg_4_5 (pc := 12) dX4_trip_12 h0 lf_X4_44 ?_
    refine q_bipush (pc := 15) 30 dX4_trip_15 (by decide) ?_
    refine q_icmp_ne (pc := 17) 23 dX4_trip_17 (by decide) ?_ ?_
    · refine q_aload_n (pc := 23) dX4_trip_23 rfl ?_
      refine qg_4_6 (pc := 24) dX4_trip_24 h0 lf_X4_26 ?_
      refine q_aload_n (pc := 27) dX4_trip_27 rfl ?_
      refine qg_4_5 (pc := 28) dX4_trip_28 h0 lf_X4_44 ?_
      refine q_iload_n (pc := 31) dX4_trip_31 rfl ?_
      refine q_iast (pc := 32) dX4_trip_32 (qch_4_6 hK h0) ?_
      refine q_aload_n (pc := 33) dX4_trip_33 rfl ?_
      refine qg_4_7 (pc := 34) dX4_trip_34 h0 lf_X4_29 ?_
      refine q_aload_n (pc := 37) dX4_trip_37 rfl ?_
      refine qg_4_5 (pc := 38) dX4_trip_38 h0 lf_X4_44 ?_
      refine q_iload_n (pc := 41) dX4_trip_41 rfl ?_
      refine q_iast (pc := 42) dX4_trip_42 (qch_4_7 hK h0) ?_
      refine q_aload_n (pc := 43) dX4_trip_43 rfl ?_
      refine q_dup (pc := 44) dX4_trip_44 rfl ?_
      refine qg_4_5 (pc := 45) dX4_trip_45 h0 lf_X4_44 ?_
      refine q_iconst (pc := 48) 1 dX4_trip_48 (by decide) ?_
      refine q_iadd (pc := 49) dX4_trip_49 ?_
      refine qp_4_5 (pc := 50) dX4_trip_50 h0 lf_X4_44 ?_
      refine q_aload_n (pc := 53) dX4_trip_53 rfl ?_
      refine qg_4_5 (pc := 54) dX4_trip_54 h0 lf_X4_44 ?_
      refine q_iconst (pc := 57) 1 dX4_trip_57 (by decide) ?_
      refine q_isub (pc := 58) dX4_trip_58 ?_
      exact q_ireturn (pc := 59) dX4_trip_59
    refine q_bipush (pc := 20) (-4) dX4_trip_20 (by decide) ?_
    exact q_ireturn (pc := 22) dX4_trip_22
  refine q_iconst (pc := 9) (-1) dX4_trip_9 (by decide) ?_
  exact q_ireturn (pc := 10) dX4_trip_10
-- LineSearchModel.costAhead(I)I
def fX4_costAhead_4 (k0 : Nat) : Nat → Int32 → Int32 → Int32 → qSt → qR
  | 0, _, _, _, _ => none
  | n + 1, x1, x2, x3, sg =>
    if x1 ≤ x3 then
      some (x2, sg)
    else
    if qin x3 (qlen (k0 + 3)) then
    fX4_costAhead_4 k0 n x1 ((x2 + ((sg (k0 + 3) (Int32.toNatClampNeg x3)) * ((sg k0 2) + (sg k0 3))))) ((x3 + 1)) sg
    else none
set_option maxRecDepth 20000 in
set_option maxHeartbeats 4000000 in
theorem tX4_costAhead_4 {b : Nat} {K : List Nat} (hK : qOk K) {k0 : Nat} (h0 : qIn K k0 4) : ∀ (n : Nat) (x1 x2 x3 : Int32) (sg : qSt), qJ RX4 cX4_costAhead 4 0 0 false (fun _ _ => True) b K 4 [some (.ref (b + k0)), some (.int x1), some (.int x2), some (.int x3)] [] sg (fX4_costAhead_4 k0 n x1 x2 x3 sg) := by
  intro n
  induction n with
  | zero => intro x1 x2 x3 sg; exact qJ_none
  | succ n ih =>
    intro x1 x2 x3 sg
    unfold fX4_costAhead_4
    refine q_iload_n (pc := 4) dX4_costAhead_4 rfl ?_
    refine q_iload_n (pc := 5) dX4_costAhead_5 rfl ?_
    refine q_icmp_ge (pc := 6) 34 dX4_costAhead_6 (by decide) ?_ ?_
    · refine q_iload_n (pc := 34) dX4_costAhead_34 rfl ?_
      exact q_ireturn (pc := 35) dX4_costAhead_35
    refine q_iload_n (pc := 9) dX4_costAhead_9 rfl ?_
    refine q_aload_n (pc := 10) dX4_costAhead_10 rfl ?_
    refine qg_4_7 (pc := 11) dX4_costAhead_11 h0 lf_X4_29 ?_
    refine q_iload_n (pc := 14) dX4_costAhead_14 rfl ?_
    refine q_iald (pc := 15) dX4_costAhead_15 (qch_4_7 hK h0) ?_
    refine q_aload_n (pc := 16) dX4_costAhead_16 rfl ?_
    refine qg_4_2 (pc := 17) dX4_costAhead_17 h0 lf_X4_16 ?_
    refine q_aload_n (pc := 20) dX4_costAhead_20 rfl ?_
    refine qg_4_3 (pc := 21) dX4_costAhead_21 h0 lf_X4_19 ?_
    refine q_iadd (pc := 24) dX4_costAhead_24 ?_
    refine q_imul (pc := 25) dX4_costAhead_25 ?_
    refine q_iadd (pc := 26) dX4_costAhead_26 ?_
    refine q_istore_n (pc := 27) dX4_costAhead_27 (by decide) ?_
    refine q_iinc (pc := 28) 1 dX4_costAhead_28 rfl (by decide) (by decide) ?_
    refine q_goto (pc := 31) 4 dX4_costAhead_31 (by decide) ?_
    exact ih x1 ((x2 + ((sg (k0 + 3) (Int32.toNatClampNeg x3)) * ((sg k0 2) + (sg k0 3))))) ((x3 + 1)) sg
def fX4_costAhead (k0 : Nat) (x1 : Int32) (sg : qSt) : qR :=
  fX4_costAhead_4 k0 qfu x1 0 0 sg
set_option maxRecDepth 20000 in
set_option maxHeartbeats 4000000 in
theorem sX4_costAhead {b : Nat} {K : List Nat} (hK : qOk K) {k0 : Nat} (h0 : qIn K k0 4) (x1 : Int32) (sg : qSt) : qS yX4_costAhead cX4_costAhead 4 (some .int) 0 0 b K [.ref (b + k0), .int x1] sg (fX4_costAhead k0 x1 sg) := by
  refine qS_of (own := RX4) rfl (by decide) hK.1 (by simp [Value.category]) (Nat.le_of_ble_eq_true rfl) (fun z _ ty h => by cases h; exact vp_nar_int _) ?_
  show qJ RX4 cX4_costAhead 4 0 0 false (fun _ _ => True) b K 0 [some (.ref (b + k0)), some (.int x1), none, none] [] sg (fX4_costAhead k0 x1 sg)
  unfold fX4_costAhead
  refine q_iconst (pc := 0) 0 dX4_costAhead_0 (by decide) ?_
  refine q_istore_n (pc := 1) dX4_costAhead_1 (by decide) ?_
  refine q_iconst (pc := 2) 0 dX4_costAhead_2 (by decide) ?_
  refine q_istore_n (pc := 3) dX4_costAhead_3 (by decide) ?_
  exact tX4_costAhead_4 hK h0 qfu x1 0 0 sg
-- LineSearchModel.tripOf(II)I
def fX4_tripOf (k0 : Nat) (x1 x2 : Int32) (sg : qSt) : qR :=
  qb (fX4_in x1 0 ((sg k0 5) - 1) sg) fun r1 s2 =>
  if r1 = 0 then
    some ((-1), s2)
  else
  if x2 = 0 then
    if qin x1 (qlen (k0 + 2)) then
    some ((s2 (k0 + 2) (Int32.toNatClampNeg x1)), s2)
    else none
  else
  if x2 = 1 then
    if qin x1 (qlen (k0 + 3)) then
    some ((s2 (k0 + 3) (Int32.toNatClampNeg x1)), s2)
    else none
  else
  if x2 = 2 then
    qb (fX4_costAhead k0 x1 s2) fun r3 s4 =>
    some (r3, s4)
  else
  some ((-2), s2)
set_option maxRecDepth 20000 in
set_option maxHeartbeats 4000000 in
theorem sX4_tripOf {b : Nat} {K : List Nat} (hK : qOk K) {k0 : Nat} (h0 : qIn K k0 4) (x1 x2 : Int32) (sg : qSt) : qS yX4_tripOf cX4_tripOf 3 (some .int) 1 23 b K [.ref (b + k0), .int x1, .int x2] sg (fX4_tripOf k0 x1 x2 sg) := by
  refine qS_of (own := RX4) rfl (by decide) hK.1 (by simp [Value.category]) (Nat.le_of_ble_eq_true rfl) (fun z _ ty h => by cases h; exact vp_nar_int _) ?_
  show qJ RX4 cX4_tripOf 3 1 23 false (fun _ _ => True) b K 0 [some (.ref (b + k0)), some (.int x1), some (.int x2)] [] sg (fX4_tripOf k0 x1 x2 sg)
  unfold fX4_tripOf
  refine q_iload_n (pc := 0) dX4_tripOf_0 rfl ?_
  refine q_iconst (pc := 1) 0 dX4_tripOf_1 (by decide) ?_
  refine q_aload_n (pc := 2) dX4_tripOf_2 rfl ?_
  refine qg_4_5 (pc := 3) dX4_tripOf_3 h0 lf_X4_44 ?_
  refine q_iconst (pc := 6) 1 dX4_tripOf_6 (by decide) ?_
  refine q_isub (pc := 7) dX4_tripOf_7 ?_
  refine q_callSi (pc := 8) [.int x1, .int 0, .int (((sg k0 5) - 1))] dX4_tripOf_8 lm_X4_47 yX4_in_ok yX4_in_in (sX4_in hK x1 0 ((sg k0 5) - 1) sg) rfl rfl (Nat.le_of_ble_eq_true rfl) ⟨by decide, by decide⟩ (fun r1 s2 => ?_)
  refine q_if_ne (pc := 11) 16 dX4_tripOf_11 (by decide) ?_ ?_
  · refine q_iload_n (pc := 16) dX4_tripOf_16 rfl ?_
    refine q_if_ne (pc := 17) 29 dX4_tripOf_17 (by decide) ?_ ?_
    · refine q_iload_n (pc := 29) dX4_tripOf_29 rfl ?_
      refine q_iconst (pc := 30) 1 dX4_tripOf_30 (by decide) ?_
      refine q_icmp_ne (pc := 31) 43 dX4_tripOf_31 (by decide) ?_ ?_
      · refine q_iload_n (pc := 43) dX4_tripOf_43 rfl ?_
        refine q_iconst (pc := 44) 2 dX4_tripOf_44 (by decide) ?_
        refine q_icmp_ne (pc := 45) 56 dX4_tripOf_45 (by decide) ?_ ?_
        · refine q_bipush (pc := 56) (-2) dX4_tripOf_56 (by decide) ?_
          exact q_ireturn (pc := 58) dX4_tripOf_58
        refine q_aload_n (pc := 48) dX4_tripOf_48 rfl ?_
        refine q_iload_n (pc := 49) dX4_tripOf_49 rfl ?_
        refine q_callVi (pc := 50) [.int x1] dX4_tripOf_50 lm_X4_55 yX4_costAhead_ok yX4_costAhead_in h0 (by decide) rfl (sX4_costAhead hK h0 x1 s2) rfl rfl (Nat.le_of_ble_eq_true rfl) ⟨by decide, by decide⟩ (fun r3 s4 => ?_)
        refine q_goto (pc := 53) 58 dX4_tripOf_53 (by decide) ?_
        exact q_ireturn (pc := 58) dX4_tripOf_58
      refine q_aload_n (pc := 34) dX4_tripOf_34 rfl ?_
      refine qg_4_7 (pc := 35) dX4_tripOf_35 h0 lf_X4_29 ?_
      refine q_iload_n (pc := 38) dX4_tripOf_38 rfl ?_
      refine q_iald (pc := 39) dX4_tripOf_39 (qch_4_7 hK h0) ?_
      refine q_goto (pc := 40) 58 dX4_tripOf_40 (by decide) ?_
      exact q_ireturn (pc := 58) dX4_tripOf_58
    refine q_aload_n (pc := 20) dX4_tripOf_20 rfl ?_
    refine qg_4_6 (pc := 21) dX4_tripOf_21 h0 lf_X4_26 ?_
    refine q_iload_n (pc := 24) dX4_tripOf_24 rfl ?_
    refine q_iald (pc := 25) dX4_tripOf_25 (qch_4_6 hK h0) ?_
    refine q_goto (pc := 26) 58 dX4_tripOf_26 (by decide) ?_
    exact q_ireturn (pc := 58) dX4_tripOf_58
  refine q_iconst (pc := 14) (-1) dX4_tripOf_14 (by decide) ?_
  exact q_ireturn (pc := 15) dX4_tripOf_15
-- LineSearchModel.drop()I
def fX4_drop (k0 : Nat) (sg : qSt) : qR :=
  if (sg k0 5) = 0 then
    some ((-1), sg)
  else
  some (((qset sg k0 5 ((sg k0 5) - 1)) k0 5), qset sg k0 5 ((sg k0 5) - 1))
set_option maxRecDepth 20000 in
set_option maxHeartbeats 4000000 in
theorem sX4_drop {b : Nat} {K : List Nat} (hK : qOk K) {k0 : Nat} (h0 : qIn K k0 4) (sg : qSt) : qS yX4_drop cX4_drop 1 (some .int) 0 0 b K [.ref (b + k0)] sg (fX4_drop k0 sg) := by
  refine qS_of (own := RX4) rfl (by decide) hK.1 (by simp [Value.category]) (Nat.le_of_ble_eq_true rfl) (fun z _ ty h => by cases h; exact vp_nar_int _) ?_
  show qJ RX4 cX4_drop 1 0 0 false (fun _ _ => True) b K 0 [some (.ref (b + k0))] [] sg (fX4_drop k0 sg)
  unfold fX4_drop
  refine q_aload_n (pc := 0) dX4_drop_0 rfl ?_
  refine qg_4_5 (pc := 1) dX4_drop_1 h0 lf_X4_44 ?_
  refine q_if_ne (pc := 4) 9 dX4_drop_4 (by decide) ?_ ?_
  · refine q_aload_n (pc := 9) dX4_drop_9 rfl ?_
    refine q_dup (pc := 10) dX4_drop_10 rfl ?_
    refine qg_4_5 (pc := 11) dX4_drop_11 h0 lf_X4_44 ?_
    refine q_iconst (pc := 14) 1 dX4_drop_14 (by decide) ?_
    refine q_isub (pc := 15) dX4_drop_15 ?_
    refine qp_4_5 (pc := 16) dX4_drop_16 h0 lf_X4_44 ?_
    refine q_aload_n (pc := 19) dX4_drop_19 rfl ?_
    refine qg_4_5 (pc := 20) dX4_drop_20 h0 lf_X4_44 ?_
    exact q_ireturn (pc := 23) dX4_drop_23
  refine q_iconst (pc := 7) (-1) dX4_drop_7 (by decide) ?_
  exact q_ireturn (pc := 8) dX4_drop_8
-- LineSearchModel.clear()I
def fX4_clear (k0 : Nat) (sg : qSt) : qR :=
  some ((sg k0 5), qset sg k0 5 0)
set_option maxRecDepth 20000 in
set_option maxHeartbeats 4000000 in
theorem sX4_clear {b : Nat} {K : List Nat} (hK : qOk K) {k0 : Nat} (h0 : qIn K k0 4) (sg : qSt) : qS yX4_clear cX4_clear 2 (some .int) 0 0 b K [.ref (b + k0)] sg (fX4_clear k0 sg) := by
  refine qS_of (own := RX4) rfl (by decide) hK.1 (by simp [Value.category]) (Nat.le_of_ble_eq_true rfl) (fun z _ ty h => by cases h; exact vp_nar_int _) ?_
  show qJ RX4 cX4_clear 2 0 0 false (fun _ _ => True) b K 0 [some (.ref (b + k0)), none] [] sg (fX4_clear k0 sg)
  unfold fX4_clear
  refine q_aload_n (pc := 0) dX4_clear_0 rfl ?_
  refine qg_4_5 (pc := 1) dX4_clear_1 h0 lf_X4_44 ?_
  refine q_istore_n (pc := 4) dX4_clear_4 (by decide) ?_
  refine q_aload_n (pc := 5) dX4_clear_5 rfl ?_
  refine q_iconst (pc := 6) 0 dX4_clear_6 (by decide) ?_
  refine qp_4_5 (pc := 7) dX4_clear_7 h0 lf_X4_44 ?_
  refine q_iload_n (pc := 10) dX4_clear_10 rfl ?_
  exact q_ireturn (pc := 11) dX4_clear_11
-- LineSearchModel.comes(II)I
def fX4_comes_2 (k0 : Nat) : Nat → Int32 → Int32 → Int32 → qSt → qR
  | 0, _, _, _, _ => none
  | n + 1, x1, x2, x3, sg =>
    if (sg k0 5) ≤ x3 then
      some ((-6), sg)
    else
    if qin x3 (qlen (k0 + 2)) then
    if (sg (k0 + 2) (Int32.toNatClampNeg x3)) = x1 then
      if qin x3 (qlen (k0 + 3)) then
      if (sg (k0 + 3) (Int32.toNatClampNeg x3)) < x2 then
        fX4_comes_2 k0 n x1 x2 ((x3 + 1)) sg
      else
      some (x3, sg)
      else none
    else
    fX4_comes_2 k0 n x1 x2 ((x3 + 1)) sg
    else none
set_option maxRecDepth 20000 in
set_option maxHeartbeats 4000000 in
theorem tX4_comes_2 {b : Nat} {K : List Nat} (hK : qOk K) {k0 : Nat} (h0 : qIn K k0 4) : ∀ (n : Nat) (x1 x2 x3 : Int32) (sg : qSt), qJ RX4 cX4_comes 4 0 0 false (fun _ _ => True) b K 2 [some (.ref (b + k0)), some (.int x1), some (.int x2), some (.int x3)] [] sg (fX4_comes_2 k0 n x1 x2 x3 sg) := by
  intro n
  induction n with
  | zero => intro x1 x2 x3 sg; exact qJ_none
  | succ n ih =>
    intro x1 x2 x3 sg
    unfold fX4_comes_2
    refine q_iload_n (pc := 2) dX4_comes_2 rfl ?_
    refine q_aload_n (pc := 3) dX4_comes_3 rfl ?_
    refine qg_4_5 (pc := 4) dX4_comes_4 h0 lf_X4_44 ?_
    refine q_icmp_ge (pc := 7) 38 dX4_comes_7 (by decide) ?_ ?_
    · refine q_bipush (pc := 38) (-6) dX4_comes_38 (by decide) ?_
      exact q_ireturn (pc := 40) dX4_comes_40
    refine q_aload_n (pc := 10) dX4_comes_10 rfl ?_
    refine qg_4_6 (pc := 11) dX4_comes_11 h0 lf_X4_26 ?_
    refine q_iload_n (pc := 14) dX4_comes_14 rfl ?_
    refine q_iald (pc := 15) dX4_comes_15 (qch_4_6 hK h0) ?_
    refine q_iload_n (pc := 16) dX4_comes_16 rfl ?_
    refine q_icmp_ne (pc := 17) 32 dX4_comes_17 (by decide) ?_ ?_
    · refine q_iinc (pc := 32) 1 dX4_comes_32 rfl (by decide) (by decide) ?_
      refine q_goto (pc := 35) 2 dX4_comes_35 (by decide) ?_
      exact ih x1 x2 ((x3 + 1)) sg
    refine q_aload_n (pc := 20) dX4_comes_20 rfl ?_
    refine qg_4_7 (pc := 21) dX4_comes_21 h0 lf_X4_29 ?_
    refine q_iload_n (pc := 24) dX4_comes_24 rfl ?_
    refine q_iald (pc := 25) dX4_comes_25 (qch_4_7 hK h0) ?_
    refine q_iload_n (pc := 26) dX4_comes_26 rfl ?_
    refine q_icmp_lt (pc := 27) 32 dX4_comes_27 (by decide) ?_ ?_
    · refine q_iinc (pc := 32) 1 dX4_comes_32 rfl (by decide) (by decide) ?_
      refine q_goto (pc := 35) 2 dX4_comes_35 (by decide) ?_
      exact ih x1 x2 ((x3 + 1)) sg
    refine q_iload_n (pc := 30) dX4_comes_30 rfl ?_
    exact q_ireturn (pc := 31) dX4_comes_31
def fX4_comes (k0 : Nat) (x1 x2 : Int32) (sg : qSt) : qR :=
  fX4_comes_2 k0 qfu x1 x2 0 sg
set_option maxRecDepth 20000 in
set_option maxHeartbeats 4000000 in
theorem sX4_comes {b : Nat} {K : List Nat} (hK : qOk K) {k0 : Nat} (h0 : qIn K k0 4) (x1 x2 : Int32) (sg : qSt) : qS yX4_comes cX4_comes 4 (some .int) 0 0 b K [.ref (b + k0), .int x1, .int x2] sg (fX4_comes k0 x1 x2 sg) := by
  refine qS_of (own := RX4) rfl (by decide) hK.1 (by simp [Value.category]) (Nat.le_of_ble_eq_true rfl) (fun z _ ty h => by cases h; exact vp_nar_int _) ?_
  show qJ RX4 cX4_comes 4 0 0 false (fun _ _ => True) b K 0 [some (.ref (b + k0)), some (.int x1), some (.int x2), none] [] sg (fX4_comes k0 x1 x2 sg)
  unfold fX4_comes
  refine q_iconst (pc := 0) 0 dX4_comes_0 (by decide) ?_
  refine q_istore_n (pc := 1) dX4_comes_1 (by decide) ?_
  exact tX4_comes_2 hK h0 qfu x1 x2 0 sg
-- LineSearchModel.wayOf(II)I
def fX4_wayOf (k0 : Nat) (x1 x2 : Int32) (sg : qSt) : qR :=
  qb (fX4_comes k0 x1 x2 sg) fun r1 s2 =>
  if 0 ≤ r1 then
    qb (fX4_costAhead k0 r1 s2) fun r3 s4 =>
    some ((r3 + ((s4 k0 2) * x2)), s4)
  else
  some ((-6), s2)
set_option maxRecDepth 20000 in
set_option maxHeartbeats 4000000 in
theorem sX4_wayOf {b : Nat} {K : List Nat} (hK : qOk K) {k0 : Nat} (h0 : qIn K k0 4) (x1 x2 : Int32) (sg : qSt) : qS yX4_wayOf cX4_wayOf 4 (some .int) 1 23 b K [.ref (b + k0), .int x1, .int x2] sg (fX4_wayOf k0 x1 x2 sg) := by
  refine qS_of (own := RX4) rfl (by decide) hK.1 (by simp [Value.category]) (Nat.le_of_ble_eq_true rfl) (fun z _ ty h => by cases h; exact vp_nar_int _) ?_
  show qJ RX4 cX4_wayOf 4 1 23 false (fun _ _ => True) b K 0 [some (.ref (b + k0)), some (.int x1), some (.int x2), none] [] sg (fX4_wayOf k0 x1 x2 sg)
  unfold fX4_wayOf
  refine q_aload_n (pc := 0) dX4_wayOf_0 rfl ?_
  refine q_iload_n (pc := 1) dX4_wayOf_1 rfl ?_
  refine q_iload_n (pc := 2) dX4_wayOf_2 rfl ?_
  refine q_callVi (pc := 3) [.int x1, .int x2] dX4_wayOf_3 lm_X4_59 yX4_comes_ok yX4_comes_in h0 (by decide) rfl (sX4_comes hK h0 x1 x2 sg) rfl rfl (Nat.le_of_ble_eq_true rfl) ⟨by decide, by decide⟩ (fun r1 s2 => ?_)
  refine q_istore_n (pc := 6) dX4_wayOf_6 (by decide) ?_
  refine q_iload_n (pc := 7) dX4_wayOf_7 rfl ?_
  refine q_if_ge (pc := 8) 16 dX4_wayOf_8 (by decide) ?_ ?_
  · refine q_aload_n (pc := 16) dX4_wayOf_16 rfl ?_
    refine q_iload_n (pc := 17) dX4_wayOf_17 rfl ?_
    refine q_callVi (pc := 18) [.int r1] dX4_wayOf_18 lm_X4_55 yX4_costAhead_ok yX4_costAhead_in h0 (by decide) rfl (sX4_costAhead hK h0 r1 s2) rfl rfl (Nat.le_of_ble_eq_true rfl) ⟨by decide, by decide⟩ (fun r3 s4 => ?_)
    refine q_aload_n (pc := 21) dX4_wayOf_21 rfl ?_
    refine qg_4_2 (pc := 22) dX4_wayOf_22 h0 lf_X4_16 ?_
    refine q_iload_n (pc := 25) dX4_wayOf_25 rfl ?_
    refine q_imul (pc := 26) dX4_wayOf_26 ?_
    refine q_iadd (pc := 27) dX4_wayOf_27 ?_
    exact q_ireturn (pc := 28) dX4_wayOf_28
  refine q_bipush (pc := 11) (-6) dX4_wayOf_11 (by decide) ?_
  refine q_goto (pc := 13) 28 dX4_wayOf_13 (by decide) ?_
  exact q_ireturn (pc := 28) dX4_wayOf_28
-- LineSearchModel.way(II)I
def fX4_way (k0 : Nat) (x1 x2 : Int32) (sg : qSt) : qR :=
  qb (fX4_isPlace k0 x1 x2 sg) fun r1 s2 =>
  if r1 = 0 then
    some ((-1), s2)
  else
  qb (fX4_wayOf k0 x1 x2 s2) fun r3 s4 =>
  some (r3, s4)
set_option maxRecDepth 20000 in
set_option maxHeartbeats 4000000 in
theorem sX4_way {b : Nat} {K : List Nat} (hK : qOk K) {k0 : Nat} (h0 : qIn K k0 4) (x1 x2 : Int32) (sg : qSt) : qS yX4_way cX4_way 3 (some .int) 2 46 b K [.ref (b + k0), .int x1, .int x2] sg (fX4_way k0 x1 x2 sg) := by
  refine qS_of (own := RX4) rfl (by decide) hK.1 (by simp [Value.category]) (Nat.le_of_ble_eq_true rfl) (fun z _ ty h => by cases h; exact vp_nar_int _) ?_
  show qJ RX4 cX4_way 3 2 46 false (fun _ _ => True) b K 0 [some (.ref (b + k0)), some (.int x1), some (.int x2)] [] sg (fX4_way k0 x1 x2 sg)
  unfold fX4_way
  refine q_aload_n (pc := 0) dX4_way_0 rfl ?_
  refine q_iload_n (pc := 1) dX4_way_1 rfl ?_
  refine q_iload_n (pc := 2) dX4_way_2 rfl ?_
  refine q_callVi (pc := 3) [.int x1, .int x2] dX4_way_3 lm_X4_51 yX4_isPlace_ok yX4_isPlace_in h0 (by decide) rfl (sX4_isPlace hK h0 x1 x2 sg) rfl rfl (Nat.le_of_ble_eq_true rfl) ⟨by decide, by decide⟩ (fun r1 s2 => ?_)
  refine q_if_eq (pc := 6) 18 dX4_way_6 (by decide) ?_ ?_
  · refine q_iconst (pc := 18) (-1) dX4_way_18 (by decide) ?_
    exact q_ireturn (pc := 19) dX4_way_19
  refine q_aload_n (pc := 9) dX4_way_9 rfl ?_
  refine q_iload_n (pc := 10) dX4_way_10 rfl ?_
  refine q_iload_n (pc := 11) dX4_way_11 rfl ?_
  refine q_callVi (pc := 12) [.int x1, .int x2] dX4_way_12 lm_X4_63 yX4_wayOf_ok yX4_wayOf_in h0 (by decide) rfl (sX4_wayOf hK h0 x1 x2 s2) rfl rfl (Nat.le_of_ble_eq_true rfl) ⟨by decide, by decide⟩ (fun r3 s4 => ?_)
  refine q_goto (pc := 15) 19 dX4_way_15 (by decide) ?_
  exact q_ireturn (pc := 19) dX4_way_19
-- LineSearchModel.common(II)I
def fX4_common_4 : Nat → Int32 → Int32 → qSt → qR
  | 0, _, _, _ => none
  | n + 1, x2, x3, sg =>
    if x3 = 0 then
      some (x2, sg)
    else
    if x3 = 0 then none else
    fX4_common_4 n x3 ((x2 - x2 / x3 * x3)) sg
set_option maxRecDepth 20000 in
set_option maxHeartbeats 4000000 in
theorem tX4_common_4 {b : Nat} {K : List Nat} (hK : qOk K) : ∀ (n : Nat) (x2 x3 : Int32) (sg : qSt), qJ RX4 cX4_common 5 0 0 false (fun _ _ => True) b K 4 [none, none, some (.int x2), some (.int x3), none] [] sg (fX4_common_4 n x2 x3 sg) := by
  intro n
  induction n with
  | zero => intro x2 x3 sg; exact qJ_none
  | succ n ih =>
    intro x2 x3 sg
    unfold fX4_common_4
    refine q_iload_n (pc := 4) dX4_common_4 rfl ?_
    refine q_if_eq (pc := 5) 21 dX4_common_5 (by decide) ?_ ?_
    · refine q_iload_n (pc := 21) dX4_common_21 rfl ?_
      exact q_ireturn (pc := 22) dX4_common_22
    refine q_iload_n (pc := 8) dX4_common_8 rfl ?_
    refine q_iload_n (pc := 9) dX4_common_9 rfl ?_
    refine q_irem (pc := 10) dX4_common_10 ?_
    refine q_istore (pc := 11) dX4_common_11 (by decide) ?_
    refine q_iload_n (pc := 13) dX4_common_13 rfl ?_
    refine q_istore_n (pc := 14) dX4_common_14 (by decide) ?_
    refine q_iload (pc := 15) dX4_common_15 rfl ?_
    refine q_istore_n (pc := 17) dX4_common_17 (by decide) ?_
    refine q_goto (pc := 18) 4 dX4_common_18 (by decide) ?_
    refine qJ_weak [none, none, some (.int x3), some (.int ((x2 - x2 / x3 * x3))), none] ⟨rfl, rfl, trivial⟩ ?_
    exact ih x3 ((x2 - x2 / x3 * x3)) sg
def fX4_common (x0 x1 : Int32) (sg : qSt) : qR :=
  fX4_common_4 qfu x0 x1 sg
set_option maxRecDepth 20000 in
set_option maxHeartbeats 4000000 in
theorem sX4_common {b : Nat} {K : List Nat} (hK : qOk K) (x0 x1 : Int32) (sg : qSt) : qS yX4_common cX4_common 5 (some .int) 0 0 b K [.int x0, .int x1] sg (fX4_common x0 x1 sg) := by
  refine qS_of (own := RX4) rfl (by decide) hK.1 (by simp [Value.category]) (Nat.le_of_ble_eq_true rfl) (fun z _ ty h => by cases h; exact vp_nar_int _) ?_
  show qJ RX4 cX4_common 5 0 0 false (fun _ _ => True) b K 0 [some (.int x0), some (.int x1), none, none, none] [] sg (fX4_common x0 x1 sg)
  unfold fX4_common
  refine q_iload_n (pc := 0) dX4_common_0 rfl ?_
  refine q_istore_n (pc := 1) dX4_common_1 (by decide) ?_
  refine q_iload_n (pc := 2) dX4_common_2 rfl ?_
  refine q_istore_n (pc := 3) dX4_common_3 (by decide) ?_
  refine qJ_weak [none, none, some (.int x0), some (.int x1), none] ⟨rfl, rfl, trivial⟩ ?_
  exact tX4_common_4 hK qfu x0 x1 sg
-- LineSearchModel.term(III)I
def fX4_term_9 (x0 x1 y0 : Int32) (sg : qSt) : qR :=
    qb (fX4_common x0 x1 sg) fun r1 s2 =>
    if r1 = 0 then none else
    some ((y0 / r1), s2)
set_option maxRecDepth 20000 in
set_option maxHeartbeats 4000000 in
theorem tX4_term_9 {b : Nat} {K : List Nat} (hK : qOk K) : ∀ (x0 x1 y0 : Int32) (sg : qSt), qJ RX4 cX4_term 3 1 24 false (fun _ _ => True) b K 9 [some (.int x0), some (.int x1), none] [.int y0] sg (fX4_term_9 x0 x1 y0 sg) := by
  intro x0 x1 y0 sg
  unfold fX4_term_9
  refine q_iload_n (pc := 9) dX4_term_9 rfl ?_
  refine q_iload_n (pc := 10) dX4_term_10 rfl ?_
  refine q_callSi (pc := 11) [.int x0, .int x1] dX4_term_11 lm_X4_66 yX4_common_ok yX4_common_in (sX4_common hK x0 x1 sg) rfl rfl (Nat.le_of_ble_eq_true rfl) ⟨by decide, by decide⟩ (fun r1 s2 => ?_)
  refine q_idiv (pc := 14) dX4_term_14 ?_
  exact q_ireturn (pc := 15) dX4_term_15
def fX4_term (x0 x1 x2 : Int32) (sg : qSt) : qR :=
  if x2 = 0 then
    fX4_term_9 x0 x1 x0 sg
  else
  fX4_term_9 x0 x1 x1 sg
set_option maxRecDepth 20000 in
set_option maxHeartbeats 4000000 in
theorem sX4_term {b : Nat} {K : List Nat} (hK : qOk K) (x0 x1 x2 : Int32) (sg : qSt) : qS yX4_term cX4_term 3 (some .int) 1 24 b K [.int x0, .int x1, .int x2] sg (fX4_term x0 x1 x2 sg) := by
  refine qS_of (own := RX4) rfl (by decide) hK.1 (by simp [Value.category]) (Nat.le_of_ble_eq_true rfl) (fun z _ ty h => by cases h; exact vp_nar_int _) ?_
  show qJ RX4 cX4_term 3 1 24 false (fun _ _ => True) b K 0 [some (.int x0), some (.int x1), some (.int x2)] [] sg (fX4_term x0 x1 x2 sg)
  unfold fX4_term
  refine q_iload_n (pc := 0) dX4_term_0 rfl ?_
  refine q_if_ne (pc := 1) 8 dX4_term_1 (by decide) ?_ ?_
  · refine q_iload_n (pc := 8) dX4_term_8 rfl ?_
    refine qJ_weak [some (.int x0), some (.int x1), none] ⟨rfl, rfl, trivial⟩ ?_
    exact tX4_term_9 hK x0 x1 x1 sg
  refine q_iload_n (pc := 4) dX4_term_4 rfl ?_
  refine q_goto (pc := 5) 9 dX4_term_5 (by decide) ?_
  refine qJ_weak [some (.int x0), some (.int x1), none] ⟨rfl, rfl, trivial⟩ ?_
  exact tX4_term_9 hK x0 x1 x0 sg
-- LineSearchModel.late(III)I
def fX4_late (k0 : Nat) (x1 x2 x3 : Int32) (sg : qSt) : qR :=
  qb (fX4_isPlace k0 x1 x2 sg) fun r1 s2 =>
  if r1 = 0 then
    some ((-1), s2)
  else
  qb (fX4_in x3 0 1 s2) fun r3 s4 =>
  if r3 = 0 then
    some ((-2), s4)
  else
  qb (fX4_wayOf k0 x1 x2 s4) fun r5 s6 =>
  if 0 ≤ r5 then
    qb (fX4_term r5 ((s6 k0 2) * x2) x3 s6) fun r7 s8 =>
    some (r7, s8)
  else
  some ((-6), s6)
set_option maxRecDepth 20000 in
set_option maxHeartbeats 4000000 in
theorem sX4_late {b : Nat} {K : List Nat} (hK : qOk K) {k0 : Nat} (h0 : qIn K k0 4) (x1 x2 x3 : Int32) (sg : qSt) : qS yX4_late cX4_late 5 (some .int) 2 46 b K [.ref (b + k0), .int x1, .int x2, .int x3] sg (fX4_late k0 x1 x2 x3 sg) := by
  refine qS_of (own := RX4) rfl (by decide) hK.1 (by simp [Value.category]) (Nat.le_of_ble_eq_true rfl) (fun z _ ty h => by cases h; exact vp_nar_int _) ?_
  show qJ RX4 cX4_late 5 2 46 false (fun _ _ => True) b K 0 [some (.ref (b + k0)), some (.int x1), some (.int x2), some (.int x3), none] [] sg (fX4_late k0 x1 x2 x3 sg)
  unfold fX4_late
  refine q_aload_n (pc := 0) dX4_late_0 rfl ?_
  refine q_iload_n (pc := 1) dX4_late_1 rfl ?_
  refine q_iload_n (pc := 2) dX4_late_2 rfl ?_
  refine q_callVi (pc := 3) [.int x1, .int x2] dX4_late_3 lm_X4_51 yX4_isPlace_ok yX4_isPlace_in h0 (by decide) rfl (sX4_isPlace hK h0 x1 x2 sg) rfl rfl (Nat.le_of_ble_eq_true rfl) ⟨by decide, by decide⟩ (fun r1 s2 => ?_)
  refine q_if_ne (pc := 6) 11 dX4_late_6 (by decide) ?_ ?_
  · refine q_iload_n (pc := 11) dX4_late_11 rfl ?_
    refine q_iconst (pc := 12) 0 dX4_late_12 (by decide) ?_
    refine q_iconst (pc := 13) 1 dX4_late_13 (by decide) ?_
    refine q_callSi (pc := 14) [.int x3, .int 0, .int 1] dX4_late_14 lm_X4_47 yX4_in_ok yX4_in_in (sX4_in hK x3 0 1 s2) rfl rfl (Nat.le_of_ble_eq_true rfl) ⟨by decide, by decide⟩ (fun r3 s4 => ?_)
    refine q_if_ne (pc := 17) 23 dX4_late_17 (by decide) ?_ ?_
    · refine q_aload_n (pc := 23) dX4_late_23 rfl ?_
      refine q_iload_n (pc := 24) dX4_late_24 rfl ?_
      refine q_iload_n (pc := 25) dX4_late_25 rfl ?_
      refine q_callVi (pc := 26) [.int x1, .int x2] dX4_late_26 lm_X4_63 yX4_wayOf_ok yX4_wayOf_in h0 (by decide) rfl (sX4_wayOf hK h0 x1 x2 s4) rfl rfl (Nat.le_of_ble_eq_true rfl) ⟨by decide, by decide⟩ (fun r5 s6 => ?_)
      refine q_istore (pc := 29) dX4_late_29 (by decide) ?_
      refine q_iload (pc := 31) dX4_late_31 rfl ?_
      refine q_if_ge (pc := 33) 41 dX4_late_33 (by decide) ?_ ?_
      · refine q_iload (pc := 41) dX4_late_41 rfl ?_
        refine q_aload_n (pc := 43) dX4_late_43 rfl ?_
        refine qg_4_2 (pc := 44) dX4_late_44 h0 lf_X4_16 ?_
        refine q_iload_n (pc := 47) dX4_late_47 rfl ?_
        refine q_imul (pc := 48) dX4_late_48 ?_
        refine q_iload_n (pc := 49) dX4_late_49 rfl ?_
        refine q_callSi (pc := 50) [.int r5, .int (((s6 k0 2) * x2)), .int x3] dX4_late_50 lm_X4_69 yX4_term_ok yX4_term_in (sX4_term hK r5 ((s6 k0 2) * x2) x3 s6) rfl rfl (Nat.le_of_ble_eq_true rfl) ⟨by decide, by decide⟩ (fun r7 s8 => ?_)
        exact q_ireturn (pc := 53) dX4_late_53
      refine q_bipush (pc := 36) (-6) dX4_late_36 (by decide) ?_
      refine q_goto (pc := 38) 53 dX4_late_38 (by decide) ?_
      exact q_ireturn (pc := 53) dX4_late_53
    refine q_bipush (pc := 20) (-2) dX4_late_20 (by decide) ?_
    exact q_ireturn (pc := 22) dX4_late_22
  refine q_iconst (pc := 9) (-1) dX4_late_9 (by decide) ?_
  exact q_ireturn (pc := 10) dX4_late_10
-- LineSearchModel.missedAt(I)I
def fX4_missedAt_15 (k0 : Nat) (c4 : Int32 → Int32 → Int32 → qSt → qR) : Nat → Int32 → Int32 → Int32 → Int32 → qSt → qR
  | 0, _, _, _, _, _ => none
  | n + 1, x1, x2, x3, x4, sg =>
    if (sg k0 1) < x4 then
      c4 x1 x2 ((x3 + 1)) sg
    else
    qb (fX4_comes k0 x3 x4 sg) fun r1 s2 =>
    if 0 ≤ r1 then
      fX4_missedAt_15 k0 c4 n x1 x2 x3 ((x4 + 1)) s2
    else
    if x2 = x1 then
      some (((10 * x3) + x4), s2)
    else
    fX4_missedAt_15 k0 c4 n x1 ((x2 + 1)) x3 ((x4 + 1)) s2
set_option maxRecDepth 20000 in
set_option maxHeartbeats 4000000 in
theorem tX4_missedAt_15 {b : Nat} {K : List Nat} (hK : qOk K) {k0 : Nat} {c4 : Int32 → Int32 → Int32 → qSt → qR} (h0 : qIn K k0 4) (hc4 : ∀ (x1 x2 x3 : Int32) (sg : qSt), qJ RX4 cX4_missedAt 5 1 23 false (fun _ _ => True) b K 4 [some (.ref (b + k0)), some (.int x1), some (.int x2), some (.int x3), none] [] sg (c4 x1 x2 x3 sg)) : ∀ (n : Nat) (x1 x2 x3 x4 : Int32) (sg : qSt), qJ RX4 cX4_missedAt 5 1 23 false (fun _ _ => True) b K 15 [some (.ref (b + k0)), some (.int x1), some (.int x2), some (.int x3), some (.int x4)] [] sg (fX4_missedAt_15 k0 c4 n x1 x2 x3 x4 sg) := by
  intro n
  induction n with
  | zero => intro x1 x2 x3 x4 sg; exact qJ_none
  | succ n ih =>
    intro x1 x2 x3 x4 sg
    unfold fX4_missedAt_15
    refine q_iload (pc := 15) dX4_missedAt_15 rfl ?_
    refine q_aload_n (pc := 17) dX4_missedAt_17 rfl ?_
    refine qg_4_1 (pc := 18) dX4_missedAt_18 h0 lf_X4_13 ?_
    refine q_icmp_gt (pc := 21) 56 dX4_missedAt_21 (by decide) ?_ ?_
    · refine q_iinc (pc := 56) 1 dX4_missedAt_56 rfl (by decide) (by decide) ?_
      refine q_goto (pc := 59) 4 dX4_missedAt_59 (by decide) ?_
      refine qJ_weak [some (.ref (b + k0)), some (.int x1), some (.int x2), some (.int ((x3 + 1))), none] ⟨rfl, rfl, rfl, rfl, trivial⟩ ?_
      exact hc4 x1 x2 ((x3 + 1)) sg
    refine q_aload_n (pc := 24) dX4_missedAt_24 rfl ?_
    refine q_iload_n (pc := 25) dX4_missedAt_25 rfl ?_
    refine q_iload (pc := 26) dX4_missedAt_26 rfl ?_
    refine q_callVi (pc := 28) [.int x3, .int x4] dX4_missedAt_28 lm_X4_59 yX4_comes_ok yX4_comes_in h0 (by decide) rfl (sX4_comes hK h0 x3 x4 sg) rfl rfl (Nat.le_of_ble_eq_true rfl) ⟨by decide, by decide⟩ (fun r1 s2 => ?_)
    refine q_if_ge (pc := 31) 50 dX4_missedAt_31 (by decide) ?_ ?_
    · refine q_iinc (pc := 50) 1 dX4_missedAt_50 rfl (by decide) (by decide) ?_
      refine q_goto (pc := 53) 15 dX4_missedAt_53 (by decide) ?_
      exact ih x1 x2 x3 ((x4 + 1)) s2
    refine q_iload_n (pc := 34) dX4_missedAt_34 rfl ?_
    refine q_iload_n (pc := 35) dX4_missedAt_35 rfl ?_
    refine q_icmp_ne (pc := 36) 47 dX4_missedAt_36 (by decide) ?_ ?_
    · refine q_iinc (pc := 47) 1 dX4_missedAt_47 rfl (by decide) (by decide) ?_
      refine q_iinc (pc := 50) 1 dX4_missedAt_50 rfl (by decide) (by decide) ?_
      refine q_goto (pc := 53) 15 dX4_missedAt_53 (by decide) ?_
      exact ih x1 ((x2 + 1)) x3 ((x4 + 1)) s2
    refine q_bipush (pc := 39) 10 dX4_missedAt_39 (by decide) ?_
    refine q_iload_n (pc := 41) dX4_missedAt_41 rfl ?_
    refine q_imul (pc := 42) dX4_missedAt_42 ?_
    refine q_iload (pc := 43) dX4_missedAt_43 rfl ?_
    refine q_iadd (pc := 45) dX4_missedAt_45 ?_
    exact q_ireturn (pc := 46) dX4_missedAt_46
def fX4_missedAt_4 (k0 : Nat) : Nat → Int32 → Int32 → Int32 → qSt → qR
  | 0, _, _, _, _ => none
  | n + 1, x1, x2, x3, sg =>
    if (sg k0 0) ≤ x3 then
      if x1 = (-1) then
        some (x2, sg)
      else
      some ((-6), sg)
    else
    fX4_missedAt_15 k0 (fun z1 z2 z3 sg => fX4_missedAt_4 k0 n z1 z2 z3 sg) qfu x1 x2 x3 1 sg
set_option maxRecDepth 20000 in
set_option maxHeartbeats 4000000 in
theorem tX4_missedAt_4 {b : Nat} {K : List Nat} (hK : qOk K) {k0 : Nat} (h0 : qIn K k0 4) : ∀ (n : Nat) (x1 x2 x3 : Int32) (sg : qSt), qJ RX4 cX4_missedAt 5 1 23 false (fun _ _ => True) b K 4 [some (.ref (b + k0)), some (.int x1), some (.int x2), some (.int x3), none] [] sg (fX4_missedAt_4 k0 n x1 x2 x3 sg) := by
  intro n
  induction n with
  | zero => intro x1 x2 x3 sg; exact qJ_none
  | succ n ih =>
    intro x1 x2 x3 sg
    unfold fX4_missedAt_4
    refine q_iload_n (pc := 4) dX4_missedAt_4 rfl ?_
    refine q_aload_n (pc := 5) dX4_missedAt_5 rfl ?_
    refine qg_4_0 (pc := 6) dX4_missedAt_6 h0 lf_X4_7 ?_
    refine q_icmp_ge (pc := 9) 62 dX4_missedAt_9 (by decide) ?_ ?_
    · refine q_iload_n (pc := 62) dX4_missedAt_62 rfl ?_
      refine q_iconst (pc := 63) (-1) dX4_missedAt_63 (by decide) ?_
      refine q_icmp_ne (pc := 64) 71 dX4_missedAt_64 (by decide) ?_ ?_
      · refine q_bipush (pc := 71) (-6) dX4_missedAt_71 (by decide) ?_
        exact q_ireturn (pc := 73) dX4_missedAt_73
      refine q_iload_n (pc := 67) dX4_missedAt_67 rfl ?_
      refine q_goto (pc := 68) 73 dX4_missedAt_68 (by decide) ?_
      exact q_ireturn (pc := 73) dX4_missedAt_73
    refine q_iconst (pc := 12) 1 dX4_missedAt_12 (by decide) ?_
    refine q_istore (pc := 13) dX4_missedAt_13 (by decide) ?_
    exact tX4_missedAt_15 hK h0 (fun z1 z2 z3 sg => ih z1 z2 z3 sg) qfu x1 x2 x3 1 sg
def fX4_missedAt (k0 : Nat) (x1 : Int32) (sg : qSt) : qR :=
  fX4_missedAt_4 k0 qfu x1 0 0 sg
set_option maxRecDepth 20000 in
set_option maxHeartbeats 4000000 in
theorem sX4_missedAt {b : Nat} {K : List Nat} (hK : qOk K) {k0 : Nat} (h0 : qIn K k0 4) (x1 : Int32) (sg : qSt) : qS yX4_missedAt cX4_missedAt 5 (some .int) 1 23 b K [.ref (b + k0), .int x1] sg (fX4_missedAt k0 x1 sg) := by
  refine qS_of (own := RX4) rfl (by decide) hK.1 (by simp [Value.category]) (Nat.le_of_ble_eq_true rfl) (fun z _ ty h => by cases h; exact vp_nar_int _) ?_
  show qJ RX4 cX4_missedAt 5 1 23 false (fun _ _ => True) b K 0 [some (.ref (b + k0)), some (.int x1), none, none, none] [] sg (fX4_missedAt k0 x1 sg)
  unfold fX4_missedAt
  refine q_iconst (pc := 0) 0 dX4_missedAt_0 (by decide) ?_
  refine q_istore_n (pc := 1) dX4_missedAt_1 (by decide) ?_
  refine q_iconst (pc := 2) 0 dX4_missedAt_2 (by decide) ?_
  refine q_istore_n (pc := 3) dX4_missedAt_3 (by decide) ?_
  exact tX4_missedAt_4 hK h0 qfu x1 0 0 sg
-- LineSearchModel.worst(I)I
def fX4_worst_42 (k0 : Nat) (c30 : Int32 → Int32 → Int32 → Int32 → qSt → qR) : Nat → Int32 → Int32 → Int32 → Int32 → Int32 → qSt → qR
  | 0, _, _, _, _, _, _ => none
  | n + 1, x1, x2, x3, x4, x5, sg =>
    if (sg k0 1) < x5 then
      c30 x1 x2 x3 ((x4 + 1)) sg
    else
    qb (fX4_wayOf k0 x4 x5 sg) fun r1 s2 =>
    qb (fX4_wayOf k0 x2 x3 s2) fun r3 s4 =>
    if (r1 * x3) ≤ (r3 * x5) then
      fX4_worst_42 k0 c30 n x1 x2 x3 x4 ((x5 + 1)) s4
    else
    fX4_worst_42 k0 c30 n x1 x4 x5 x4 ((x5 + 1)) s4
set_option maxRecDepth 20000 in
set_option maxHeartbeats 4000000 in
theorem tX4_worst_42 {b : Nat} {K : List Nat} (hK : qOk K) {k0 : Nat} {c30 : Int32 → Int32 → Int32 → Int32 → qSt → qR} (h0 : qIn K k0 4) (hc30 : ∀ (x1 x2 x3 x4 : Int32) (sg : qSt), qJ RX4 cX4_worst 6 2 47 false (fun _ _ => True) b K 30 [some (.ref (b + k0)), some (.int x1), some (.int x2), some (.int x3), some (.int x4), none] [] sg (c30 x1 x2 x3 x4 sg)) : ∀ (n : Nat) (x1 x2 x3 x4 x5 : Int32) (sg : qSt), qJ RX4 cX4_worst 6 2 47 false (fun _ _ => True) b K 42 [some (.ref (b + k0)), some (.int x1), some (.int x2), some (.int x3), some (.int x4), some (.int x5)] [] sg (fX4_worst_42 k0 c30 n x1 x2 x3 x4 x5 sg) := by
  intro n
  induction n with
  | zero => intro x1 x2 x3 x4 x5 sg; exact qJ_none
  | succ n ih =>
    intro x1 x2 x3 x4 x5 sg
    unfold fX4_worst_42
    refine q_iload (pc := 42) dX4_worst_42 rfl ?_
    refine q_aload_n (pc := 44) dX4_worst_44 rfl ?_
    refine qg_4_1 (pc := 45) dX4_worst_45 h0 lf_X4_13 ?_
    refine q_icmp_gt (pc := 48) 85 dX4_worst_48 (by decide) ?_ ?_
    · refine q_iinc (pc := 85) 1 dX4_worst_85 rfl (by decide) (by decide) ?_
      refine q_goto (pc := 88) 30 dX4_worst_88 (by decide) ?_
      refine qJ_weak [some (.ref (b + k0)), some (.int x1), some (.int x2), some (.int x3), some (.int ((x4 + 1))), none] ⟨rfl, rfl, rfl, rfl, rfl, trivial⟩ ?_
      exact hc30 x1 x2 x3 ((x4 + 1)) sg
    refine q_aload_n (pc := 51) dX4_worst_51 rfl ?_
    refine q_iload (pc := 52) dX4_worst_52 rfl ?_
    refine q_iload (pc := 54) dX4_worst_54 rfl ?_
    refine q_callVi (pc := 56) [.int x4, .int x5] dX4_worst_56 lm_X4_63 yX4_wayOf_ok yX4_wayOf_in h0 (by decide) rfl (sX4_wayOf hK h0 x4 x5 sg) rfl rfl (Nat.le_of_ble_eq_true rfl) ⟨by decide, by decide⟩ (fun r1 s2 => ?_)
    refine q_iload_n (pc := 59) dX4_worst_59 rfl ?_
    refine q_imul (pc := 60) dX4_worst_60 ?_
    refine q_aload_n (pc := 61) dX4_worst_61 rfl ?_
    refine q_iload_n (pc := 62) dX4_worst_62 rfl ?_
    refine q_iload_n (pc := 63) dX4_worst_63 rfl ?_
    refine q_callVi (pc := 64) [.int x2, .int x3] dX4_worst_64 lm_X4_63 yX4_wayOf_ok yX4_wayOf_in h0 (by decide) rfl (sX4_wayOf hK h0 x2 x3 s2) rfl rfl (Nat.le_of_ble_eq_true rfl) ⟨by decide, by decide⟩ (fun r3 s4 => ?_)
    refine q_iload (pc := 67) dX4_worst_67 rfl ?_
    refine q_imul (pc := 69) dX4_worst_69 ?_
    refine q_icmp_le (pc := 70) 79 dX4_worst_70 (by decide) ?_ ?_
    · refine q_iinc (pc := 79) 1 dX4_worst_79 rfl (by decide) (by decide) ?_
      refine q_goto (pc := 82) 42 dX4_worst_82 (by decide) ?_
      exact ih x1 x2 x3 x4 ((x5 + 1)) s4
    refine q_iload (pc := 73) dX4_worst_73 rfl ?_
    refine q_istore_n (pc := 75) dX4_worst_75 (by decide) ?_
    refine q_iload (pc := 76) dX4_worst_76 rfl ?_
    refine q_istore_n (pc := 78) dX4_worst_78 (by decide) ?_
    refine q_iinc (pc := 79) 1 dX4_worst_79 rfl (by decide) (by decide) ?_
    refine q_goto (pc := 82) 42 dX4_worst_82 (by decide) ?_
    exact ih x1 x4 x5 x4 ((x5 + 1)) s4
def fX4_worst_30 (k0 : Nat) : Nat → Int32 → Int32 → Int32 → Int32 → qSt → qR
  | 0, _, _, _, _, _ => none
  | n + 1, x1, x2, x3, x4, sg =>
    if (sg k0 0) ≤ x4 then
      if x1 = 2 then
        some (x2, sg)
      else
      if x1 = 3 then
        some (x3, sg)
      else
      qb (fX4_wayOf k0 x2 x3 sg) fun r1 s2 =>
      qb (fX4_term r1 ((s2 k0 2) * x3) x1 s2) fun r3 s4 =>
      some (r3, s4)
    else
    fX4_worst_42 k0 (fun z1 z2 z3 z4 sg => fX4_worst_30 k0 n z1 z2 z3 z4 sg) qfu x1 x2 x3 x4 1 sg
set_option maxRecDepth 20000 in
set_option maxHeartbeats 4000000 in
theorem tX4_worst_30 {b : Nat} {K : List Nat} (hK : qOk K) {k0 : Nat} (h0 : qIn K k0 4) : ∀ (n : Nat) (x1 x2 x3 x4 : Int32) (sg : qSt), qJ RX4 cX4_worst 6 2 47 false (fun _ _ => True) b K 30 [some (.ref (b + k0)), some (.int x1), some (.int x2), some (.int x3), some (.int x4), none] [] sg (fX4_worst_30 k0 n x1 x2 x3 x4 sg) := by
  intro n
  induction n with
  | zero => intro x1 x2 x3 x4 sg; exact qJ_none
  | succ n ih =>
    intro x1 x2 x3 x4 sg
    unfold fX4_worst_30
    refine q_iload (pc := 30) dX4_worst_30 rfl ?_
    refine q_aload_n (pc := 32) dX4_worst_32 rfl ?_
    refine qg_4_0 (pc := 33) dX4_worst_33 h0 lf_X4_7 ?_
    refine q_icmp_ge (pc := 36) 91 dX4_worst_36 (by decide) ?_ ?_
    · refine q_iload_n (pc := 91) dX4_worst_91 rfl ?_
      refine q_iconst (pc := 92) 2 dX4_worst_92 (by decide) ?_
      refine q_icmp_ne (pc := 93) 100 dX4_worst_93 (by decide) ?_ ?_
      · refine q_iload_n (pc := 100) dX4_worst_100 rfl ?_
        refine q_iconst (pc := 101) 3 dX4_worst_101 (by decide) ?_
        refine q_icmp_ne (pc := 102) 109 dX4_worst_102 (by decide) ?_ ?_
        · refine q_aload_n (pc := 109) dX4_worst_109 rfl ?_
          refine q_iload_n (pc := 110) dX4_worst_110 rfl ?_
          refine q_iload_n (pc := 111) dX4_worst_111 rfl ?_
          refine q_callVi (pc := 112) [.int x2, .int x3] dX4_worst_112 lm_X4_63 yX4_wayOf_ok yX4_wayOf_in h0 (by decide) rfl (sX4_wayOf hK h0 x2 x3 sg) rfl rfl (Nat.le_of_ble_eq_true rfl) ⟨by decide, by decide⟩ (fun r1 s2 => ?_)
          refine q_aload_n (pc := 115) dX4_worst_115 rfl ?_
          refine qg_4_2 (pc := 116) dX4_worst_116 h0 lf_X4_16 ?_
          refine q_iload_n (pc := 119) dX4_worst_119 rfl ?_
          refine q_imul (pc := 120) dX4_worst_120 ?_
          refine q_iload_n (pc := 121) dX4_worst_121 rfl ?_
          refine q_callSi (pc := 122) [.int r1, .int (((s2 k0 2) * x3)), .int x1] dX4_worst_122 lm_X4_69 yX4_term_ok yX4_term_in (sX4_term hK r1 ((s2 k0 2) * x3) x1 s2) rfl rfl (Nat.le_of_ble_eq_true rfl) ⟨by decide, by decide⟩ (fun r3 s4 => ?_)
          exact q_ireturn (pc := 125) dX4_worst_125
        refine q_iload_n (pc := 105) dX4_worst_105 rfl ?_
        refine q_goto (pc := 106) 125 dX4_worst_106 (by decide) ?_
        exact q_ireturn (pc := 125) dX4_worst_125
      refine q_iload_n (pc := 96) dX4_worst_96 rfl ?_
      refine q_goto (pc := 97) 125 dX4_worst_97 (by decide) ?_
      exact q_ireturn (pc := 125) dX4_worst_125
    refine q_iconst (pc := 39) 1 dX4_worst_39 (by decide) ?_
    refine q_istore (pc := 40) dX4_worst_40 (by decide) ?_
    exact tX4_worst_42 hK h0 (fun z1 z2 z3 z4 sg => ih z1 z2 z3 z4 sg) qfu x1 x2 x3 x4 1 sg
def fX4_worst (k0 : Nat) (x1 : Int32) (sg : qSt) : qR :=
  qb (fX4_in x1 0 3 sg) fun r1 s2 =>
  if r1 = 0 then
    some ((-2), s2)
  else
  qb (fX4_missedAt k0 (-1) s2) fun r3 s4 =>
  if r3 ≤ 0 then
    fX4_worst_30 k0 qfu x1 0 1 0 s4
  else
  some ((-3), s4)
set_option maxRecDepth 20000 in
set_option maxHeartbeats 4000000 in
theorem sX4_worst {b : Nat} {K : List Nat} (hK : qOk K) {k0 : Nat} (h0 : qIn K k0 4) (x1 : Int32) (sg : qSt) : qS yX4_worst cX4_worst 6 (some .int) 2 47 b K [.ref (b + k0), .int x1] sg (fX4_worst k0 x1 sg) := by
  refine qS_of (own := RX4) rfl (by decide) hK.1 (by simp [Value.category]) (Nat.le_of_ble_eq_true rfl) (fun z _ ty h => by cases h; exact vp_nar_int _) ?_
  show qJ RX4 cX4_worst 6 2 47 false (fun _ _ => True) b K 0 [some (.ref (b + k0)), some (.int x1), none, none, none, none] [] sg (fX4_worst k0 x1 sg)
  unfold fX4_worst
  refine q_iload_n (pc := 0) dX4_worst_0 rfl ?_
  refine q_iconst (pc := 1) 0 dX4_worst_1 (by decide) ?_
  refine q_iconst (pc := 2) 3 dX4_worst_2 (by decide) ?_
  refine q_callSi (pc := 3) [.int x1, .int 0, .int 3] dX4_worst_3 lm_X4_47 yX4_in_ok yX4_in_in (sX4_in hK x1 0 3 sg) rfl rfl (Nat.le_of_ble_eq_true rfl) ⟨by decide, by decide⟩ (fun r1 s2 => ?_)
  refine q_if_ne (pc := 6) 12 dX4_worst_6 (by decide) ?_ ?_
  · refine q_aload_n (pc := 12) dX4_worst_12 rfl ?_
    refine q_iconst (pc := 13) (-1) dX4_worst_13 (by decide) ?_
    refine q_callVi (pc := 14) [.int (-1)] dX4_worst_14 lm_X4_73 yX4_missedAt_ok yX4_missedAt_in h0 (by decide) rfl (sX4_missedAt hK h0 (-1) s2) rfl rfl (Nat.le_of_ble_eq_true rfl) ⟨by decide, by decide⟩ (fun r3 s4 => ?_)
    refine q_if_le (pc := 17) 23 dX4_worst_17 (by decide) ?_ ?_
    · refine q_iconst (pc := 23) 0 dX4_worst_23 (by decide) ?_
      refine q_istore_n (pc := 24) dX4_worst_24 (by decide) ?_
      refine q_iconst (pc := 25) 1 dX4_worst_25 (by decide) ?_
      refine q_istore_n (pc := 26) dX4_worst_26 (by decide) ?_
      refine q_iconst (pc := 27) 0 dX4_worst_27 (by decide) ?_
      refine q_istore (pc := 28) dX4_worst_28 (by decide) ?_
      exact tX4_worst_30 hK h0 qfu x1 0 1 0 s4
    refine q_bipush (pc := 20) (-3) dX4_worst_20 (by decide) ?_
    exact q_ireturn (pc := 22) dX4_worst_22
  refine q_bipush (pc := 9) (-2) dX4_worst_9 (by decide) ?_
  exact q_ireturn (pc := 11) dX4_worst_11
-- LineSearchModel.mean()I
def fX4_mean_25 (k0 : Nat) (c15 : Int32 → Int32 → qSt → qR) : Nat → Int32 → Int32 → Int32 → qSt → qR
  | 0, _, _, _, _ => none
  | n + 1, x1, x2, x3, sg =>
    if (sg k0 1) < x3 then
      c15 x1 ((x2 + 1)) sg
    else
    if qin ((9 * x2) + x3) (qlen (k0 + 1)) then
    qb (fX4_wayOf k0 x2 x3 sg) fun r1 s2 =>
    fX4_mean_25 k0 c15 n ((x1 + ((sg (k0 + 1) (Int32.toNatClampNeg ((9 * x2) + x3))) * r1))) x2 ((x3 + 1)) s2
    else none
set_option maxRecDepth 20000 in
set_option maxHeartbeats 4000000 in
theorem tX4_mean_25 {b : Nat} {K : List Nat} (hK : qOk K) {k0 : Nat} {c15 : Int32 → Int32 → qSt → qR} (h0 : qIn K k0 4) (hc15 : ∀ (x1 x2 : Int32) (sg : qSt), qJ RX4 cX4_mean 4 2 47 false (fun _ _ => True) b K 15 [some (.ref (b + k0)), some (.int x1), some (.int x2), none] [] sg (c15 x1 x2 sg)) : ∀ (n : Nat) (x1 x2 x3 : Int32) (sg : qSt), qJ RX4 cX4_mean 4 2 47 false (fun _ _ => True) b K 25 [some (.ref (b + k0)), some (.int x1), some (.int x2), some (.int x3)] [] sg (fX4_mean_25 k0 c15 n x1 x2 x3 sg) := by
  intro n
  induction n with
  | zero => intro x1 x2 x3 sg; exact qJ_none
  | succ n ih =>
    intro x1 x2 x3 sg
    unfold fX4_mean_25
    refine q_iload_n (pc := 25) dX4_mean_25 rfl ?_
    refine q_aload_n (pc := 26) dX4_mean_26 rfl ?_
    refine qg_4_1 (pc := 27) dX4_mean_27 h0 lf_X4_13 ?_
    refine q_icmp_gt (pc := 30) 60 dX4_mean_30 (by decide) ?_ ?_
    · refine q_iinc (pc := 60) 1 dX4_mean_60 rfl (by decide) (by decide) ?_
      refine q_goto (pc := 63) 15 dX4_mean_63 (by decide) ?_
      refine qJ_weak [some (.ref (b + k0)), some (.int x1), some (.int ((x2 + 1))), none] ⟨rfl, rfl, rfl, trivial⟩ ?_
      exact hc15 x1 ((x2 + 1)) sg
    refine q_iload_n (pc := 33) dX4_mean_33 rfl ?_
    refine q_aload_n (pc := 34) dX4_mean_34 rfl ?_
    refine qg_4_4 (pc := 35) dX4_mean_35 h0 lf_X4_22 ?_
    refine q_bipush (pc := 38) 9 dX4_mean_38 (by decide) ?_
    refine q_iload_n (pc := 40) dX4_mean_40 rfl ?_
    refine q_imul (pc := 41) dX4_mean_41 ?_
    refine q_iload_n (pc := 42) dX4_mean_42 rfl ?_
    refine q_iadd (pc := 43) dX4_mean_43 ?_
    refine q_iald (pc := 44) dX4_mean_44 (qch_4_4 hK h0) ?_
    refine q_aload_n (pc := 45) dX4_mean_45 rfl ?_
    refine q_iload_n (pc := 46) dX4_mean_46 rfl ?_
    refine q_iload_n (pc := 47) dX4_mean_47 rfl ?_
    refine q_callVi (pc := 48) [.int x2, .int x3] dX4_mean_48 lm_X4_63 yX4_wayOf_ok yX4_wayOf_in h0 (by decide) rfl (sX4_wayOf hK h0 x2 x3 sg) rfl rfl (Nat.le_of_ble_eq_true rfl) ⟨by decide, by decide⟩ (fun r1 s2 => ?_)
    refine q_imul (pc := 51) dX4_mean_51 ?_
    refine q_iadd (pc := 52) dX4_mean_52 ?_
    refine q_istore_n (pc := 53) dX4_mean_53 (by decide) ?_
    refine q_iinc (pc := 54) 1 dX4_mean_54 rfl (by decide) (by decide) ?_
    refine q_goto (pc := 57) 25 dX4_mean_57 (by decide) ?_
    exact ih ((x1 + ((sg (k0 + 1) (Int32.toNatClampNeg ((9 * x2) + x3))) * r1))) x2 ((x3 + 1)) s2
def fX4_mean_15 (k0 : Nat) : Nat → Int32 → Int32 → qSt → qR
  | 0, _, _, _ => none
  | n + 1, x1, x2, sg =>
    if (sg k0 0) ≤ x2 then
      some (x1, sg)
    else
    fX4_mean_25 k0 (fun z1 z2 sg => fX4_mean_15 k0 n z1 z2 sg) qfu x1 x2 1 sg
set_option maxRecDepth 20000 in
set_option maxHeartbeats 4000000 in
theorem tX4_mean_15 {b : Nat} {K : List Nat} (hK : qOk K) {k0 : Nat} (h0 : qIn K k0 4) : ∀ (n : Nat) (x1 x2 : Int32) (sg : qSt), qJ RX4 cX4_mean 4 2 47 false (fun _ _ => True) b K 15 [some (.ref (b + k0)), some (.int x1), some (.int x2), none] [] sg (fX4_mean_15 k0 n x1 x2 sg) := by
  intro n
  induction n with
  | zero => intro x1 x2 sg; exact qJ_none
  | succ n ih =>
    intro x1 x2 sg
    unfold fX4_mean_15
    refine q_iload_n (pc := 15) dX4_mean_15 rfl ?_
    refine q_aload_n (pc := 16) dX4_mean_16 rfl ?_
    refine qg_4_0 (pc := 17) dX4_mean_17 h0 lf_X4_7 ?_
    refine q_icmp_ge (pc := 20) 66 dX4_mean_20 (by decide) ?_ ?_
    · refine q_iload_n (pc := 66) dX4_mean_66 rfl ?_
      exact q_ireturn (pc := 67) dX4_mean_67
    refine q_iconst (pc := 23) 1 dX4_mean_23 (by decide) ?_
    refine q_istore_n (pc := 24) dX4_mean_24 (by decide) ?_
    exact tX4_mean_25 hK h0 (fun z1 z2 sg => ih z1 z2 sg) qfu x1 x2 1 sg
def fX4_mean (k0 : Nat) (sg : qSt) : qR :=
  qb (fX4_missedAt k0 (-1) sg) fun r1 s2 =>
  if r1 ≤ 0 then
    fX4_mean_15 k0 qfu 0 0 s2
  else
  some ((-3), s2)
set_option maxRecDepth 20000 in
set_option maxHeartbeats 4000000 in
theorem sX4_mean {b : Nat} {K : List Nat} (hK : qOk K) {k0 : Nat} (h0 : qIn K k0 4) (sg : qSt) : qS yX4_mean cX4_mean 4 (some .int) 2 47 b K [.ref (b + k0)] sg (fX4_mean k0 sg) := by
  refine qS_of (own := RX4) rfl (by decide) hK.1 (by simp [Value.category]) (Nat.le_of_ble_eq_true rfl) (fun z _ ty h => by cases h; exact vp_nar_int _) ?_
  show qJ RX4 cX4_mean 4 2 47 false (fun _ _ => True) b K 0 [some (.ref (b + k0)), none, none, none] [] sg (fX4_mean k0 sg)
  unfold fX4_mean
  refine q_aload_n (pc := 0) dX4_mean_0 rfl ?_
  refine q_iconst (pc := 1) (-1) dX4_mean_1 (by decide) ?_
  refine q_callVi (pc := 2) [.int (-1)] dX4_mean_2 lm_X4_73 yX4_missedAt_ok yX4_missedAt_in h0 (by decide) rfl (sX4_missedAt hK h0 (-1) sg) rfl rfl (Nat.le_of_ble_eq_true rfl) ⟨by decide, by decide⟩ (fun r1 s2 => ?_)
  refine q_if_le (pc := 5) 11 dX4_mean_5 (by decide) ?_ ?_
  · refine q_iconst (pc := 11) 0 dX4_mean_11 (by decide) ?_
    refine q_istore_n (pc := 12) dX4_mean_12 (by decide) ?_
    refine q_iconst (pc := 13) 0 dX4_mean_13 (by decide) ?_
    refine q_istore_n (pc := 14) dX4_mean_14 (by decide) ?_
    exact tX4_mean_15 hK h0 qfu 0 0 s2
  refine q_bipush (pc := 8) (-3) dX4_mean_8 (by decide) ?_
  exact q_ireturn (pc := 10) dX4_mean_10
-- LineSearchModel.missed(I)I
def fX4_missed (k0 : Nat) (x1 : Int32) (sg : qSt) : qR :=
  qb (fX4_missedAt k0 x1 sg) fun r1 s2 =>
  some (r1, s2)
set_option maxRecDepth 20000 in
set_option maxHeartbeats 4000000 in
theorem sX4_missed {b : Nat} {K : List Nat} (hK : qOk K) {k0 : Nat} (h0 : qIn K k0 4) (x1 : Int32) (sg : qSt) : qS yX4_missed cX4_missed 2 (some .int) 2 47 b K [.ref (b + k0), .int x1] sg (fX4_missed k0 x1 sg) := by
  refine qS_of (own := RX4) rfl (by decide) hK.1 (by simp [Value.category]) (Nat.le_of_ble_eq_true rfl) (fun z _ ty h => by cases h; exact vp_nar_int _) ?_
  show qJ RX4 cX4_missed 2 2 47 false (fun _ _ => True) b K 0 [some (.ref (b + k0)), some (.int x1)] [] sg (fX4_missed k0 x1 sg)
  unfold fX4_missed
  refine q_aload_n (pc := 0) dX4_missed_0 rfl ?_
  refine q_iload_n (pc := 1) dX4_missed_1 rfl ?_
  refine q_callVi (pc := 2) [.int x1] dX4_missed_2 lm_X4_73 yX4_missedAt_ok yX4_missedAt_in h0 (by decide) rfl (sX4_missedAt hK h0 x1 sg) rfl rfl (Nat.le_of_ble_eq_true rfl) ⟨by decide, by decide⟩ (fun r1 s2 => ?_)
  exact q_ireturn (pc := 5) dX4_missed_5
-- LineSearchModel.finds(I)I
def fX4_finds_20 (k0 : Nat) : Nat → Int32 → Int32 → Int32 → qSt → qR
  | 0, _, _, _, _ => none
  | n + 1, x1, x2, x3, sg =>
    if x1 ≤ x3 then
      if qin x1 (qlen (k0 + 3)) then
      if (sg (k0 + 3) (Int32.toNatClampNeg x1)) ≤ x2 then
        some ((-6), sg)
      else
      if qin x1 (qlen (k0 + 2)) then
      some ((((10 * (sg (k0 + 2) (Int32.toNatClampNeg x1))) + x2) + 1), sg)
      else none
      else none
    else
    if qin x3 (qlen (k0 + 2)) then
    if qin x1 (qlen (k0 + 2)) then
    if (sg (k0 + 2) (Int32.toNatClampNeg x3)) = (sg (k0 + 2) (Int32.toNatClampNeg x1)) then
      if qin x3 (qlen (k0 + 3)) then
      if (sg (k0 + 3) (Int32.toNatClampNeg x3)) ≤ x2 then
        fX4_finds_20 k0 n x1 x2 ((x3 + 1)) sg
      else
      if qin x3 (qlen (k0 + 3)) then
      fX4_finds_20 k0 n x1 ((sg (k0 + 3) (Int32.toNatClampNeg x3))) ((x3 + 1)) sg
      else none
      else none
    else
    fX4_finds_20 k0 n x1 x2 ((x3 + 1)) sg
    else none
    else none
set_option maxRecDepth 20000 in
set_option maxHeartbeats 4000000 in
theorem tX4_finds_20 {b : Nat} {K : List Nat} (hK : qOk K) {k0 : Nat} (h0 : qIn K k0 4) : ∀ (n : Nat) (x1 x2 x3 : Int32) (sg : qSt), qJ RX4 cX4_finds 4 1 22 false (fun _ _ => True) b K 20 [some (.ref (b + k0)), some (.int x1), some (.int x2), some (.int x3)] [] sg (fX4_finds_20 k0 n x1 x2 x3 sg) := by
  intro n
  induction n with
  | zero => intro x1 x2 x3 sg; exact qJ_none
  | succ n ih =>
    intro x1 x2 x3 sg
    unfold fX4_finds_20
    refine q_iload_n (pc := 20) dX4_finds_20 rfl ?_
    refine q_iload_n (pc := 21) dX4_finds_21 rfl ?_
    refine q_icmp_ge (pc := 22) 67 dX4_finds_22 (by decide) ?_ ?_
    · refine q_aload_n (pc := 67) dX4_finds_67 rfl ?_
      refine qg_4_7 (pc := 68) dX4_finds_68 h0 lf_X4_29 ?_
      refine q_iload_n (pc := 71) dX4_finds_71 rfl ?_
      refine q_iald (pc := 72) dX4_finds_72 (qch_4_7 hK h0) ?_
      refine q_iload_n (pc := 73) dX4_finds_73 rfl ?_
      refine q_icmp_le (pc := 74) 93 dX4_finds_74 (by decide) ?_ ?_
      · refine q_bipush (pc := 93) (-6) dX4_finds_93 (by decide) ?_
        exact q_ireturn (pc := 95) dX4_finds_95
      refine q_bipush (pc := 77) 10 dX4_finds_77 (by decide) ?_
      refine q_aload_n (pc := 79) dX4_finds_79 rfl ?_
      refine qg_4_6 (pc := 80) dX4_finds_80 h0 lf_X4_26 ?_
      refine q_iload_n (pc := 83) dX4_finds_83 rfl ?_
      refine q_iald (pc := 84) dX4_finds_84 (qch_4_6 hK h0) ?_
      refine q_imul (pc := 85) dX4_finds_85 ?_
      refine q_iload_n (pc := 86) dX4_finds_86 rfl ?_
      refine q_iadd (pc := 87) dX4_finds_87 ?_
      refine q_iconst (pc := 88) 1 dX4_finds_88 (by decide) ?_
      refine q_iadd (pc := 89) dX4_finds_89 ?_
      refine q_goto (pc := 90) 95 dX4_finds_90 (by decide) ?_
      exact q_ireturn (pc := 95) dX4_finds_95
    refine q_aload_n (pc := 25) dX4_finds_25 rfl ?_
    refine qg_4_6 (pc := 26) dX4_finds_26 h0 lf_X4_26 ?_
    refine q_iload_n (pc := 29) dX4_finds_29 rfl ?_
    refine q_iald (pc := 30) dX4_finds_30 (qch_4_6 hK h0) ?_
    refine q_aload_n (pc := 31) dX4_finds_31 rfl ?_
    refine qg_4_6 (pc := 32) dX4_finds_32 h0 lf_X4_26 ?_
    refine q_iload_n (pc := 35) dX4_finds_35 rfl ?_
    refine q_iald (pc := 36) dX4_finds_36 (qch_4_6 hK h0) ?_
    refine q_icmp_ne (pc := 37) 59 dX4_finds_37 (by decide) ?_ ?_
    · refine q_iload_n (pc := 59) dX4_finds_59 rfl ?_
      refine q_istore_n (pc := 60) dX4_finds_60 (by decide) ?_
      refine q_iinc (pc := 61) 1 dX4_finds_61 rfl (by decide) (by decide) ?_
      refine q_goto (pc := 64) 20 dX4_finds_64 (by decide) ?_
      exact ih x1 x2 ((x3 + 1)) sg
    refine q_aload_n (pc := 40) dX4_finds_40 rfl ?_
    refine qg_4_7 (pc := 41) dX4_finds_41 h0 lf_X4_29 ?_
    refine q_iload_n (pc := 44) dX4_finds_44 rfl ?_
    refine q_iald (pc := 45) dX4_finds_45 (qch_4_7 hK h0) ?_
    refine q_iload_n (pc := 46) dX4_finds_46 rfl ?_
    refine q_icmp_le (pc := 47) 59 dX4_finds_47 (by decide) ?_ ?_
    · refine q_iload_n (pc := 59) dX4_finds_59 rfl ?_
      refine q_istore_n (pc := 60) dX4_finds_60 (by decide) ?_
      refine q_iinc (pc := 61) 1 dX4_finds_61 rfl (by decide) (by decide) ?_
      refine q_goto (pc := 64) 20 dX4_finds_64 (by decide) ?_
      exact ih x1 x2 ((x3 + 1)) sg
    refine q_aload_n (pc := 50) dX4_finds_50 rfl ?_
    refine qg_4_7 (pc := 51) dX4_finds_51 h0 lf_X4_29 ?_
    refine q_iload_n (pc := 54) dX4_finds_54 rfl ?_
    refine q_iald (pc := 55) dX4_finds_55 (qch_4_7 hK h0) ?_
    refine q_goto (pc := 56) 60 dX4_finds_56 (by decide) ?_
    refine q_istore_n (pc := 60) dX4_finds_60 (by decide) ?_
    refine q_iinc (pc := 61) 1 dX4_finds_61 rfl (by decide) (by decide) ?_
    refine q_goto (pc := 64) 20 dX4_finds_64 (by decide) ?_
    exact ih x1 ((sg (k0 + 3) (Int32.toNatClampNeg x3))) ((x3 + 1)) sg
def fX4_finds (k0 : Nat) (x1 : Int32) (sg : qSt) : qR :=
  qb (fX4_in x1 0 ((sg k0 5) - 1) sg) fun r1 s2 =>
  if r1 = 0 then
    some ((-1), s2)
  else
  fX4_finds_20 k0 qfu x1 0 0 s2
set_option maxRecDepth 20000 in
set_option maxHeartbeats 4000000 in
theorem sX4_finds {b : Nat} {K : List Nat} (hK : qOk K) {k0 : Nat} (h0 : qIn K k0 4) (x1 : Int32) (sg : qSt) : qS yX4_finds cX4_finds 4 (some .int) 1 22 b K [.ref (b + k0), .int x1] sg (fX4_finds k0 x1 sg) := by
  refine qS_of (own := RX4) rfl (by decide) hK.1 (by simp [Value.category]) (Nat.le_of_ble_eq_true rfl) (fun z _ ty h => by cases h; exact vp_nar_int _) ?_
  show qJ RX4 cX4_finds 4 1 22 false (fun _ _ => True) b K 0 [some (.ref (b + k0)), some (.int x1), none, none] [] sg (fX4_finds k0 x1 sg)
  unfold fX4_finds
  refine q_iload_n (pc := 0) dX4_finds_0 rfl ?_
  refine q_iconst (pc := 1) 0 dX4_finds_1 (by decide) ?_
  refine q_aload_n (pc := 2) dX4_finds_2 rfl ?_
  refine qg_4_5 (pc := 3) dX4_finds_3 h0 lf_X4_44 ?_
  refine q_iconst (pc := 6) 1 dX4_finds_6 (by decide) ?_
  refine q_isub (pc := 7) dX4_finds_7 ?_
  refine q_callSi (pc := 8) [.int x1, .int 0, .int (((sg k0 5) - 1))] dX4_finds_8 lm_X4_47 yX4_in_ok yX4_in_in (sX4_in hK x1 0 ((sg k0 5) - 1) sg) rfl rfl (Nat.le_of_ble_eq_true rfl) ⟨by decide, by decide⟩ (fun r1 s2 => ?_)
  refine q_if_ne (pc := 11) 16 dX4_finds_11 (by decide) ?_ ?_
  · refine q_iconst (pc := 16) 0 dX4_finds_16 (by decide) ?_
    refine q_istore_n (pc := 17) dX4_finds_17 (by decide) ?_
    refine q_iconst (pc := 18) 0 dX4_finds_18 (by decide) ?_
    refine q_istore_n (pc := 19) dX4_finds_19 (by decide) ?_
    exact tX4_finds_20 hK h0 qfu x1 0 0 s2
  refine q_iconst (pc := 14) (-1) dX4_finds_14 (by decide) ?_
  exact q_ireturn (pc := 15) dX4_finds_15
-- LineSearchModel.nines(I)I
def fX4_nines (x0 : Int32) (sg : qSt) : qR :=
  if x0 = 0 then
    some (1, sg)
  else
  if x0 = 1 then
    some (9, sg)
  else
  some (81, sg)
set_option maxRecDepth 20000 in
set_option maxHeartbeats 4000000 in
theorem sX4_nines {b : Nat} {K : List Nat} (hK : qOk K) (x0 : Int32) (sg : qSt) : qS yX4_nines cX4_nines 1 (some .int) 0 0 b K [.int x0] sg (fX4_nines x0 sg) := by
  refine qS_of (own := RX4) rfl (by decide) hK.1 (by simp [Value.category]) (Nat.le_of_ble_eq_true rfl) (fun z _ ty h => by cases h; exact vp_nar_int _) ?_
  show qJ RX4 cX4_nines 1 0 0 false (fun _ _ => True) b K 0 [some (.int x0)] [] sg (fX4_nines x0 sg)
  unfold fX4_nines
  refine q_iload_n (pc := 0) dX4_nines_0 rfl ?_
  refine q_if_ne (pc := 1) 8 dX4_nines_1 (by decide) ?_ ?_
  · refine q_iload_n (pc := 8) dX4_nines_8 rfl ?_
    refine q_iconst (pc := 9) 1 dX4_nines_9 (by decide) ?_
    refine q_icmp_ne (pc := 10) 18 dX4_nines_10 (by decide) ?_ ?_
    · refine q_bipush (pc := 18) 81 dX4_nines_18 (by decide) ?_
      exact q_ireturn (pc := 20) dX4_nines_20
    refine q_bipush (pc := 13) 9 dX4_nines_13 (by decide) ?_
    refine q_goto (pc := 15) 20 dX4_nines_15 (by decide) ?_
    exact q_ireturn (pc := 20) dX4_nines_20
  refine q_iconst (pc := 4) 1 dX4_nines_4 (by decide) ?_
  refine q_goto (pc := 5) 20 dX4_nines_5 (by decide) ?_
  exact q_ireturn (pc := 20) dX4_nines_20
-- LineSearchModel.gone(II)I
def fX4_gone (x0 x1 : Int32) (sg : qSt) : qR :=
  qb (fX4_nines x1 sg) fun r1 s2 =>
  if r1 = 0 then none else
  some (((x0 / r1) - (x0 / r1) / 9 * 9), s2)
set_option maxRecDepth 20000 in
set_option maxHeartbeats 4000000 in
theorem sX4_gone {b : Nat} {K : List Nat} (hK : qOk K) (x0 x1 : Int32) (sg : qSt) : qS yX4_gone cX4_gone 2 (some .int) 1 20 b K [.int x0, .int x1] sg (fX4_gone x0 x1 sg) := by
  refine qS_of (own := RX4) rfl (by decide) hK.1 (by simp [Value.category]) (Nat.le_of_ble_eq_true rfl) (fun z _ ty h => by cases h; exact vp_nar_int _) ?_
  show qJ RX4 cX4_gone 2 1 20 false (fun _ _ => True) b K 0 [some (.int x0), some (.int x1)] [] sg (fX4_gone x0 x1 sg)
  unfold fX4_gone
  refine q_iload_n (pc := 0) dX4_gone_0 rfl ?_
  refine q_iload_n (pc := 1) dX4_gone_1 rfl ?_
  refine q_callSi (pc := 2) [.int x1] dX4_gone_2 lm_X4_76 yX4_nines_ok yX4_nines_in (sX4_nines hK x1 sg) rfl rfl (Nat.le_of_ble_eq_true rfl) ⟨by decide, by decide⟩ (fun r1 s2 => ?_)
  refine q_idiv (pc := 5) dX4_gone_5 ?_
  refine q_bipush (pc := 6) 9 dX4_gone_6 (by decide) ?_
  refine q_iremc (pc := 8) dX4_gone_8 (by decide) ?_
  exact q_ireturn (pc := 9) dX4_gone_9
-- LineSearchModel.lastState()I
def fX4_lastState (k0 : Nat) (sg : qSt) : qR :=
  if (sg k0 0) = 3 then
    some ((((sg k0 1) + (9 * (sg k0 1))) + (81 * (sg k0 1))), sg)
  else
  some ((((sg k0 1) + (9 * (sg k0 1))) + 0), sg)
set_option maxRecDepth 20000 in
set_option maxHeartbeats 4000000 in
theorem sX4_lastState {b : Nat} {K : List Nat} (hK : qOk K) {k0 : Nat} (h0 : qIn K k0 4) (sg : qSt) : qS yX4_lastState cX4_lastState 1 (some .int) 0 0 b K [.ref (b + k0)] sg (fX4_lastState k0 sg) := by
  refine qS_of (own := RX4) rfl (by decide) hK.1 (by simp [Value.category]) (Nat.le_of_ble_eq_true rfl) (fun z _ ty h => by cases h; exact vp_nar_int _) ?_
  show qJ RX4 cX4_lastState 1 0 0 false (fun _ _ => True) b K 0 [some (.ref (b + k0))] [] sg (fX4_lastState k0 sg)
  unfold fX4_lastState
  refine q_aload_n (pc := 0) dX4_lastState_0 rfl ?_
  refine qg_4_1 (pc := 1) dX4_lastState_1 h0 lf_X4_13 ?_
  refine q_bipush (pc := 4) 9 dX4_lastState_4 (by decide) ?_
  refine q_aload_n (pc := 6) dX4_lastState_6 rfl ?_
  refine qg_4_1 (pc := 7) dX4_lastState_7 h0 lf_X4_13 ?_
  refine q_imul (pc := 10) dX4_lastState_10 ?_
  refine q_iadd (pc := 11) dX4_lastState_11 ?_
  refine q_aload_n (pc := 12) dX4_lastState_12 rfl ?_
  refine qg_4_0 (pc := 13) dX4_lastState_13 h0 lf_X4_7 ?_
  refine q_iconst (pc := 16) 3 dX4_lastState_16 (by decide) ?_
  refine q_icmp_ne (pc := 17) 30 dX4_lastState_17 (by decide) ?_ ?_
  · refine q_iconst (pc := 30) 0 dX4_lastState_30 (by decide) ?_
    refine q_iadd (pc := 31) dX4_lastState_31 ?_
    exact q_ireturn (pc := 32) dX4_lastState_32
  refine q_bipush (pc := 20) 81 dX4_lastState_20 (by decide) ?_
  refine q_aload_n (pc := 22) dX4_lastState_22 rfl ?_
  refine qg_4_1 (pc := 23) dX4_lastState_23 h0 lf_X4_13 ?_
  refine q_imul (pc := 26) dX4_lastState_26 ?_
  refine q_goto (pc := 27) 31 dX4_lastState_27 (by decide) ?_
  refine q_iadd (pc := 31) dX4_lastState_31 ?_
  exact q_ireturn (pc := 32) dX4_lastState_32
-- LineSearchModel.isState(I)Z
def fX4_isState_22 (k0 : Nat) : Nat → Int32 → Int32 → Int32 → qSt → qR
  | 0, _, _, _, _ => none
  | n + 1, x1, x2, x3, sg =>
    if 3 ≤ x3 then
      some (x2, sg)
    else
    if x2 = 0 then
      fX4_isState_22 k0 n x1 0 ((x3 + 1)) sg
    else
    qb (fX4_gone x1 x3 sg) fun r1 s2 =>
    if (s2 k0 1) < r1 then
      fX4_isState_22 k0 n x1 0 ((x3 + 1)) s2
    else
    fX4_isState_22 k0 n x1 1 ((x3 + 1)) s2
set_option maxRecDepth 20000 in
set_option maxHeartbeats 4000000 in
theorem tX4_isState_22 {b : Nat} {K : List Nat} (hK : qOk K) {k0 : Nat} (h0 : qIn K k0 4) : ∀ (n : Nat) (x1 x2 x3 : Int32) (sg : qSt), qJ RX4 cX4_isState 4 2 41 false (fun _ _ => True) b K 22 [some (.ref (b + k0)), some (.int x1), some (.int x2), some (.int x3)] [] sg (fX4_isState_22 k0 n x1 x2 x3 sg) := by
  intro n
  induction n with
  | zero => intro x1 x2 x3 sg; exact qJ_none
  | succ n ih =>
    intro x1 x2 x3 sg
    unfold fX4_isState_22
    refine q_iload_n (pc := 22) dX4_isState_22 rfl ?_
    refine q_iconst (pc := 23) 3 dX4_isState_23 (by decide) ?_
    refine q_icmp_ge (pc := 24) 55 dX4_isState_24 (by decide) ?_ ?_
    · refine q_iload_n (pc := 55) dX4_isState_55 rfl ?_
      exact q_ireturn (pc := 56) dX4_isState_56
    refine q_iload_n (pc := 27) dX4_isState_27 rfl ?_
    refine q_if_eq (pc := 28) 47 dX4_isState_28 (by decide) ?_ ?_
    · refine q_iconst (pc := 47) 0 dX4_isState_47 (by decide) ?_
      refine q_istore_n (pc := 48) dX4_isState_48 (by decide) ?_
      refine q_iinc (pc := 49) 1 dX4_isState_49 rfl (by decide) (by decide) ?_
      refine q_goto (pc := 52) 22 dX4_isState_52 (by decide) ?_
      exact ih x1 0 ((x3 + 1)) sg
    refine q_iload_n (pc := 31) dX4_isState_31 rfl ?_
    refine q_iload_n (pc := 32) dX4_isState_32 rfl ?_
    refine q_callSi (pc := 33) [.int x1, .int x3] dX4_isState_33 lm_X4_79 yX4_gone_ok yX4_gone_in (sX4_gone hK x1 x3 sg) rfl rfl (Nat.le_of_ble_eq_true rfl) ⟨by decide, by decide⟩ (fun r1 s2 => ?_)
    refine q_aload_n (pc := 36) dX4_isState_36 rfl ?_
    refine qg_4_1 (pc := 37) dX4_isState_37 h0 lf_X4_13 ?_
    refine q_icmp_gt (pc := 40) 47 dX4_isState_40 (by decide) ?_ ?_
    · refine q_iconst (pc := 47) 0 dX4_isState_47 (by decide) ?_
      refine q_istore_n (pc := 48) dX4_isState_48 (by decide) ?_
      refine q_iinc (pc := 49) 1 dX4_isState_49 rfl (by decide) (by decide) ?_
      refine q_goto (pc := 52) 22 dX4_isState_52 (by decide) ?_
      exact ih x1 0 ((x3 + 1)) s2
    refine q_iconst (pc := 43) 1 dX4_isState_43 (by decide) ?_
    refine q_goto (pc := 44) 48 dX4_isState_44 (by decide) ?_
    refine q_istore_n (pc := 48) dX4_isState_48 (by decide) ?_
    refine q_iinc (pc := 49) 1 dX4_isState_49 rfl (by decide) (by decide) ?_
    refine q_goto (pc := 52) 22 dX4_isState_52 (by decide) ?_
    exact ih x1 1 ((x3 + 1)) s2
def fX4_isState_b (k0 : Nat) (x1 : Int32) (sg : qSt) : qR :=
  if (sg k0 0) = 3 then
    fX4_isState_22 k0 qfu x1 1 0 sg
  else
  if 81 ≤ x1 then
    fX4_isState_22 k0 qfu x1 0 0 sg
  else
  fX4_isState_22 k0 qfu x1 1 0 sg
def fX4_isState (k0 : Nat) (x1 : Int32) (sg : qSt) : qR := qz (fX4_isState_b k0 x1 sg)
set_option maxRecDepth 20000 in
set_option maxHeartbeats 4000000 in
theorem sX4_isState {b : Nat} {K : List Nat} (hK : qOk K) {k0 : Nat} (h0 : qIn K k0 4) (x1 : Int32) (sg : qSt) : qS yX4_isState cX4_isState 4 (some .boolean) 2 41 b K [.ref (b + k0), .int x1] sg (fX4_isState k0 x1 sg) := by
  refine qS_of (own := RX4) rfl (by decide) hK.1 (by simp [Value.category]) (Nat.le_of_ble_eq_true rfl) (fun z hz ty h => by cases h; exact qz_bool hz) ?_
  show qJ RX4 cX4_isState 4 2 41 false (fun _ _ => True) b K 0 [some (.ref (b + k0)), some (.int x1), none, none] [] sg (fX4_isState k0 x1 sg)
  refine qJ_qz ?_
  unfold fX4_isState_b
  refine q_aload_n (pc := 0) dX4_isState_0 rfl ?_
  refine qg_4_0 (pc := 1) dX4_isState_1 h0 lf_X4_7 ?_
  refine q_iconst (pc := 4) 3 dX4_isState_4 (by decide) ?_
  refine q_icmp_eq (pc := 5) 14 dX4_isState_5 (by decide) ?_ ?_
  · refine q_iconst (pc := 14) 1 dX4_isState_14 (by decide) ?_
    refine q_goto (pc := 15) 19 dX4_isState_15 (by decide) ?_
    refine q_istore_n (pc := 19) dX4_isState_19 (by decide) ?_
    refine q_iconst (pc := 20) 0 dX4_isState_20 (by decide) ?_
    refine q_istore_n (pc := 21) dX4_isState_21 (by decide) ?_
    exact tX4_isState_22 hK h0 qfu x1 1 0 sg
  refine q_iload_n (pc := 8) dX4_isState_8 rfl ?_
  refine q_bipush (pc := 9) 81 dX4_isState_9 (by decide) ?_
  refine q_icmp_ge (pc := 11) 18 dX4_isState_11 (by decide) ?_ ?_
  · refine q_iconst (pc := 18) 0 dX4_isState_18 (by decide) ?_
    refine q_istore_n (pc := 19) dX4_isState_19 (by decide) ?_
    refine q_iconst (pc := 20) 0 dX4_isState_20 (by decide) ?_
    refine q_istore_n (pc := 21) dX4_isState_21 (by decide) ?_
    exact tX4_isState_22 hK h0 qfu x1 0 0 sg
  refine q_iconst (pc := 14) 1 dX4_isState_14 (by decide) ?_
  refine q_goto (pc := 15) 19 dX4_isState_15 (by decide) ?_
  refine q_istore_n (pc := 19) dX4_isState_19 (by decide) ?_
  refine q_iconst (pc := 20) 0 dX4_isState_20 (by decide) ?_
  refine q_istore_n (pc := 21) dX4_isState_21 (by decide) ?_
  exact tX4_isState_22 hK h0 qfu x1 1 0 sg
-- LineSearchModel.rest(I)I
def fX4_rest_21 (k0 : Nat) (c4 : Int32 → Int32 → Int32 → qSt → qR) : Nat → Int32 → Int32 → Int32 → Int32 → qSt → qR
  | 0, _, _, _, _, _ => none
  | n + 1, x1, x2, x3, x4, sg =>
    if (sg k0 1) < x4 then
      c4 x1 x2 ((x3 + 1)) sg
    else
    if qin ((9 * x3) + x4) (qlen (k0 + 1)) then
    fX4_rest_21 k0 c4 n x1 ((x2 + (sg (k0 + 1) (Int32.toNatClampNeg ((9 * x3) + x4))))) x3 ((x4 + 1)) sg
    else none
set_option maxRecDepth 20000 in
set_option maxHeartbeats 4000000 in
theorem tX4_rest_21 {b : Nat} {K : List Nat} (hK : qOk K) {k0 : Nat} {c4 : Int32 → Int32 → Int32 → qSt → qR} (h0 : qIn K k0 4) (hc4 : ∀ (x1 x2 x3 : Int32) (sg : qSt), qJ RX4 cX4_rest 5 2 41 false (fun _ _ => True) b K 4 [some (.ref (b + k0)), some (.int x1), some (.int x2), some (.int x3), none] [] sg (c4 x1 x2 x3 sg)) : ∀ (n : Nat) (x1 x2 x3 x4 : Int32) (sg : qSt), qJ RX4 cX4_rest 5 2 41 false (fun _ _ => True) b K 21 [some (.ref (b + k0)), some (.int x1), some (.int x2), some (.int x3), some (.int x4)] [] sg (fX4_rest_21 k0 c4 n x1 x2 x3 x4 sg) := by
  intro n
  induction n with
  | zero => intro x1 x2 x3 x4 sg; exact qJ_none
  | succ n ih =>
    intro x1 x2 x3 x4 sg
    unfold fX4_rest_21
    refine q_iload (pc := 21) dX4_rest_21 rfl ?_
    refine q_aload_n (pc := 23) dX4_rest_23 rfl ?_
    refine qg_4_1 (pc := 24) dX4_rest_24 h0 lf_X4_13 ?_
    refine q_icmp_gt (pc := 27) 51 dX4_rest_27 (by decide) ?_ ?_
    · refine q_iinc (pc := 51) 1 dX4_rest_51 rfl (by decide) (by decide) ?_
      refine q_goto (pc := 54) 4 dX4_rest_54 (by decide) ?_
      refine qJ_weak [some (.ref (b + k0)), some (.int x1), some (.int x2), some (.int ((x3 + 1))), none] ⟨rfl, rfl, rfl, rfl, trivial⟩ ?_
      exact hc4 x1 x2 ((x3 + 1)) sg
    refine q_iload_n (pc := 30) dX4_rest_30 rfl ?_
    refine q_aload_n (pc := 31) dX4_rest_31 rfl ?_
    refine qg_4_4 (pc := 32) dX4_rest_32 h0 lf_X4_22 ?_
    refine q_bipush (pc := 35) 9 dX4_rest_35 (by decide) ?_
    refine q_iload_n (pc := 37) dX4_rest_37 rfl ?_
    refine q_imul (pc := 38) dX4_rest_38 ?_
    refine q_iload (pc := 39) dX4_rest_39 rfl ?_
    refine q_iadd (pc := 41) dX4_rest_41 ?_
    refine q_iald (pc := 42) dX4_rest_42 (qch_4_4 hK h0) ?_
    refine q_iadd (pc := 43) dX4_rest_43 ?_
    refine q_istore_n (pc := 44) dX4_rest_44 (by decide) ?_
    refine q_iinc (pc := 45) 1 dX4_rest_45 rfl (by decide) (by decide) ?_
    refine q_goto (pc := 48) 21 dX4_rest_48 (by decide) ?_
    exact ih x1 ((x2 + (sg (k0 + 1) (Int32.toNatClampNeg ((9 * x3) + x4))))) x3 ((x4 + 1)) sg
def fX4_rest_4 (k0 : Nat) : Nat → Int32 → Int32 → Int32 → qSt → qR
  | 0, _, _, _, _ => none
  | n + 1, x1, x2, x3, sg =>
    if (sg k0 0) ≤ x3 then
      some (x2, sg)
    else
    qb (fX4_gone x1 x3 sg) fun r1 s2 =>
    fX4_rest_21 k0 (fun z1 z2 z3 sg => fX4_rest_4 k0 n z1 z2 z3 sg) qfu x1 x2 x3 ((r1 + 1)) s2
set_option maxRecDepth 20000 in
set_option maxHeartbeats 4000000 in
theorem tX4_rest_4 {b : Nat} {K : List Nat} (hK : qOk K) {k0 : Nat} (h0 : qIn K k0 4) : ∀ (n : Nat) (x1 x2 x3 : Int32) (sg : qSt), qJ RX4 cX4_rest 5 2 41 false (fun _ _ => True) b K 4 [some (.ref (b + k0)), some (.int x1), some (.int x2), some (.int x3), none] [] sg (fX4_rest_4 k0 n x1 x2 x3 sg) := by
  intro n
  induction n with
  | zero => intro x1 x2 x3 sg; exact qJ_none
  | succ n ih =>
    intro x1 x2 x3 sg
    unfold fX4_rest_4
    refine q_iload_n (pc := 4) dX4_rest_4 rfl ?_
    refine q_aload_n (pc := 5) dX4_rest_5 rfl ?_
    refine qg_4_0 (pc := 6) dX4_rest_6 h0 lf_X4_7 ?_
    refine q_icmp_ge (pc := 9) 57 dX4_rest_9 (by decide) ?_ ?_
    · refine q_iload_n (pc := 57) dX4_rest_57 rfl ?_
      exact q_ireturn (pc := 58) dX4_rest_58
    refine q_iload_n (pc := 12) dX4_rest_12 rfl ?_
    refine q_iload_n (pc := 13) dX4_rest_13 rfl ?_
    refine q_callSi (pc := 14) [.int x1, .int x3] dX4_rest_14 lm_X4_79 yX4_gone_ok yX4_gone_in (sX4_gone hK x1 x3 sg) rfl rfl (Nat.le_of_ble_eq_true rfl) ⟨by decide, by decide⟩ (fun r1 s2 => ?_)
    refine q_iconst (pc := 17) 1 dX4_rest_17 (by decide) ?_
    refine q_iadd (pc := 18) dX4_rest_18 ?_
    refine q_istore (pc := 19) dX4_rest_19 (by decide) ?_
    exact tX4_rest_21 hK h0 (fun z1 z2 z3 sg => ih z1 z2 z3 sg) qfu x1 x2 x3 ((r1 + 1)) s2
def fX4_rest (k0 : Nat) (x1 : Int32) (sg : qSt) : qR :=
  fX4_rest_4 k0 qfu x1 0 0 sg
set_option maxRecDepth 20000 in
set_option maxHeartbeats 4000000 in
theorem sX4_rest {b : Nat} {K : List Nat} (hK : qOk K) {k0 : Nat} (h0 : qIn K k0 4) (x1 : Int32) (sg : qSt) : qS yX4_rest cX4_rest 5 (some .int) 2 41 b K [.ref (b + k0), .int x1] sg (fX4_rest k0 x1 sg) := by
  refine qS_of (own := RX4) rfl (by decide) hK.1 (by simp [Value.category]) (Nat.le_of_ble_eq_true rfl) (fun z _ ty h => by cases h; exact vp_nar_int _) ?_
  show qJ RX4 cX4_rest 5 2 41 false (fun _ _ => True) b K 0 [some (.ref (b + k0)), some (.int x1), none, none, none] [] sg (fX4_rest k0 x1 sg)
  unfold fX4_rest
  refine q_iconst (pc := 0) 0 dX4_rest_0 (by decide) ?_
  refine q_istore_n (pc := 1) dX4_rest_1 (by decide) ?_
  refine q_iconst (pc := 2) 0 dX4_rest_2 (by decide) ?_
  refine q_istore_n (pc := 3) dX4_rest_3 (by decide) ?_
  exact tX4_rest_4 hK h0 qfu x1 0 0 sg
-- LineSearchModel.adds(II)I
def fX4_adds (k0 : Nat) (x1 x2 : Int32) (sg : qSt) : qR :=
  qb (fX4_rest k0 x1 sg) fun r1 s2 =>
  some (((x2 * ((sg k0 2) + (sg k0 3))) * r1), s2)
set_option maxRecDepth 20000 in
set_option maxHeartbeats 4000000 in
theorem sX4_adds {b : Nat} {K : List Nat} (hK : qOk K) {k0 : Nat} (h0 : qIn K k0 4) (x1 x2 : Int32) (sg : qSt) : qS yX4_adds cX4_adds 3 (some .int) 3 65 b K [.ref (b + k0), .int x1, .int x2] sg (fX4_adds k0 x1 x2 sg) := by
  refine qS_of (own := RX4) rfl (by decide) hK.1 (by simp [Value.category]) (Nat.le_of_ble_eq_true rfl) (fun z _ ty h => by cases h; exact vp_nar_int _) ?_
  show qJ RX4 cX4_adds 3 3 65 false (fun _ _ => True) b K 0 [some (.ref (b + k0)), some (.int x1), some (.int x2)] [] sg (fX4_adds k0 x1 x2 sg)
  unfold fX4_adds
  refine q_iload_n (pc := 0) dX4_adds_0 rfl ?_
  refine q_aload_n (pc := 1) dX4_adds_1 rfl ?_
  refine qg_4_2 (pc := 2) dX4_adds_2 h0 lf_X4_16 ?_
  refine q_aload_n (pc := 5) dX4_adds_5 rfl ?_
  refine qg_4_3 (pc := 6) dX4_adds_6 h0 lf_X4_19 ?_
  refine q_iadd (pc := 9) dX4_adds_9 ?_
  refine q_imul (pc := 10) dX4_adds_10 ?_
  refine q_aload_n (pc := 11) dX4_adds_11 rfl ?_
  refine q_iload_n (pc := 12) dX4_adds_12 rfl ?_
  refine q_callVi (pc := 13) [.int x1] dX4_adds_13 lm_X4_82 yX4_rest_ok yX4_rest_in h0 (by decide) rfl (sX4_rest hK h0 x1 sg) rfl rfl (Nat.le_of_ble_eq_true rfl) ⟨by decide, by decide⟩ (fun r1 s2 => ?_)
  refine q_imul (pc := 16) dX4_adds_16 ?_
  exact q_ireturn (pc := 17) dX4_adds_17
-- LineSearchModel.layLeast()V
def fX4_layLeast_55 (k0 : Nat) (c39 : Int32 → Int32 → qSt → qR) : Nat → Int32 → Int32 → Int32 → qSt → qR
  | 0, _, _, _, _ => none
  | n + 1, x1, x2, x3, sg =>
    if (sg k0 1) < x3 then
      c39 x1 ((x2 + 1)) sg
    else
    qb (fX4_gone x1 x2 sg) fun r1 s2 =>
    qb (fX4_nines x2 s2) fun r3 s4 =>
    qb (fX4_adds k0 (x1 + ((x3 - r1) * r3)) x3 s4) fun r5 s6 =>
    if qin (x1 + ((x3 - r1) * r3)) (qlen (k0 + 4)) then
    if qin x1 (qlen (k0 + 4)) then
    if (s6 (k0 + 4) (Int32.toNatClampNeg x1)) ≤ (r5 + (s6 (k0 + 4) (Int32.toNatClampNeg (x1 + ((x3 - r1) * r3))))) then
      if qin x1 (qlen (k0 + 4)) then
      if qin x1 (qlen (k0 + 4)) then
      fX4_layLeast_55 k0 c39 n x1 x2 ((x3 + 1)) (qset s6 (k0 + 4) (Int32.toNatClampNeg x1) (s6 (k0 + 4) (Int32.toNatClampNeg x1)))
      else none
      else none
    else
    if qin x1 (qlen (k0 + 4)) then
    fX4_layLeast_55 k0 c39 n x1 x2 ((x3 + 1)) (qset s6 (k0 + 4) (Int32.toNatClampNeg x1) (r5 + (s6 (k0 + 4) (Int32.toNatClampNeg (x1 + ((x3 - r1) * r3))))))
    else none
    else none
    else none
set_option maxRecDepth 20000 in
set_option maxHeartbeats 4000000 in
theorem tX4_layLeast_55 {b : Nat} {K : List Nat} (hK : qOk K) {k0 : Nat} {c39 : Int32 → Int32 → qSt → qR} (h0 : qIn K k0 4) (hc39 : ∀ (x1 x2 : Int32) (sg : qSt), qJ RX4 cX4_layLeast 6 4 87 true (fun _ _ => True) b K 39 [some (.ref (b + k0)), some (.int x1), some (.int x2), none, none, none] [] sg (c39 x1 x2 sg)) : ∀ (n : Nat) (x1 x2 x3 : Int32) (sg : qSt), qJ RX4 cX4_layLeast 6 4 87 true (fun _ _ => True) b K 55 [some (.ref (b + k0)), some (.int x1), some (.int x2), some (.int x3), none, none] [] sg (fX4_layLeast_55 k0 c39 n x1 x2 x3 sg) := by
  intro n
  induction n with
  | zero => intro x1 x2 x3 sg; exact qJ_none
  | succ n ih =>
    intro x1 x2 x3 sg
    unfold fX4_layLeast_55
    refine q_iload_n (pc := 55) dX4_layLeast_55 rfl ?_
    refine q_aload_n (pc := 56) dX4_layLeast_56 rfl ?_
    refine qg_4_1 (pc := 57) dX4_layLeast_57 h0 lf_X4_13 ?_
    refine q_icmp_gt (pc := 60) 130 dX4_layLeast_60 (by decide) ?_ ?_
    · refine q_iinc (pc := 130) 1 dX4_layLeast_130 rfl (by decide) (by decide) ?_
      refine q_goto (pc := 133) 39 dX4_layLeast_133 (by decide) ?_
      refine qJ_weak [some (.ref (b + k0)), some (.int x1), some (.int ((x2 + 1))), none, none, none] ⟨rfl, rfl, rfl, trivial⟩ ?_
      exact hc39 x1 ((x2 + 1)) sg
    refine q_iload_n (pc := 63) dX4_layLeast_63 rfl ?_
    refine q_iload_n (pc := 64) dX4_layLeast_64 rfl ?_
    refine q_iload_n (pc := 65) dX4_layLeast_65 rfl ?_
    refine q_iload_n (pc := 66) dX4_layLeast_66 rfl ?_
    refine q_callSi (pc := 67) [.int x1, .int x2] dX4_layLeast_67 lm_X4_79 yX4_gone_ok yX4_gone_in (sX4_gone hK x1 x2 sg) rfl rfl (Nat.le_of_ble_eq_true rfl) ⟨by decide, by decide⟩ (fun r1 s2 => ?_)
    refine q_isub (pc := 70) dX4_layLeast_70 ?_
    refine q_iload_n (pc := 71) dX4_layLeast_71 rfl ?_
    refine q_callSi (pc := 72) [.int x2] dX4_layLeast_72 lm_X4_76 yX4_nines_ok yX4_nines_in (sX4_nines hK x2 s2) rfl rfl (Nat.le_of_ble_eq_true rfl) ⟨by decide, by decide⟩ (fun r3 s4 => ?_)
    refine q_imul (pc := 75) dX4_layLeast_75 ?_
    refine q_iadd (pc := 76) dX4_layLeast_76 ?_
    refine q_istore (pc := 77) dX4_layLeast_77 (by decide) ?_
    refine q_aload_n (pc := 79) dX4_layLeast_79 rfl ?_
    refine q_iload (pc := 80) dX4_layLeast_80 rfl ?_
    refine q_iload_n (pc := 82) dX4_layLeast_82 rfl ?_
    refine q_callVi (pc := 83) [.int ((x1 + ((x3 - r1) * r3))), .int x3] dX4_layLeast_83 lm_X4_94 yX4_adds_ok yX4_adds_in h0 (by decide) rfl (sX4_adds hK h0 (x1 + ((x3 - r1) * r3)) x3 s4) rfl rfl (Nat.le_of_ble_eq_true rfl) ⟨by decide, by decide⟩ (fun r5 s6 => ?_)
    refine q_aload_n (pc := 86) dX4_layLeast_86 rfl ?_
    refine qg_4_8 (pc := 87) dX4_layLeast_87 h0 lf_X4_32 ?_
    refine q_iload (pc := 90) dX4_layLeast_90 rfl ?_
    refine q_iald (pc := 92) dX4_layLeast_92 (qch_4_8 hK h0) ?_
    refine q_iadd (pc := 93) dX4_layLeast_93 ?_
    refine q_istore (pc := 94) dX4_layLeast_94 (by decide) ?_
    refine q_aload_n (pc := 96) dX4_layLeast_96 rfl ?_
    refine qg_4_8 (pc := 97) dX4_layLeast_97 h0 lf_X4_32 ?_
    refine q_iload_n (pc := 100) dX4_layLeast_100 rfl ?_
    refine q_iload (pc := 101) dX4_layLeast_101 rfl ?_
    refine q_aload_n (pc := 103) dX4_layLeast_103 rfl ?_
    refine qg_4_8 (pc := 104) dX4_layLeast_104 h0 lf_X4_32 ?_
    refine q_iload_n (pc := 107) dX4_layLeast_107 rfl ?_
    refine q_iald (pc := 108) dX4_layLeast_108 (qch_4_8 hK h0) ?_
    refine q_icmp_ge (pc := 109) 117 dX4_layLeast_109 (by decide) ?_ ?_
    · refine q_aload_n (pc := 117) dX4_layLeast_117 rfl ?_
      refine qg_4_8 (pc := 118) dX4_layLeast_118 h0 lf_X4_32 ?_
      refine q_iload_n (pc := 121) dX4_layLeast_121 rfl ?_
      refine q_iald (pc := 122) dX4_layLeast_122 (qch_4_8 hK h0) ?_
      refine q_iast (pc := 123) dX4_layLeast_123 (qch_4_8 hK h0) ?_
      refine q_iinc (pc := 124) 1 dX4_layLeast_124 rfl (by decide) (by decide) ?_
      refine q_goto (pc := 127) 55 dX4_layLeast_127 (by decide) ?_
      refine qJ_weak [some (.ref (b + k0)), some (.int x1), some (.int x2), some (.int ((x3 + 1))), none, none] ⟨rfl, rfl, rfl, rfl, trivial⟩ ?_
      exact ih x1 x2 ((x3 + 1)) (qset s6 (k0 + 4) (Int32.toNatClampNeg x1) (s6 (k0 + 4) (Int32.toNatClampNeg x1)))
    refine q_iload (pc := 112) dX4_layLeast_112 rfl ?_
    refine q_goto (pc := 114) 123 dX4_layLeast_114 (by decide) ?_
    refine q_iast (pc := 123) dX4_layLeast_123 (qch_4_8 hK h0) ?_
    refine q_iinc (pc := 124) 1 dX4_layLeast_124 rfl (by decide) (by decide) ?_
    refine q_goto (pc := 127) 55 dX4_layLeast_127 (by decide) ?_
    refine qJ_weak [some (.ref (b + k0)), some (.int x1), some (.int x2), some (.int ((x3 + 1))), none, none] ⟨rfl, rfl, rfl, rfl, trivial⟩ ?_
    exact ih x1 x2 ((x3 + 1)) (qset s6 (k0 + 4) (Int32.toNatClampNeg x1) (r5 + (s6 (k0 + 4) (Int32.toNatClampNeg (x1 + ((x3 - r1) * r3))))))
def fX4_layLeast_39 (k0 : Nat) (c5 : Int32 → qSt → qR) : Nat → Int32 → Int32 → qSt → qR
  | 0, _, _, _ => none
  | n + 1, x1, x2, sg =>
    if (sg k0 0) ≤ x2 then
      c5 ((x1 + (-1))) sg
    else
    qb (fX4_gone x1 x2 sg) fun r1 s2 =>
    fX4_layLeast_55 k0 (fun z1 z2 sg => fX4_layLeast_39 k0 c5 n z1 z2 sg) qfu x1 x2 ((r1 + 1)) s2
set_option maxRecDepth 20000 in
set_option maxHeartbeats 4000000 in
theorem tX4_layLeast_39 {b : Nat} {K : List Nat} (hK : qOk K) {k0 : Nat} {c5 : Int32 → qSt → qR} (h0 : qIn K k0 4) (hc5 : ∀ (x1 : Int32) (sg : qSt), qJ RX4 cX4_layLeast 6 4 87 true (fun _ _ => True) b K 5 [some (.ref (b + k0)), some (.int x1), none, none, none, none] [] sg (c5 x1 sg)) : ∀ (n : Nat) (x1 x2 : Int32) (sg : qSt), qJ RX4 cX4_layLeast 6 4 87 true (fun _ _ => True) b K 39 [some (.ref (b + k0)), some (.int x1), some (.int x2), none, none, none] [] sg (fX4_layLeast_39 k0 c5 n x1 x2 sg) := by
  intro n
  induction n with
  | zero => intro x1 x2 sg; exact qJ_none
  | succ n ih =>
    intro x1 x2 sg
    unfold fX4_layLeast_39
    refine q_iload_n (pc := 39) dX4_layLeast_39 rfl ?_
    refine q_aload_n (pc := 40) dX4_layLeast_40 rfl ?_
    refine qg_4_0 (pc := 41) dX4_layLeast_41 h0 lf_X4_7 ?_
    refine q_icmp_ge (pc := 44) 136 dX4_layLeast_44 (by decide) ?_ ?_
    · refine q_iinc (pc := 136) (-1) dX4_layLeast_136 rfl (by decide) (by decide) ?_
      refine q_goto (pc := 139) 5 dX4_layLeast_139 (by decide) ?_
      refine qJ_weak [some (.ref (b + k0)), some (.int ((x1 + (-1)))), none, none, none, none] ⟨rfl, rfl, trivial⟩ ?_
      exact hc5 ((x1 + (-1))) sg
    refine q_iload_n (pc := 47) dX4_layLeast_47 rfl ?_
    refine q_iload_n (pc := 48) dX4_layLeast_48 rfl ?_
    refine q_callSi (pc := 49) [.int x1, .int x2] dX4_layLeast_49 lm_X4_79 yX4_gone_ok yX4_gone_in (sX4_gone hK x1 x2 sg) rfl rfl (Nat.le_of_ble_eq_true rfl) ⟨by decide, by decide⟩ (fun r1 s2 => ?_)
    refine q_iconst (pc := 52) 1 dX4_layLeast_52 (by decide) ?_
    refine q_iadd (pc := 53) dX4_layLeast_53 ?_
    refine q_istore_n (pc := 54) dX4_layLeast_54 (by decide) ?_
    exact tX4_layLeast_55 hK h0 (fun z1 z2 sg => ih z1 z2 sg) qfu x1 x2 ((r1 + 1)) s2
def fX4_layLeast_5 (k0 : Nat) : Nat → Int32 → qSt → qR
  | 0, _, _ => none
  | n + 1, x1, sg =>
    if x1 < 0 then
      some (0, sg)
    else
    qb (fX4_isState k0 x1 sg) fun r1 s2 =>
    if r1 = 0 then
      fX4_layLeast_5 k0 n ((x1 + (-1))) s2
    else
    qb (fX4_lastState k0 s2) fun r3 s4 =>
    if x1 = r3 then
      if qin x1 (qlen (k0 + 4)) then
      fX4_layLeast_39 k0 (fun z1 sg => fX4_layLeast_5 k0 n z1 sg) qfu x1 0 (qset s4 (k0 + 4) (Int32.toNatClampNeg x1) 0)
      else none
    else
    if qin x1 (qlen (k0 + 4)) then
    fX4_layLeast_39 k0 (fun z1 sg => fX4_layLeast_5 k0 n z1 sg) qfu x1 0 (qset s4 (k0 + 4) (Int32.toNatClampNeg x1) 1000000000)
    else none
set_option maxRecDepth 20000 in
set_option maxHeartbeats 4000000 in
theorem tX4_layLeast_5 {b : Nat} {K : List Nat} (hK : qOk K) {k0 : Nat} (h0 : qIn K k0 4) : ∀ (n : Nat) (x1 : Int32) (sg : qSt), qJ RX4 cX4_layLeast 6 4 87 true (fun _ _ => True) b K 5 [some (.ref (b + k0)), some (.int x1), none, none, none, none] [] sg (fX4_layLeast_5 k0 n x1 sg) := by
  intro n
  induction n with
  | zero => intro x1 sg; exact qJ_none
  | succ n ih =>
    intro x1 sg
    unfold fX4_layLeast_5
    refine q_iload_n (pc := 5) dX4_layLeast_5 rfl ?_
    refine q_if_lt (pc := 6) 142 dX4_layLeast_6 (by decide) ?_ ?_
    · exact q_return (pc := 142) dX4_layLeast_142
    refine q_aload_n (pc := 9) dX4_layLeast_9 rfl ?_
    refine q_iload_n (pc := 10) dX4_layLeast_10 rfl ?_
    refine q_callVi (pc := 11) [.int x1] dX4_layLeast_11 lm_X4_89 yX4_isState_ok yX4_isState_in h0 (by decide) rfl (sX4_isState hK h0 x1 sg) rfl rfl (Nat.le_of_ble_eq_true rfl) ⟨by decide, by decide⟩ (fun r1 s2 => ?_)
    refine q_if_eq (pc := 14) 136 dX4_layLeast_14 (by decide) ?_ ?_
    · refine q_iinc (pc := 136) (-1) dX4_layLeast_136 rfl (by decide) (by decide) ?_
      refine q_goto (pc := 139) 5 dX4_layLeast_139 (by decide) ?_
      exact ih ((x1 + (-1))) s2
    refine q_aload_n (pc := 17) dX4_layLeast_17 rfl ?_
    refine qg_4_8 (pc := 18) dX4_layLeast_18 h0 lf_X4_32 ?_
    refine q_iload_n (pc := 21) dX4_layLeast_21 rfl ?_
    refine q_iload_n (pc := 22) dX4_layLeast_22 rfl ?_
    refine q_aload_n (pc := 23) dX4_layLeast_23 rfl ?_
    refine q_callVi (pc := 24) [] dX4_layLeast_24 lm_X4_85 yX4_lastState_ok yX4_lastState_in h0 (by decide) rfl (sX4_lastState hK h0 s2) rfl rfl (Nat.le_of_ble_eq_true rfl) ⟨by decide, by decide⟩ (fun r3 s4 => ?_)
    refine q_icmp_ne (pc := 27) 34 dX4_layLeast_27 (by decide) ?_ ?_
    · refine q_ldc (pc := 34) 1000000000 dX4_layLeast_34 lc_X4_93 ?_
      refine q_iast (pc := 36) dX4_layLeast_36 (qch_4_8 hK h0) ?_
      refine q_iconst (pc := 37) 0 dX4_layLeast_37 (by decide) ?_
      refine q_istore_n (pc := 38) dX4_layLeast_38 (by decide) ?_
      exact tX4_layLeast_39 hK h0 (fun z1 sg => ih z1 sg) qfu x1 0 (qset s4 (k0 + 4) (Int32.toNatClampNeg x1) 1000000000)
    refine q_iconst (pc := 30) 0 dX4_layLeast_30 (by decide) ?_
    refine q_goto (pc := 31) 36 dX4_layLeast_31 (by decide) ?_
    refine q_iast (pc := 36) dX4_layLeast_36 (qch_4_8 hK h0) ?_
    refine q_iconst (pc := 37) 0 dX4_layLeast_37 (by decide) ?_
    refine q_istore_n (pc := 38) dX4_layLeast_38 (by decide) ?_
    exact tX4_layLeast_39 hK h0 (fun z1 sg => ih z1 sg) qfu x1 0 (qset s4 (k0 + 4) (Int32.toNatClampNeg x1) 0)
def fX4_layLeast (k0 : Nat) (sg : qSt) : qR :=
  qb (fX4_lastState k0 sg) fun r1 s2 =>
  fX4_layLeast_5 k0 qfu r1 s2
set_option maxRecDepth 20000 in
set_option maxHeartbeats 4000000 in
theorem sX4_layLeast {b : Nat} {K : List Nat} (hK : qOk K) {k0 : Nat} (h0 : qIn K k0 4) (sg : qSt) : qS yX4_layLeast cX4_layLeast 6 none 4 87 b K [.ref (b + k0)] sg (fX4_layLeast k0 sg) := by
  refine qS_of (own := RX4) rfl (by decide) hK.1 (by simp [Value.category]) (Nat.le_of_ble_eq_true rfl) (fun z _ ty h => by cases h) ?_
  show qJ RX4 cX4_layLeast 6 4 87 true (fun _ _ => True) b K 0 [some (.ref (b + k0)), none, none, none, none, none] [] sg (fX4_layLeast k0 sg)
  unfold fX4_layLeast
  refine q_aload_n (pc := 0) dX4_layLeast_0 rfl ?_
  refine q_callVi (pc := 1) [] dX4_layLeast_1 lm_X4_85 yX4_lastState_ok yX4_lastState_in h0 (by decide) rfl (sX4_lastState hK h0 sg) rfl rfl (Nat.le_of_ble_eq_true rfl) ⟨by decide, by decide⟩ (fun r1 s2 => ?_)
  refine q_istore_n (pc := 4) dX4_layLeast_4 (by decide) ?_
  exact tX4_layLeast_5 hK h0 qfu r1 s2
-- LineSearchModel.leastMean()I
def fX4_leastMean_23 (k0 : Nat) (c13 : Int32 → Int32 → qSt → qR) : Nat → Int32 → Int32 → Int32 → qSt → qR
  | 0, _, _, _, _ => none
  | n + 1, x1, x2, x3, sg =>
    if (sg k0 1) < x3 then
      c13 x1 ((x2 + 1)) sg
    else
    if qin ((9 * x2) + x3) (qlen (k0 + 1)) then
    fX4_leastMean_23 k0 c13 n ((x1 + (((sg (k0 + 1) (Int32.toNatClampNeg ((9 * x2) + x3))) * (sg k0 2)) * x3))) x2 ((x3 + 1)) sg
    else none
set_option maxRecDepth 20000 in
set_option maxHeartbeats 4000000 in
theorem tX4_leastMean_23 {b : Nat} {K : List Nat} (hK : qOk K) {k0 : Nat} {c13 : Int32 → Int32 → qSt → qR} (h0 : qIn K k0 4) (hc13 : ∀ (x1 x2 : Int32) (sg : qSt), qJ RX4 cX4_leastMean 4 5 112 false (fun _ _ => True) b K 13 [some (.ref (b + k0)), some (.int x1), some (.int x2), none] [] sg (c13 x1 x2 sg)) : ∀ (n : Nat) (x1 x2 x3 : Int32) (sg : qSt), qJ RX4 cX4_leastMean 4 5 112 false (fun _ _ => True) b K 23 [some (.ref (b + k0)), some (.int x1), some (.int x2), some (.int x3)] [] sg (fX4_leastMean_23 k0 c13 n x1 x2 x3 sg) := by
  intro n
  induction n with
  | zero => intro x1 x2 x3 sg; exact qJ_none
  | succ n ih =>
    intro x1 x2 x3 sg
    unfold fX4_leastMean_23
    refine q_iload_n (pc := 23) dX4_leastMean_23 rfl ?_
    refine q_aload_n (pc := 24) dX4_leastMean_24 rfl ?_
    refine qg_4_1 (pc := 25) dX4_leastMean_25 h0 lf_X4_13 ?_
    refine q_icmp_gt (pc := 28) 58 dX4_leastMean_28 (by decide) ?_ ?_
    · refine q_iinc (pc := 58) 1 dX4_leastMean_58 rfl (by decide) (by decide) ?_
      refine q_goto (pc := 61) 13 dX4_leastMean_61 (by decide) ?_
      refine qJ_weak [some (.ref (b + k0)), some (.int x1), some (.int ((x2 + 1))), none] ⟨rfl, rfl, rfl, trivial⟩ ?_
      exact hc13 x1 ((x2 + 1)) sg
    refine q_iload_n (pc := 31) dX4_leastMean_31 rfl ?_
    refine q_aload_n (pc := 32) dX4_leastMean_32 rfl ?_
    refine qg_4_4 (pc := 33) dX4_leastMean_33 h0 lf_X4_22 ?_
    refine q_bipush (pc := 36) 9 dX4_leastMean_36 (by decide) ?_
    refine q_iload_n (pc := 38) dX4_leastMean_38 rfl ?_
    refine q_imul (pc := 39) dX4_leastMean_39 ?_
    refine q_iload_n (pc := 40) dX4_leastMean_40 rfl ?_
    refine q_iadd (pc := 41) dX4_leastMean_41 ?_
    refine q_iald (pc := 42) dX4_leastMean_42 (qch_4_4 hK h0) ?_
    refine q_aload_n (pc := 43) dX4_leastMean_43 rfl ?_
    refine qg_4_2 (pc := 44) dX4_leastMean_44 h0 lf_X4_16 ?_
    refine q_imul (pc := 47) dX4_leastMean_47 ?_
    refine q_iload_n (pc := 48) dX4_leastMean_48 rfl ?_
    refine q_imul (pc := 49) dX4_leastMean_49 ?_
    refine q_iadd (pc := 50) dX4_leastMean_50 ?_
    refine q_istore_n (pc := 51) dX4_leastMean_51 (by decide) ?_
    refine q_iinc (pc := 52) 1 dX4_leastMean_52 rfl (by decide) (by decide) ?_
    refine q_goto (pc := 55) 23 dX4_leastMean_55 (by decide) ?_
    exact ih ((x1 + (((sg (k0 + 1) (Int32.toNatClampNeg ((9 * x2) + x3))) * (sg k0 2)) * x3))) x2 ((x3 + 1)) sg
def fX4_leastMean_13 (k0 : Nat) : Nat → Int32 → Int32 → qSt → qR
  | 0, _, _, _ => none
  | n + 1, x1, x2, sg =>
    if (sg k0 0) ≤ x2 then
      some (x1, sg)
    else
    fX4_leastMean_23 k0 (fun z1 z2 sg => fX4_leastMean_13 k0 n z1 z2 sg) qfu x1 x2 1 sg
set_option maxRecDepth 20000 in
set_option maxHeartbeats 4000000 in
theorem tX4_leastMean_13 {b : Nat} {K : List Nat} (hK : qOk K) {k0 : Nat} (h0 : qIn K k0 4) : ∀ (n : Nat) (x1 x2 : Int32) (sg : qSt), qJ RX4 cX4_leastMean 4 5 112 false (fun _ _ => True) b K 13 [some (.ref (b + k0)), some (.int x1), some (.int x2), none] [] sg (fX4_leastMean_13 k0 n x1 x2 sg) := by
  intro n
  induction n with
  | zero => intro x1 x2 sg; exact qJ_none
  | succ n ih =>
    intro x1 x2 sg
    unfold fX4_leastMean_13
    refine q_iload_n (pc := 13) dX4_leastMean_13 rfl ?_
    refine q_aload_n (pc := 14) dX4_leastMean_14 rfl ?_
    refine qg_4_0 (pc := 15) dX4_leastMean_15 h0 lf_X4_7 ?_
    refine q_icmp_ge (pc := 18) 64 dX4_leastMean_18 (by decide) ?_ ?_
    · refine q_iload_n (pc := 64) dX4_leastMean_64 rfl ?_
      exact q_ireturn (pc := 65) dX4_leastMean_65
    refine q_iconst (pc := 21) 1 dX4_leastMean_21 (by decide) ?_
    refine q_istore_n (pc := 22) dX4_leastMean_22 (by decide) ?_
    exact tX4_leastMean_23 hK h0 (fun z1 z2 sg => ih z1 z2 sg) qfu x1 x2 1 sg
def fX4_leastMean (k0 : Nat) (sg : qSt) : qR :=
  qb (fX4_layLeast k0 sg) fun r1 s2 =>
  if qin 0 (qlen (k0 + 4)) then
  fX4_leastMean_13 k0 qfu ((s2 (k0 + 4) (Int32.toNatClampNeg 0))) 0 s2
  else none
set_option maxRecDepth 20000 in
set_option maxHeartbeats 4000000 in
theorem sX4_leastMean {b : Nat} {K : List Nat} (hK : qOk K) {k0 : Nat} (h0 : qIn K k0 4) (sg : qSt) : qS yX4_leastMean cX4_leastMean 4 (some .int) 5 112 b K [.ref (b + k0)] sg (fX4_leastMean k0 sg) := by
  refine qS_of (own := RX4) rfl (by decide) hK.1 (by simp [Value.category]) (Nat.le_of_ble_eq_true rfl) (fun z _ ty h => by cases h; exact vp_nar_int _) ?_
  show qJ RX4 cX4_leastMean 4 5 112 false (fun _ _ => True) b K 0 [some (.ref (b + k0)), none, none, none] [] sg (fX4_leastMean k0 sg)
  unfold fX4_leastMean
  refine q_aload_n (pc := 0) dX4_leastMean_0 rfl ?_
  refine q_callVv (pc := 1) [] dX4_leastMean_1 lm_X4_97 yX4_layLeast_ok yX4_layLeast_in h0 (by decide) rfl (sX4_layLeast hK h0 sg) rfl rfl (Nat.le_of_ble_eq_true rfl) ⟨by decide, by decide⟩ (fun r1 s2 => ?_)
  refine q_aload_n (pc := 4) dX4_leastMean_4 rfl ?_
  refine qg_4_8 (pc := 5) dX4_leastMean_5 h0 lf_X4_32 ?_
  refine q_iconst (pc := 8) 0 dX4_leastMean_8 (by decide) ?_
  refine q_iald (pc := 9) dX4_leastMean_9 (qch_4_8 hK h0) ?_
  refine q_istore_n (pc := 10) dX4_leastMean_10 (by decide) ?_
  refine q_iconst (pc := 11) 0 dX4_leastMean_11 (by decide) ?_
  refine q_istore_n (pc := 12) dX4_leastMean_12 (by decide) ?_
  exact tX4_leastMean_13 hK h0 qfu ((s2 (k0 + 4) (Int32.toNatClampNeg 0))) 0 s2
-- LineSearchModel.layMeanPlan()V
def fX4_layMeanPlan_44 (k0 : Nat) (c23 : Int32 → Int32 → Int32 → qSt → qR) : Nat → Int32 → Int32 → Int32 → Int32 → qSt → qR
  | 0, _, _, _, _, _ => none
  | n + 1, x1, x2, x3, x4, sg =>
    if (sg k0 1) < x4 then
      c23 x1 x2 ((x3 + 1)) sg
    else
    if 0 ≤ x2 then
      c23 x1 x2 ((x3 + 1)) sg
    else
    qb (fX4_gone x1 x3 sg) fun r1 s2 =>
    qb (fX4_nines x3 s2) fun r3 s4 =>
    qb (fX4_adds k0 (x1 + ((x4 - r1) * r3)) x4 s4) fun r5 s6 =>
    if qin (x1 + ((x4 - r1) * r3)) (qlen (k0 + 4)) then
    if qin x1 (qlen (k0 + 4)) then
    if (r5 + (s6 (k0 + 4) (Int32.toNatClampNeg (x1 + ((x4 - r1) * r3))))) = (s6 (k0 + 4) (Int32.toNatClampNeg x1)) then
      if qin (s6 k0 10) (qlen (k0 + 6)) then
      fX4_layMeanPlan_44 k0 c23 n x1 ((x1 + ((x4 - r1) * r3))) x3 ((x4 + 1)) (qset s6 (k0 + 6) (Int32.toNatClampNeg (s6 k0 10)) ((10 * x3) + x4))
      else none
    else
    fX4_layMeanPlan_44 k0 c23 n x1 x2 x3 ((x4 + 1)) s6
    else none
    else none
set_option maxRecDepth 20000 in
set_option maxHeartbeats 4000000 in
theorem tX4_layMeanPlan_44 {b : Nat} {K : List Nat} (hK : qOk K) {k0 : Nat} {c23 : Int32 → Int32 → Int32 → qSt → qR} (h0 : qIn K k0 4) (hc23 : ∀ (x1 x2 x3 : Int32) (sg : qSt), qJ RX4 cX4_layMeanPlan 6 5 112 true (fun _ _ => True) b K 23 [some (.ref (b + k0)), some (.int x1), some (.int x2), some (.int x3), none, none] [] sg (c23 x1 x2 x3 sg)) : ∀ (n : Nat) (x1 x2 x3 x4 : Int32) (sg : qSt), qJ RX4 cX4_layMeanPlan 6 5 112 true (fun _ _ => True) b K 44 [some (.ref (b + k0)), some (.int x1), some (.int x2), some (.int x3), some (.int x4), none] [] sg (fX4_layMeanPlan_44 k0 c23 n x1 x2 x3 x4 sg) := by
  intro n
  induction n with
  | zero => intro x1 x2 x3 x4 sg; exact qJ_none
  | succ n ih =>
    intro x1 x2 x3 x4 sg
    unfold fX4_layMeanPlan_44
    refine q_iload (pc := 44) dX4_layMeanPlan_44 rfl ?_
    refine q_aload_n (pc := 46) dX4_layMeanPlan_46 rfl ?_
    refine qg_4_1 (pc := 47) dX4_layMeanPlan_47 h0 lf_X4_13 ?_
    refine q_icmp_gt (pc := 50) 124 dX4_layMeanPlan_50 (by decide) ?_ ?_
    · refine q_iinc (pc := 124) 1 dX4_layMeanPlan_124 rfl (by decide) (by decide) ?_
      refine q_goto (pc := 127) 23 dX4_layMeanPlan_127 (by decide) ?_
      refine qJ_weak [some (.ref (b + k0)), some (.int x1), some (.int x2), some (.int ((x3 + 1))), none, none] ⟨rfl, rfl, rfl, rfl, trivial⟩ ?_
      exact hc23 x1 x2 ((x3 + 1)) sg
    refine q_iload_n (pc := 53) dX4_layMeanPlan_53 rfl ?_
    refine q_if_ge (pc := 54) 124 dX4_layMeanPlan_54 (by decide) ?_ ?_
    · refine q_iinc (pc := 124) 1 dX4_layMeanPlan_124 rfl (by decide) (by decide) ?_
      refine q_goto (pc := 127) 23 dX4_layMeanPlan_127 (by decide) ?_
      refine qJ_weak [some (.ref (b + k0)), some (.int x1), some (.int x2), some (.int ((x3 + 1))), none, none] ⟨rfl, rfl, rfl, rfl, trivial⟩ ?_
      exact hc23 x1 x2 ((x3 + 1)) sg
    refine q_iload_n (pc := 57) dX4_layMeanPlan_57 rfl ?_
    refine q_iload (pc := 58) dX4_layMeanPlan_58 rfl ?_
    refine q_iload_n (pc := 60) dX4_layMeanPlan_60 rfl ?_
    refine q_iload_n (pc := 61) dX4_layMeanPlan_61 rfl ?_
    refine q_callSi (pc := 62) [.int x1, .int x3] dX4_layMeanPlan_62 lm_X4_79 yX4_gone_ok yX4_gone_in (sX4_gone hK x1 x3 sg) rfl rfl (Nat.le_of_ble_eq_true rfl) ⟨by decide, by decide⟩ (fun r1 s2 => ?_)
    refine q_isub (pc := 65) dX4_layMeanPlan_65 ?_
    refine q_iload_n (pc := 66) dX4_layMeanPlan_66 rfl ?_
    refine q_callSi (pc := 67) [.int x3] dX4_layMeanPlan_67 lm_X4_76 yX4_nines_ok yX4_nines_in (sX4_nines hK x3 s2) rfl rfl (Nat.le_of_ble_eq_true rfl) ⟨by decide, by decide⟩ (fun r3 s4 => ?_)
    refine q_imul (pc := 70) dX4_layMeanPlan_70 ?_
    refine q_iadd (pc := 71) dX4_layMeanPlan_71 ?_
    refine q_istore (pc := 72) dX4_layMeanPlan_72 (by decide) ?_
    refine q_aload_n (pc := 74) dX4_layMeanPlan_74 rfl ?_
    refine q_iload (pc := 75) dX4_layMeanPlan_75 rfl ?_
    refine q_iload (pc := 77) dX4_layMeanPlan_77 rfl ?_
    refine q_callVi (pc := 79) [.int ((x1 + ((x4 - r1) * r3))), .int x4] dX4_layMeanPlan_79 lm_X4_94 yX4_adds_ok yX4_adds_in h0 (by decide) rfl (sX4_adds hK h0 (x1 + ((x4 - r1) * r3)) x4 s4) rfl rfl (Nat.le_of_ble_eq_true rfl) ⟨by decide, by decide⟩ (fun r5 s6 => ?_)
    refine q_aload_n (pc := 82) dX4_layMeanPlan_82 rfl ?_
    refine qg_4_8 (pc := 83) dX4_layMeanPlan_83 h0 lf_X4_32 ?_
    refine q_iload (pc := 86) dX4_layMeanPlan_86 rfl ?_
    refine q_iald (pc := 88) dX4_layMeanPlan_88 (qch_4_8 hK h0) ?_
    refine q_iadd (pc := 89) dX4_layMeanPlan_89 ?_
    refine q_aload_n (pc := 90) dX4_layMeanPlan_90 rfl ?_
    refine qg_4_8 (pc := 91) dX4_layMeanPlan_91 h0 lf_X4_32 ?_
    refine q_iload_n (pc := 94) dX4_layMeanPlan_94 rfl ?_
    refine q_iald (pc := 95) dX4_layMeanPlan_95 (qch_4_8 hK h0) ?_
    refine q_icmp_ne (pc := 96) 118 dX4_layMeanPlan_96 (by decide) ?_ ?_
    · refine q_iinc (pc := 118) 1 dX4_layMeanPlan_118 rfl (by decide) (by decide) ?_
      refine q_goto (pc := 121) 44 dX4_layMeanPlan_121 (by decide) ?_
      refine qJ_weak [some (.ref (b + k0)), some (.int x1), some (.int x2), some (.int x3), some (.int ((x4 + 1))), none] ⟨rfl, rfl, rfl, rfl, rfl, trivial⟩ ?_
      exact ih x1 x2 x3 ((x4 + 1)) s6
    refine q_iload (pc := 99) dX4_layMeanPlan_99 rfl ?_
    refine q_istore_n (pc := 101) dX4_layMeanPlan_101 (by decide) ?_
    refine q_aload_n (pc := 102) dX4_layMeanPlan_102 rfl ?_
    refine qg_4_11 (pc := 103) dX4_layMeanPlan_103 h0 lf_X4_38 ?_
    refine q_aload_n (pc := 106) dX4_layMeanPlan_106 rfl ?_
    refine qg_4_10 (pc := 107) dX4_layMeanPlan_107 h0 lf_X4_100 ?_
    refine q_bipush (pc := 110) 10 dX4_layMeanPlan_110 (by decide) ?_
    refine q_iload_n (pc := 112) dX4_layMeanPlan_112 rfl ?_
    refine q_imul (pc := 113) dX4_layMeanPlan_113 ?_
    refine q_iload (pc := 114) dX4_layMeanPlan_114 rfl ?_
    refine q_iadd (pc := 116) dX4_layMeanPlan_116 ?_
    refine q_iast (pc := 117) dX4_layMeanPlan_117 (qch_4_11 hK h0) ?_
    refine q_iinc (pc := 118) 1 dX4_layMeanPlan_118 rfl (by decide) (by decide) ?_
    refine q_goto (pc := 121) 44 dX4_layMeanPlan_121 (by decide) ?_
    refine qJ_weak [some (.ref (b + k0)), some (.int x1), some (.int ((x1 + ((x4 - r1) * r3)))), some (.int x3), some (.int ((x4 + 1))), none] ⟨rfl, rfl, rfl, rfl, rfl, trivial⟩ ?_
    exact ih x1 ((x1 + ((x4 - r1) * r3))) x3 ((x4 + 1)) (qset s6 (k0 + 6) (Int32.toNatClampNeg (s6 k0 10)) ((10 * x3) + x4))
def fX4_layMeanPlan_130 (k0 : Nat) (c11 : Int32 → qSt → qR) (x2 : Int32) (sg : qSt) : qR :=
    c11 x2 (qset sg k0 10 ((sg k0 10) + 1))
set_option maxRecDepth 20000 in
set_option maxHeartbeats 4000000 in
theorem tX4_layMeanPlan_130 {b : Nat} {K : List Nat} (hK : qOk K) {k0 : Nat} {c11 : Int32 → qSt → qR} (h0 : qIn K k0 4) (hc11 : ∀ (x1 : Int32) (sg : qSt), qJ RX4 cX4_layMeanPlan 6 5 112 true (fun _ _ => True) b K 11 [some (.ref (b + k0)), some (.int x1), none, none, none, none] [] sg (c11 x1 sg)) : ∀ (x2 : Int32) (sg : qSt), qJ RX4 cX4_layMeanPlan 6 5 112 true (fun _ _ => True) b K 130 [some (.ref (b + k0)), none, some (.int x2), none, none, none] [] sg (fX4_layMeanPlan_130 k0 c11 x2 sg) := by
  intro x2 sg
  unfold fX4_layMeanPlan_130
  refine q_aload_n (pc := 130) dX4_layMeanPlan_130 rfl ?_
  refine q_dup (pc := 131) dX4_layMeanPlan_131 rfl ?_
  refine qg_4_10 (pc := 132) dX4_layMeanPlan_132 h0 lf_X4_100 ?_
  refine q_iconst (pc := 135) 1 dX4_layMeanPlan_135 (by decide) ?_
  refine q_iadd (pc := 136) dX4_layMeanPlan_136 ?_
  refine qp_4_10 (pc := 137) dX4_layMeanPlan_137 h0 lf_X4_100 ?_
  refine q_iload_n (pc := 140) dX4_layMeanPlan_140 rfl ?_
  refine q_istore_n (pc := 141) dX4_layMeanPlan_141 (by decide) ?_
  refine q_goto (pc := 142) 11 dX4_layMeanPlan_142 (by decide) ?_
  refine qJ_weak [some (.ref (b + k0)), some (.int x2), none, none, none, none] ⟨rfl, rfl, trivial⟩ ?_
  exact hc11 x2 (qset sg k0 10 ((sg k0 10) + 1))
def fX4_layMeanPlan_23 (k0 : Nat) (c11 : Int32 → qSt → qR) : Nat → Int32 → Int32 → Int32 → qSt → qR
  | 0, _, _, _, _ => none
  | n + 1, x1, x2, x3, sg =>
    if (sg k0 0) ≤ x3 then
      fX4_layMeanPlan_130 k0 c11 x2 sg
    else
    if 0 ≤ x2 then
      fX4_layMeanPlan_130 k0 c11 x2 sg
    else
    qb (fX4_gone x1 x3 sg) fun r1 s2 =>
    fX4_layMeanPlan_44 k0 (fun z1 z2 z3 sg => fX4_layMeanPlan_23 k0 c11 n z1 z2 z3 sg) qfu x1 x2 x3 ((r1 + 1)) s2
set_option maxRecDepth 20000 in
set_option maxHeartbeats 4000000 in
theorem tX4_layMeanPlan_23 {b : Nat} {K : List Nat} (hK : qOk K) {k0 : Nat} {c11 : Int32 → qSt → qR} (h0 : qIn K k0 4) (hc11 : ∀ (x1 : Int32) (sg : qSt), qJ RX4 cX4_layMeanPlan 6 5 112 true (fun _ _ => True) b K 11 [some (.ref (b + k0)), some (.int x1), none, none, none, none] [] sg (c11 x1 sg)) : ∀ (n : Nat) (x1 x2 x3 : Int32) (sg : qSt), qJ RX4 cX4_layMeanPlan 6 5 112 true (fun _ _ => True) b K 23 [some (.ref (b + k0)), some (.int x1), some (.int x2), some (.int x3), none, none] [] sg (fX4_layMeanPlan_23 k0 c11 n x1 x2 x3 sg) := by
  intro n
  induction n with
  | zero => intro x1 x2 x3 sg; exact qJ_none
  | succ n ih =>
    intro x1 x2 x3 sg
    unfold fX4_layMeanPlan_23
    refine q_iload_n (pc := 23) dX4_layMeanPlan_23 rfl ?_
    refine q_aload_n (pc := 24) dX4_layMeanPlan_24 rfl ?_
    refine qg_4_0 (pc := 25) dX4_layMeanPlan_25 h0 lf_X4_7 ?_
    refine q_icmp_ge (pc := 28) 130 dX4_layMeanPlan_28 (by decide) ?_ ?_
    · refine qJ_weak [some (.ref (b + k0)), none, some (.int x2), none, none, none] ⟨rfl, rfl, trivial⟩ ?_
      exact tX4_layMeanPlan_130 hK h0 hc11 x2 sg
    refine q_iload_n (pc := 31) dX4_layMeanPlan_31 rfl ?_
    refine q_if_ge (pc := 32) 130 dX4_layMeanPlan_32 (by decide) ?_ ?_
    · refine qJ_weak [some (.ref (b + k0)), none, some (.int x2), none, none, none] ⟨rfl, rfl, trivial⟩ ?_
      exact tX4_layMeanPlan_130 hK h0 hc11 x2 sg
    refine q_iload_n (pc := 35) dX4_layMeanPlan_35 rfl ?_
    refine q_iload_n (pc := 36) dX4_layMeanPlan_36 rfl ?_
    refine q_callSi (pc := 37) [.int x1, .int x3] dX4_layMeanPlan_37 lm_X4_79 yX4_gone_ok yX4_gone_in (sX4_gone hK x1 x3 sg) rfl rfl (Nat.le_of_ble_eq_true rfl) ⟨by decide, by decide⟩ (fun r1 s2 => ?_)
    refine q_iconst (pc := 40) 1 dX4_layMeanPlan_40 (by decide) ?_
    refine q_iadd (pc := 41) dX4_layMeanPlan_41 ?_
    refine q_istore (pc := 42) dX4_layMeanPlan_42 (by decide) ?_
    exact tX4_layMeanPlan_44 hK h0 (fun z1 z2 z3 sg => ih z1 z2 z3 sg) qfu x1 x2 x3 ((r1 + 1)) s2
def fX4_layMeanPlan_11 (k0 : Nat) : Nat → Int32 → qSt → qR
  | 0, _, _ => none
  | n + 1, x1, sg =>
    qb (fX4_lastState k0 sg) fun r1 s2 =>
    if x1 = r1 then
      some (0, s2)
    else
    fX4_layMeanPlan_23 k0 (fun z1 sg => fX4_layMeanPlan_11 k0 n z1 sg) qfu x1 (-1) 0 s2
set_option maxRecDepth 20000 in
set_option maxHeartbeats 4000000 in
theorem tX4_layMeanPlan_11 {b : Nat} {K : List Nat} (hK : qOk K) {k0 : Nat} (h0 : qIn K k0 4) : ∀ (n : Nat) (x1 : Int32) (sg : qSt), qJ RX4 cX4_layMeanPlan 6 5 112 true (fun _ _ => True) b K 11 [some (.ref (b + k0)), some (.int x1), none, none, none, none] [] sg (fX4_layMeanPlan_11 k0 n x1 sg) := by
  intro n
  induction n with
  | zero => intro x1 sg; exact qJ_none
  | succ n ih =>
    intro x1 sg
    unfold fX4_layMeanPlan_11
    refine q_iload_n (pc := 11) dX4_layMeanPlan_11 rfl ?_
    refine q_aload_n (pc := 12) dX4_layMeanPlan_12 rfl ?_
    refine q_callVi (pc := 13) [] dX4_layMeanPlan_13 lm_X4_85 yX4_lastState_ok yX4_lastState_in h0 (by decide) rfl (sX4_lastState hK h0 sg) rfl rfl (Nat.le_of_ble_eq_true rfl) ⟨by decide, by decide⟩ (fun r1 s2 => ?_)
    refine q_icmp_eq (pc := 16) 145 dX4_layMeanPlan_16 (by decide) ?_ ?_
    · exact q_return (pc := 145) dX4_layMeanPlan_145
    refine q_iconst (pc := 19) (-1) dX4_layMeanPlan_19 (by decide) ?_
    refine q_istore_n (pc := 20) dX4_layMeanPlan_20 (by decide) ?_
    refine q_iconst (pc := 21) 0 dX4_layMeanPlan_21 (by decide) ?_
    refine q_istore_n (pc := 22) dX4_layMeanPlan_22 (by decide) ?_
    exact tX4_layMeanPlan_23 hK h0 (fun z1 sg => ih z1 sg) qfu x1 (-1) 0 s2
def fX4_layMeanPlan (k0 : Nat) (sg : qSt) : qR :=
  qb (fX4_layLeast k0 sg) fun r1 s2 =>
  fX4_layMeanPlan_11 k0 qfu 0 (qset s2 k0 10 0)
set_option maxRecDepth 20000 in
set_option maxHeartbeats 4000000 in
theorem sX4_layMeanPlan {b : Nat} {K : List Nat} (hK : qOk K) {k0 : Nat} (h0 : qIn K k0 4) (sg : qSt) : qS yX4_layMeanPlan cX4_layMeanPlan 6 none 5 112 b K [.ref (b + k0)] sg (fX4_layMeanPlan k0 sg) := by
  refine qS_of (own := RX4) rfl (by decide) hK.1 (by simp [Value.category]) (Nat.le_of_ble_eq_true rfl) (fun z _ ty h => by cases h) ?_
  show qJ RX4 cX4_layMeanPlan 6 5 112 true (fun _ _ => True) b K 0 [some (.ref (b + k0)), none, none, none, none, none] [] sg (fX4_layMeanPlan k0 sg)
  unfold fX4_layMeanPlan
  refine q_aload_n (pc := 0) dX4_layMeanPlan_0 rfl ?_
  refine q_callVv (pc := 1) [] dX4_layMeanPlan_1 lm_X4_97 yX4_layLeast_ok yX4_layLeast_in h0 (by decide) rfl (sX4_layLeast hK h0 sg) rfl rfl (Nat.le_of_ble_eq_true rfl) ⟨by decide, by decide⟩ (fun r1 s2 => ?_)
  refine q_aload_n (pc := 4) dX4_layMeanPlan_4 rfl ?_
  refine q_iconst (pc := 5) 0 dX4_layMeanPlan_5 (by decide) ?_
  refine qp_4_10 (pc := 6) dX4_layMeanPlan_6 h0 lf_X4_100 ?_
  refine q_iconst (pc := 9) 0 dX4_layMeanPlan_9 (by decide) ?_
  refine q_istore_n (pc := 10) dX4_layMeanPlan_10 (by decide) ?_
  exact tX4_layMeanPlan_11 hK h0 qfu 0 (qset s2 k0 10 0)
-- LineSearchModel.planAt(I)I
def fX4_planAt (k0 : Nat) (x1 : Int32) (sg : qSt) : qR :=
  qb (fX4_in x1 0 ((sg k0 10) - 1) sg) fun r1 s2 =>
  if r1 = 0 then
    some ((-6), s2)
  else
  if qin x1 (qlen (k0 + 6)) then
  some ((s2 (k0 + 6) (Int32.toNatClampNeg x1)), s2)
  else none
set_option maxRecDepth 20000 in
set_option maxHeartbeats 4000000 in
theorem sX4_planAt {b : Nat} {K : List Nat} (hK : qOk K) {k0 : Nat} (h0 : qIn K k0 4) (x1 : Int32) (sg : qSt) : qS yX4_planAt cX4_planAt 2 (some .int) 1 22 b K [.ref (b + k0), .int x1] sg (fX4_planAt k0 x1 sg) := by
  refine qS_of (own := RX4) rfl (by decide) hK.1 (by simp [Value.category]) (Nat.le_of_ble_eq_true rfl) (fun z _ ty h => by cases h; exact vp_nar_int _) ?_
  show qJ RX4 cX4_planAt 2 1 22 false (fun _ _ => True) b K 0 [some (.ref (b + k0)), some (.int x1)] [] sg (fX4_planAt k0 x1 sg)
  unfold fX4_planAt
  refine q_iload_n (pc := 0) dX4_planAt_0 rfl ?_
  refine q_iconst (pc := 1) 0 dX4_planAt_1 (by decide) ?_
  refine q_aload_n (pc := 2) dX4_planAt_2 rfl ?_
  refine qg_4_10 (pc := 3) dX4_planAt_3 h0 lf_X4_100 ?_
  refine q_iconst (pc := 6) 1 dX4_planAt_6 (by decide) ?_
  refine q_isub (pc := 7) dX4_planAt_7 ?_
  refine q_callSi (pc := 8) [.int x1, .int 0, .int (((sg k0 10) - 1))] dX4_planAt_8 lm_X4_47 yX4_in_ok yX4_in_in (sX4_in hK x1 0 ((sg k0 10) - 1) sg) rfl rfl (Nat.le_of_ble_eq_true rfl) ⟨by decide, by decide⟩ (fun r1 s2 => ?_)
  refine q_if_eq (pc := 11) 23 dX4_planAt_11 (by decide) ?_ ?_
  · refine q_bipush (pc := 23) (-6) dX4_planAt_23 (by decide) ?_
    exact q_ireturn (pc := 25) dX4_planAt_25
  refine q_aload_n (pc := 14) dX4_planAt_14 rfl ?_
  refine qg_4_11 (pc := 15) dX4_planAt_15 h0 lf_X4_38 ?_
  refine q_iload_n (pc := 18) dX4_planAt_18 rfl ?_
  refine q_iald (pc := 19) dX4_planAt_19 (qch_4_11 hK h0) ?_
  refine q_goto (pc := 20) 25 dX4_planAt_20 (by decide) ?_
  exact q_ireturn (pc := 25) dX4_planAt_25
-- LineSearchModel.meanTrip(I)I
def fX4_meanTrip (k0 : Nat) (x1 : Int32) (sg : qSt) : qR :=
  qb (fX4_layMeanPlan k0 sg) fun r1 s2 =>
  qb (fX4_planAt k0 x1 s2) fun r3 s4 =>
  some (r3, s4)
set_option maxRecDepth 20000 in
set_option maxHeartbeats 4000000 in
theorem sX4_meanTrip {b : Nat} {K : List Nat} (hK : qOk K) {k0 : Nat} (h0 : qIn K k0 4) (x1 : Int32) (sg : qSt) : qS yX4_meanTrip cX4_meanTrip 2 (some .int) 6 137 b K [.ref (b + k0), .int x1] sg (fX4_meanTrip k0 x1 sg) := by
  refine qS_of (own := RX4) rfl (by decide) hK.1 (by simp [Value.category]) (Nat.le_of_ble_eq_true rfl) (fun z _ ty h => by cases h; exact vp_nar_int _) ?_
  show qJ RX4 cX4_meanTrip 2 6 137 false (fun _ _ => True) b K 0 [some (.ref (b + k0)), some (.int x1)] [] sg (fX4_meanTrip k0 x1 sg)
  unfold fX4_meanTrip
  refine q_aload_n (pc := 0) dX4_meanTrip_0 rfl ?_
  refine q_callVv (pc := 1) [] dX4_meanTrip_1 lm_X4_103 yX4_layMeanPlan_ok yX4_layMeanPlan_in h0 (by decide) rfl (sX4_layMeanPlan hK h0 sg) rfl rfl (Nat.le_of_ble_eq_true rfl) ⟨by decide, by decide⟩ (fun r1 s2 => ?_)
  refine q_aload_n (pc := 4) dX4_meanTrip_4 rfl ?_
  refine q_iload_n (pc := 5) dX4_meanTrip_5 rfl ?_
  refine q_callVi (pc := 6) [.int x1] dX4_meanTrip_6 lm_X4_106 yX4_planAt_ok yX4_planAt_in h0 (by decide) rfl (sX4_planAt hK h0 x1 s2) rfl rfl (Nat.le_of_ble_eq_true rfl) ⟨by decide, by decide⟩ (fun r3 s4 => ?_)
  exact q_ireturn (pc := 9) dX4_meanTrip_9
-- LineSearchModel.layMost(II)V
def fX4_layMost_120 (k0 : Nat) (c72 : Int32 → Int32 → Int32 → Int32 → Int32 → Int32 → Int32 → qSt → qR) (x1 x2 x3 x4 x5 x6 x7 y0 : Int32) (sg : qSt) : qR :=
    if qin x3 (qlen (k0 + 5)) then
    if y0 ≤ (sg (k0 + 5) (Int32.toNatClampNeg x3)) then
      if qin x3 (qlen (k0 + 5)) then
      if qin x3 (qlen (k0 + 5)) then
      c72 x1 x2 x3 x4 x5 x6 ((x7 + 1)) (qset sg (k0 + 5) (Int32.toNatClampNeg x3) (sg (k0 + 5) (Int32.toNatClampNeg x3)))
      else none
      else none
    else
    if qin x3 (qlen (k0 + 5)) then
    c72 x1 x2 x3 x4 x5 x6 ((x7 + 1)) (qset sg (k0 + 5) (Int32.toNatClampNeg x3) y0)
    else none
    else none
set_option maxRecDepth 20000 in
set_option maxHeartbeats 4000000 in
theorem tX4_layMost_120 {b : Nat} {K : List Nat} (hK : qOk K) {k0 : Nat} {c72 : Int32 → Int32 → Int32 → Int32 → Int32 → Int32 → Int32 → qSt → qR} (h0 : qIn K k0 4) (hc72 : ∀ (x1 x2 x3 x4 x5 x6 x7 : Int32) (sg : qSt), qJ RX4 cX4_layMost 10 3 64 true (fun _ _ => True) b K 72 [some (.ref (b + k0)), some (.int x1), some (.int x2), some (.int x3), some (.int x4), some (.int x5), some (.int x6), some (.int x7), none, none] [] sg (c72 x1 x2 x3 x4 x5 x6 x7 sg)) : ∀ (x1 x2 x3 x4 x5 x6 x7 y0 : Int32) (sg : qSt), qJ RX4 cX4_layMost 10 3 64 true (fun _ _ => True) b K 120 [some (.ref (b + k0)), some (.int x1), some (.int x2), some (.int x3), some (.int x4), some (.int x5), some (.int x6), some (.int x7), none, none] [.int y0] sg (fX4_layMost_120 k0 c72 x1 x2 x3 x4 x5 x6 x7 y0 sg) := by
  intro x1 x2 x3 x4 x5 x6 x7 y0 sg
  unfold fX4_layMost_120
  refine q_istore (pc := 120) dX4_layMost_120 (by decide) ?_
  refine q_aload_n (pc := 122) dX4_layMost_122 rfl ?_
  refine qg_4_9 (pc := 123) dX4_layMost_123 h0 lf_X4_35 ?_
  refine q_iload_n (pc := 126) dX4_layMost_126 rfl ?_
  refine q_iload (pc := 127) dX4_layMost_127 rfl ?_
  refine q_aload_n (pc := 129) dX4_layMost_129 rfl ?_
  refine qg_4_9 (pc := 130) dX4_layMost_130 h0 lf_X4_35 ?_
  refine q_iload_n (pc := 133) dX4_layMost_133 rfl ?_
  refine q_iald (pc := 134) dX4_layMost_134 (qch_4_9 hK h0) ?_
  refine q_icmp_le (pc := 135) 143 dX4_layMost_135 (by decide) ?_ ?_
  · refine q_aload_n (pc := 143) dX4_layMost_143 rfl ?_
    refine qg_4_9 (pc := 144) dX4_layMost_144 h0 lf_X4_35 ?_
    refine q_iload_n (pc := 147) dX4_layMost_147 rfl ?_
    refine q_iald (pc := 148) dX4_layMost_148 (qch_4_9 hK h0) ?_
    refine q_iast (pc := 149) dX4_layMost_149 (qch_4_9 hK h0) ?_
    refine q_iinc (pc := 150) 1 dX4_layMost_150 rfl (by decide) (by decide) ?_
    refine q_goto (pc := 153) 72 dX4_layMost_153 (by decide) ?_
    refine qJ_weak [some (.ref (b + k0)), some (.int x1), some (.int x2), some (.int x3), some (.int x4), some (.int x5), some (.int x6), some (.int ((x7 + 1))), none, none] ⟨rfl, rfl, rfl, rfl, rfl, rfl, rfl, rfl, trivial⟩ ?_
    exact hc72 x1 x2 x3 x4 x5 x6 ((x7 + 1)) (qset sg (k0 + 5) (Int32.toNatClampNeg x3) (sg (k0 + 5) (Int32.toNatClampNeg x3)))
  refine q_iload (pc := 138) dX4_layMost_138 rfl ?_
  refine q_goto (pc := 140) 149 dX4_layMost_140 (by decide) ?_
  refine q_iast (pc := 149) dX4_layMost_149 (qch_4_9 hK h0) ?_
  refine q_iinc (pc := 150) 1 dX4_layMost_150 rfl (by decide) (by decide) ?_
  refine q_goto (pc := 153) 72 dX4_layMost_153 (by decide) ?_
  refine qJ_weak [some (.ref (b + k0)), some (.int x1), some (.int x2), some (.int x3), some (.int x4), some (.int x5), some (.int x6), some (.int ((x7 + 1))), none, none] ⟨rfl, rfl, rfl, rfl, rfl, rfl, rfl, rfl, trivial⟩ ?_
  exact hc72 x1 x2 x3 x4 x5 x6 ((x7 + 1)) (qset sg (k0 + 5) (Int32.toNatClampNeg x3) y0)
def fX4_layMost_72 (k0 : Nat) (c41 : Int32 → Int32 → Int32 → Int32 → qSt → qR) : Nat → Int32 → Int32 → Int32 → Int32 → Int32 → Int32 → Int32 → qSt → qR
  | 0, _, _, _, _, _, _, _, _ => none
  | n + 1, x1, x2, x3, x4, x5, x6, x7, sg =>
    if (sg k0 1) < x7 then
      c41 x1 x2 x3 ((x4 + 1)) sg
    else
    qb (fX4_nines x4 sg) fun r1 s2 =>
    if qin (x3 + (((x7 - x5) + 1) * r1)) (qlen (k0 + 5)) then
    if x6 ≤ ((s2 (k0 + 5) (Int32.toNatClampNeg (x3 + (((x7 - x5) + 1) * r1)))) - x7) then
      fX4_layMost_120 k0 (fun z1 z2 z3 z4 z5 z6 z7 sg => fX4_layMost_72 k0 c41 n z1 z2 z3 z4 z5 z6 z7 sg) x1 x2 x3 x4 x5 x6 x7 x6 s2
    else
    fX4_layMost_120 k0 (fun z1 z2 z3 z4 z5 z6 z7 sg => fX4_layMost_72 k0 c41 n z1 z2 z3 z4 z5 z6 z7 sg) x1 x2 x3 x4 x5 x6 x7 (((s2 (k0 + 5) (Int32.toNatClampNeg (x3 + (((x7 - x5) + 1) * r1)))) - x7)) s2
    else none
set_option maxRecDepth 20000 in
set_option maxHeartbeats 4000000 in
theorem tX4_layMost_72 {b : Nat} {K : List Nat} (hK : qOk K) {k0 : Nat} {c41 : Int32 → Int32 → Int32 → Int32 → qSt → qR} (h0 : qIn K k0 4) (hc41 : ∀ (x1 x2 x3 x4 : Int32) (sg : qSt), qJ RX4 cX4_layMost 10 3 64 true (fun _ _ => True) b K 41 [some (.ref (b + k0)), some (.int x1), some (.int x2), some (.int x3), some (.int x4), none, none, none, none, none] [] sg (c41 x1 x2 x3 x4 sg)) : ∀ (n : Nat) (x1 x2 x3 x4 x5 x6 x7 : Int32) (sg : qSt), qJ RX4 cX4_layMost 10 3 64 true (fun _ _ => True) b K 72 [some (.ref (b + k0)), some (.int x1), some (.int x2), some (.int x3), some (.int x4), some (.int x5), some (.int x6), some (.int x7), none, none] [] sg (fX4_layMost_72 k0 c41 n x1 x2 x3 x4 x5 x6 x7 sg) := by
  intro n
  induction n with
  | zero => intro x1 x2 x3 x4 x5 x6 x7 sg; exact qJ_none
  | succ n ih =>
    intro x1 x2 x3 x4 x5 x6 x7 sg
    unfold fX4_layMost_72
    refine q_iload (pc := 72) dX4_layMost_72 rfl ?_
    refine q_aload_n (pc := 74) dX4_layMost_74 rfl ?_
    refine qg_4_1 (pc := 75) dX4_layMost_75 h0 lf_X4_13 ?_
    refine q_icmp_gt (pc := 78) 156 dX4_layMost_78 (by decide) ?_ ?_
    · refine q_iinc (pc := 156) 1 dX4_layMost_156 rfl (by decide) (by decide) ?_
      refine q_goto (pc := 159) 41 dX4_layMost_159 (by decide) ?_
      refine qJ_weak [some (.ref (b + k0)), some (.int x1), some (.int x2), some (.int x3), some (.int ((x4 + 1))), none, none, none, none, none] ⟨rfl, rfl, rfl, rfl, rfl, trivial⟩ ?_
      exact hc41 x1 x2 x3 ((x4 + 1)) sg
    refine q_aload_n (pc := 81) dX4_layMost_81 rfl ?_
    refine qg_4_9 (pc := 82) dX4_layMost_82 h0 lf_X4_35 ?_
    refine q_iload_n (pc := 85) dX4_layMost_85 rfl ?_
    refine q_iload (pc := 86) dX4_layMost_86 rfl ?_
    refine q_iload (pc := 88) dX4_layMost_88 rfl ?_
    refine q_isub (pc := 90) dX4_layMost_90 ?_
    refine q_iconst (pc := 91) 1 dX4_layMost_91 (by decide) ?_
    refine q_iadd (pc := 92) dX4_layMost_92 ?_
    refine q_iload (pc := 93) dX4_layMost_93 rfl ?_
    refine q_callSi (pc := 95) [.int x4] dX4_layMost_95 lm_X4_76 yX4_nines_ok yX4_nines_in (sX4_nines hK x4 sg) rfl rfl (Nat.le_of_ble_eq_true rfl) ⟨by decide, by decide⟩ (fun r1 s2 => ?_)
    refine q_imul (pc := 98) dX4_layMost_98 ?_
    refine q_iadd (pc := 99) dX4_layMost_99 ?_
    refine q_iald (pc := 100) dX4_layMost_100 (qch_4_9 hK h0) ?_
    refine q_iload (pc := 101) dX4_layMost_101 rfl ?_
    refine q_isub (pc := 103) dX4_layMost_103 ?_
    refine q_istore (pc := 104) dX4_layMost_104 (by decide) ?_
    refine q_iload (pc := 106) dX4_layMost_106 rfl ?_
    refine q_iload (pc := 108) dX4_layMost_108 rfl ?_
    refine q_icmp_ge (pc := 110) 118 dX4_layMost_110 (by decide) ?_ ?_
    · refine q_iload (pc := 118) dX4_layMost_118 rfl ?_
      refine qJ_weak [some (.ref (b + k0)), some (.int x1), some (.int x2), some (.int x3), some (.int x4), some (.int x5), some (.int x6), some (.int x7), none, none] ⟨rfl, rfl, rfl, rfl, rfl, rfl, rfl, rfl, trivial⟩ ?_
      exact tX4_layMost_120 hK h0 (fun z1 z2 z3 z4 z5 z6 z7 sg => ih z1 z2 z3 z4 z5 z6 z7 sg) x1 x2 x3 x4 x5 x6 x7 x6 s2
    refine q_iload (pc := 113) dX4_layMost_113 rfl ?_
    refine q_goto (pc := 115) 120 dX4_layMost_115 (by decide) ?_
    refine qJ_weak [some (.ref (b + k0)), some (.int x1), some (.int x2), some (.int x3), some (.int x4), some (.int x5), some (.int x6), some (.int x7), none, none] ⟨rfl, rfl, rfl, rfl, rfl, rfl, rfl, rfl, trivial⟩ ?_
    exact tX4_layMost_120 hK h0 (fun z1 z2 z3 z4 z5 z6 z7 sg => ih z1 z2 z3 z4 z5 z6 z7 sg) x1 x2 x3 x4 x5 x6 x7 (((s2 (k0 + 5) (Int32.toNatClampNeg (x3 + (((x7 - x5) + 1) * r1)))) - x7)) s2
def fX4_layMost_41 (k0 : Nat) (c5 : Int32 → Int32 → Int32 → qSt → qR) : Nat → Int32 → Int32 → Int32 → Int32 → qSt → qR
  | 0, _, _, _, _, _ => none
  | n + 1, x1, x2, x3, x4, sg =>
    if (sg k0 0) ≤ x4 then
      c5 x1 x2 ((x3 + (-1))) sg
    else
    qb (fX4_gone x3 x4 sg) fun r1 s2 =>
    if x2 = 0 then none else
    fX4_layMost_72 k0 (fun z1 z2 z3 z4 sg => fX4_layMost_41 k0 c5 n z1 z2 z3 z4 sg) qfu x1 x2 x3 x4 ((r1 + 1)) (((x1 * (r1 + 1)) / x2)) ((r1 + 1)) s2
set_option maxRecDepth 20000 in
set_option maxHeartbeats 4000000 in
theorem tX4_layMost_41 {b : Nat} {K : List Nat} (hK : qOk K) {k0 : Nat} {c5 : Int32 → Int32 → Int32 → qSt → qR} (h0 : qIn K k0 4) (hc5 : ∀ (x1 x2 x3 : Int32) (sg : qSt), qJ RX4 cX4_layMost 10 3 64 true (fun _ _ => True) b K 5 [some (.ref (b + k0)), some (.int x1), some (.int x2), some (.int x3), none, none, none, none, none, none] [] sg (c5 x1 x2 x3 sg)) : ∀ (n : Nat) (x1 x2 x3 x4 : Int32) (sg : qSt), qJ RX4 cX4_layMost 10 3 64 true (fun _ _ => True) b K 41 [some (.ref (b + k0)), some (.int x1), some (.int x2), some (.int x3), some (.int x4), none, none, none, none, none] [] sg (fX4_layMost_41 k0 c5 n x1 x2 x3 x4 sg) := by
  intro n
  induction n with
  | zero => intro x1 x2 x3 x4 sg; exact qJ_none
  | succ n ih =>
    intro x1 x2 x3 x4 sg
    unfold fX4_layMost_41
    refine q_iload (pc := 41) dX4_layMost_41 rfl ?_
    refine q_aload_n (pc := 43) dX4_layMost_43 rfl ?_
    refine qg_4_0 (pc := 44) dX4_layMost_44 h0 lf_X4_7 ?_
    refine q_icmp_ge (pc := 47) 162 dX4_layMost_47 (by decide) ?_ ?_
    · refine q_iinc (pc := 162) (-1) dX4_layMost_162 rfl (by decide) (by decide) ?_
      refine q_goto (pc := 165) 5 dX4_layMost_165 (by decide) ?_
      refine qJ_weak [some (.ref (b + k0)), some (.int x1), some (.int x2), some (.int ((x3 + (-1)))), none, none, none, none, none, none] ⟨rfl, rfl, rfl, rfl, trivial⟩ ?_
      exact hc5 x1 x2 ((x3 + (-1))) sg
    refine q_iload_n (pc := 50) dX4_layMost_50 rfl ?_
    refine q_iload (pc := 51) dX4_layMost_51 rfl ?_
    refine q_callSi (pc := 53) [.int x3, .int x4] dX4_layMost_53 lm_X4_79 yX4_gone_ok yX4_gone_in (sX4_gone hK x3 x4 sg) rfl rfl (Nat.le_of_ble_eq_true rfl) ⟨by decide, by decide⟩ (fun r1 s2 => ?_)
    refine q_iconst (pc := 56) 1 dX4_layMost_56 (by decide) ?_
    refine q_iadd (pc := 57) dX4_layMost_57 ?_
    refine q_istore (pc := 58) dX4_layMost_58 (by decide) ?_
    refine q_iload_n (pc := 60) dX4_layMost_60 rfl ?_
    refine q_iload (pc := 61) dX4_layMost_61 rfl ?_
    refine q_imul (pc := 63) dX4_layMost_63 ?_
    refine q_iload_n (pc := 64) dX4_layMost_64 rfl ?_
    refine q_idiv (pc := 65) dX4_layMost_65 ?_
    refine q_istore (pc := 66) dX4_layMost_66 (by decide) ?_
    refine q_iload (pc := 68) dX4_layMost_68 rfl ?_
    refine q_istore (pc := 70) dX4_layMost_70 (by decide) ?_
    exact tX4_layMost_72 hK h0 (fun z1 z2 z3 z4 sg => ih z1 z2 z3 z4 sg) qfu x1 x2 x3 x4 ((r1 + 1)) (((x1 * (r1 + 1)) / x2)) ((r1 + 1)) s2
def fX4_layMost_5 (k0 : Nat) : Nat → Int32 → Int32 → Int32 → qSt → qR
  | 0, _, _, _, _ => none
  | n + 1, x1, x2, x3, sg =>
    if x3 < 0 then
      some (0, sg)
    else
    qb (fX4_isState k0 x3 sg) fun r1 s2 =>
    if r1 = 0 then
      fX4_layMost_5 k0 n x1 x2 ((x3 + (-1))) s2
    else
    qb (fX4_lastState k0 s2) fun r3 s4 =>
    if x3 = r3 then
      if qin x3 (qlen (k0 + 5)) then
      fX4_layMost_41 k0 (fun z1 z2 z3 sg => fX4_layMost_5 k0 n z1 z2 z3 sg) qfu x1 x2 x3 0 (qset s4 (k0 + 5) (Int32.toNatClampNeg x3) 1000000)
      else none
    else
    if qin x3 (qlen (k0 + 5)) then
    fX4_layMost_41 k0 (fun z1 z2 z3 sg => fX4_layMost_5 k0 n z1 z2 z3 sg) qfu x1 x2 x3 0 (qset s4 (k0 + 5) (Int32.toNatClampNeg x3) (-1000000))
    else none
set_option maxRecDepth 20000 in
set_option maxHeartbeats 4000000 in
theorem tX4_layMost_5 {b : Nat} {K : List Nat} (hK : qOk K) {k0 : Nat} (h0 : qIn K k0 4) : ∀ (n : Nat) (x1 x2 x3 : Int32) (sg : qSt), qJ RX4 cX4_layMost 10 3 64 true (fun _ _ => True) b K 5 [some (.ref (b + k0)), some (.int x1), some (.int x2), some (.int x3), none, none, none, none, none, none] [] sg (fX4_layMost_5 k0 n x1 x2 x3 sg) := by
  intro n
  induction n with
  | zero => intro x1 x2 x3 sg; exact qJ_none
  | succ n ih =>
    intro x1 x2 x3 sg
    unfold fX4_layMost_5
    refine q_iload_n (pc := 5) dX4_layMost_5 rfl ?_
    refine q_if_lt (pc := 6) 168 dX4_layMost_6 (by decide) ?_ ?_
    · exact q_return (pc := 168) dX4_layMost_168
    refine q_aload_n (pc := 9) dX4_layMost_9 rfl ?_
    refine q_iload_n (pc := 10) dX4_layMost_10 rfl ?_
    refine q_callVi (pc := 11) [.int x3] dX4_layMost_11 lm_X4_89 yX4_isState_ok yX4_isState_in h0 (by decide) rfl (sX4_isState hK h0 x3 sg) rfl rfl (Nat.le_of_ble_eq_true rfl) ⟨by decide, by decide⟩ (fun r1 s2 => ?_)
    refine q_if_eq (pc := 14) 162 dX4_layMost_14 (by decide) ?_ ?_
    · refine q_iinc (pc := 162) (-1) dX4_layMost_162 rfl (by decide) (by decide) ?_
      refine q_goto (pc := 165) 5 dX4_layMost_165 (by decide) ?_
      exact ih x1 x2 ((x3 + (-1))) s2
    refine q_aload_n (pc := 17) dX4_layMost_17 rfl ?_
    refine qg_4_9 (pc := 18) dX4_layMost_18 h0 lf_X4_35 ?_
    refine q_iload_n (pc := 21) dX4_layMost_21 rfl ?_
    refine q_iload_n (pc := 22) dX4_layMost_22 rfl ?_
    refine q_aload_n (pc := 23) dX4_layMost_23 rfl ?_
    refine q_callVi (pc := 24) [] dX4_layMost_24 lm_X4_85 yX4_lastState_ok yX4_lastState_in h0 (by decide) rfl (sX4_lastState hK h0 s2) rfl rfl (Nat.le_of_ble_eq_true rfl) ⟨by decide, by decide⟩ (fun r3 s4 => ?_)
    refine q_icmp_ne (pc := 27) 35 dX4_layMost_27 (by decide) ?_ ?_
    · refine q_ldc (pc := 35) (-1000000) dX4_layMost_35 lc_X4_110 ?_
      refine q_iast (pc := 37) dX4_layMost_37 (qch_4_9 hK h0) ?_
      refine q_iconst (pc := 38) 0 dX4_layMost_38 (by decide) ?_
      refine q_istore (pc := 39) dX4_layMost_39 (by decide) ?_
      exact tX4_layMost_41 hK h0 (fun z1 z2 z3 sg => ih z1 z2 z3 sg) qfu x1 x2 x3 0 (qset s4 (k0 + 5) (Int32.toNatClampNeg x3) (-1000000))
    refine q_ldc (pc := 30) 1000000 dX4_layMost_30 lc_X4_109 ?_
    refine q_goto (pc := 32) 37 dX4_layMost_32 (by decide) ?_
    refine q_iast (pc := 37) dX4_layMost_37 (qch_4_9 hK h0) ?_
    refine q_iconst (pc := 38) 0 dX4_layMost_38 (by decide) ?_
    refine q_istore (pc := 39) dX4_layMost_39 (by decide) ?_
    exact tX4_layMost_41 hK h0 (fun z1 z2 z3 sg => ih z1 z2 z3 sg) qfu x1 x2 x3 0 (qset s4 (k0 + 5) (Int32.toNatClampNeg x3) 1000000)
def fX4_layMost (k0 : Nat) (x1 x2 : Int32) (sg : qSt) : qR :=
  qb (fX4_lastState k0 sg) fun r1 s2 =>
  fX4_layMost_5 k0 qfu x1 x2 r1 s2
set_option maxRecDepth 20000 in
set_option maxHeartbeats 4000000 in
theorem sX4_layMost {b : Nat} {K : List Nat} (hK : qOk K) {k0 : Nat} (h0 : qIn K k0 4) (x1 x2 : Int32) (sg : qSt) : qS yX4_layMost cX4_layMost 10 none 3 64 b K [.ref (b + k0), .int x1, .int x2] sg (fX4_layMost k0 x1 x2 sg) := by
  refine qS_of (own := RX4) rfl (by decide) hK.1 (by simp [Value.category]) (Nat.le_of_ble_eq_true rfl) (fun z _ ty h => by cases h) ?_
  show qJ RX4 cX4_layMost 10 3 64 true (fun _ _ => True) b K 0 [some (.ref (b + k0)), some (.int x1), some (.int x2), none, none, none, none, none, none, none] [] sg (fX4_layMost k0 x1 x2 sg)
  unfold fX4_layMost
  refine q_aload_n (pc := 0) dX4_layMost_0 rfl ?_
  refine q_callVi (pc := 1) [] dX4_layMost_1 lm_X4_85 yX4_lastState_ok yX4_lastState_in h0 (by decide) rfl (sX4_lastState hK h0 sg) rfl rfl (Nat.le_of_ble_eq_true rfl) ⟨by decide, by decide⟩ (fun r1 s2 => ?_)
  refine q_istore_n (pc := 4) dX4_layMost_4 (by decide) ?_
  exact tX4_layMost_5 hK h0 qfu x1 x2 r1 s2
-- LineSearchModel.findWorst()V
def fX4_findWorst_63 (k0 : Nat) (c49 : Int32 → qSt → qR) : Nat → Int32 → Int32 → Int32 → qSt → qR
  | 0, _, _, _, _ => none
  | n + 1, x1, x2, x3, sg =>
    if (x3 - x2) ≤ 1 then
      if ((sg k0 12) * x1) ≤ (x3 * (sg k0 13)) then
        c49 ((x1 + 1)) sg
      else
      c49 ((x1 + 1)) (qset (qset sg k0 12 x3) k0 13 x1)
    else
    qb (fX4_layMost k0 ((x2 + x3) / 2) x1 sg) fun r1 s2 =>
    if qin 0 (qlen (k0 + 5)) then
    if (s2 (k0 + 5) (Int32.toNatClampNeg 0)) < 0 then
      fX4_findWorst_63 k0 c49 n x1 (((x2 + x3) / 2)) x3 s2
    else
    fX4_findWorst_63 k0 c49 n x1 x2 (((x2 + x3) / 2)) s2
    else none
set_option maxRecDepth 20000 in
set_option maxHeartbeats 4000000 in
theorem tX4_findWorst_63 {b : Nat} {K : List Nat} (hK : qOk K) {k0 : Nat} {c49 : Int32 → qSt → qR} (h0 : qIn K k0 4) (hc49 : ∀ (x1 : Int32) (sg : qSt), qJ RX4 cX4_findWorst 5 4 93 true (fun _ _ => True) b K 49 [some (.ref (b + k0)), some (.int x1), none, none, none] [] sg (c49 x1 sg)) : ∀ (n : Nat) (x1 x2 x3 : Int32) (sg : qSt), qJ RX4 cX4_findWorst 5 4 93 true (fun _ _ => True) b K 63 [some (.ref (b + k0)), some (.int x1), some (.int x2), some (.int x3), none] [] sg (fX4_findWorst_63 k0 c49 n x1 x2 x3 sg) := by
  intro n
  induction n with
  | zero => intro x1 x2 x3 sg; exact qJ_none
  | succ n ih =>
    intro x1 x2 x3 sg
    unfold fX4_findWorst_63
    refine q_iload_n (pc := 63) dX4_findWorst_63 rfl ?_
    refine q_iload_n (pc := 64) dX4_findWorst_64 rfl ?_
    refine q_isub (pc := 65) dX4_findWorst_65 ?_
    refine q_iconst (pc := 66) 1 dX4_findWorst_66 (by decide) ?_
    refine q_icmp_le (pc := 67) 105 dX4_findWorst_67 (by decide) ?_ ?_
    · refine q_iload_n (pc := 105) dX4_findWorst_105 rfl ?_
      refine q_aload_n (pc := 106) dX4_findWorst_106 rfl ?_
      refine qg_4_13 (pc := 107) dX4_findWorst_107 h0 lf_X4_117 ?_
      refine q_imul (pc := 110) dX4_findWorst_110 ?_
      refine q_aload_n (pc := 111) dX4_findWorst_111 rfl ?_
      refine qg_4_12 (pc := 112) dX4_findWorst_112 h0 lf_X4_114 ?_
      refine q_iload_n (pc := 115) dX4_findWorst_115 rfl ?_
      refine q_imul (pc := 116) dX4_findWorst_116 ?_
      refine q_icmp_ge (pc := 117) 130 dX4_findWorst_117 (by decide) ?_ ?_
      · refine q_iinc (pc := 130) 1 dX4_findWorst_130 rfl (by decide) (by decide) ?_
        refine q_goto (pc := 133) 49 dX4_findWorst_133 (by decide) ?_
        refine qJ_weak [some (.ref (b + k0)), some (.int ((x1 + 1))), none, none, none] ⟨rfl, rfl, trivial⟩ ?_
        exact hc49 ((x1 + 1)) sg
      refine q_aload_n (pc := 120) dX4_findWorst_120 rfl ?_
      refine q_iload_n (pc := 121) dX4_findWorst_121 rfl ?_
      refine qp_4_12 (pc := 122) dX4_findWorst_122 h0 lf_X4_114 ?_
      refine q_aload_n (pc := 125) dX4_findWorst_125 rfl ?_
      refine q_iload_n (pc := 126) dX4_findWorst_126 rfl ?_
      refine qp_4_13 (pc := 127) dX4_findWorst_127 h0 lf_X4_117 ?_
      refine q_iinc (pc := 130) 1 dX4_findWorst_130 rfl (by decide) (by decide) ?_
      refine q_goto (pc := 133) 49 dX4_findWorst_133 (by decide) ?_
      refine qJ_weak [some (.ref (b + k0)), some (.int ((x1 + 1))), none, none, none] ⟨rfl, rfl, trivial⟩ ?_
      exact hc49 ((x1 + 1)) (qset (qset sg k0 12 x3) k0 13 x1)
    refine q_iload_n (pc := 70) dX4_findWorst_70 rfl ?_
    refine q_iload_n (pc := 71) dX4_findWorst_71 rfl ?_
    refine q_iadd (pc := 72) dX4_findWorst_72 ?_
    refine q_iconst (pc := 73) 2 dX4_findWorst_73 (by decide) ?_
    refine q_idivc (pc := 74) dX4_findWorst_74 (by decide) ?_
    refine q_istore (pc := 75) dX4_findWorst_75 (by decide) ?_
    refine q_aload_n (pc := 77) dX4_findWorst_77 rfl ?_
    refine q_iload (pc := 78) dX4_findWorst_78 rfl ?_
    refine q_iload_n (pc := 80) dX4_findWorst_80 rfl ?_
    refine q_callVv (pc := 81) [.int (((x2 + x3) / 2)), .int x1] dX4_findWorst_81 lm_X4_120 yX4_layMost_ok yX4_layMost_in h0 (by decide) rfl (sX4_layMost hK h0 ((x2 + x3) / 2) x1 sg) rfl rfl (Nat.le_of_ble_eq_true rfl) ⟨by decide, by decide⟩ (fun r1 s2 => ?_)
    refine q_aload_n (pc := 84) dX4_findWorst_84 rfl ?_
    refine qg_4_9 (pc := 85) dX4_findWorst_85 h0 lf_X4_35 ?_
    refine q_iconst (pc := 88) 0 dX4_findWorst_88 (by decide) ?_
    refine q_iald (pc := 89) dX4_findWorst_89 (qch_4_9 hK h0) ?_
    refine q_if_lt (pc := 90) 99 dX4_findWorst_90 (by decide) ?_ ?_
    · refine q_iload (pc := 99) dX4_findWorst_99 rfl ?_
      refine q_istore_n (pc := 101) dX4_findWorst_101 (by decide) ?_
      refine q_goto (pc := 102) 63 dX4_findWorst_102 (by decide) ?_
      refine qJ_weak [some (.ref (b + k0)), some (.int x1), some (.int (((x2 + x3) / 2))), some (.int x3), none] ⟨rfl, rfl, rfl, rfl, trivial⟩ ?_
      exact ih x1 (((x2 + x3) / 2)) x3 s2
    refine q_iload (pc := 93) dX4_findWorst_93 rfl ?_
    refine q_istore_n (pc := 95) dX4_findWorst_95 (by decide) ?_
    refine q_goto (pc := 96) 102 dX4_findWorst_96 (by decide) ?_
    refine q_goto (pc := 102) 63 dX4_findWorst_102 (by decide) ?_
    refine qJ_weak [some (.ref (b + k0)), some (.int x1), some (.int x2), some (.int (((x2 + x3) / 2))), none] ⟨rfl, rfl, rfl, rfl, trivial⟩ ?_
    exact ih x1 x2 (((x2 + x3) / 2)) s2
def fX4_findWorst_49 (k0 : Nat) : Nat → Int32 → qSt → qR
  | 0, _, _ => none
  | n + 1, x1, sg =>
    if (sg k0 1) < x1 then
      some (0, sg)
    else
    fX4_findWorst_63 k0 (fun z1 sg => fX4_findWorst_49 k0 n z1 sg) qfu x1 (-1) 400 sg
set_option maxRecDepth 20000 in
set_option maxHeartbeats 4000000 in
theorem tX4_findWorst_49 {b : Nat} {K : List Nat} (hK : qOk K) {k0 : Nat} (h0 : qIn K k0 4) : ∀ (n : Nat) (x1 : Int32) (sg : qSt), qJ RX4 cX4_findWorst 5 4 93 true (fun _ _ => True) b K 49 [some (.ref (b + k0)), some (.int x1), none, none, none] [] sg (fX4_findWorst_49 k0 n x1 sg) := by
  intro n
  induction n with
  | zero => intro x1 sg; exact qJ_none
  | succ n ih =>
    intro x1 sg
    unfold fX4_findWorst_49
    refine q_iload_n (pc := 49) dX4_findWorst_49 rfl ?_
    refine q_aload_n (pc := 50) dX4_findWorst_50 rfl ?_
    refine qg_4_1 (pc := 51) dX4_findWorst_51 h0 lf_X4_13 ?_
    refine q_icmp_gt (pc := 54) 136 dX4_findWorst_54 (by decide) ?_ ?_
    · exact q_return (pc := 136) dX4_findWorst_136
    refine q_iconst (pc := 57) (-1) dX4_findWorst_57 (by decide) ?_
    refine q_istore_n (pc := 58) dX4_findWorst_58 (by decide) ?_
    refine q_sipush (pc := 59) 400 dX4_findWorst_59 (by decide) ?_
    refine q_istore_n (pc := 62) dX4_findWorst_62 (by decide) ?_
    exact tX4_findWorst_63 hK h0 (fun z1 sg => ih z1 sg) qfu x1 (-1) 400 sg
def fX4_findWorst (k0 : Nat) (sg : qSt) : qR :=
  if (sg k0 14) = ((10 * (sg k0 0)) + (sg k0 1)) then
    some (0, sg)
  else
  fX4_findWorst_49 k0 qfu 1 (qset (qset (qset sg k0 14 ((10 * (sg k0 0)) + (sg k0 1))) k0 12 1000000) k0 13 1)
set_option maxRecDepth 20000 in
set_option maxHeartbeats 4000000 in
theorem sX4_findWorst {b : Nat} {K : List Nat} (hK : qOk K) {k0 : Nat} (h0 : qIn K k0 4) (sg : qSt) : qS yX4_findWorst cX4_findWorst 5 none 4 93 b K [.ref (b + k0)] sg (fX4_findWorst k0 sg) := by
  refine qS_of (own := RX4) rfl (by decide) hK.1 (by simp [Value.category]) (Nat.le_of_ble_eq_true rfl) (fun z _ ty h => by cases h) ?_
  show qJ RX4 cX4_findWorst 5 4 93 true (fun _ _ => True) b K 0 [some (.ref (b + k0)), none, none, none, none] [] sg (fX4_findWorst k0 sg)
  unfold fX4_findWorst
  refine q_aload_n (pc := 0) dX4_findWorst_0 rfl ?_
  refine qg_4_14 (pc := 1) dX4_findWorst_1 h0 lf_X4_111 ?_
  refine q_bipush (pc := 4) 10 dX4_findWorst_4 (by decide) ?_
  refine q_aload_n (pc := 6) dX4_findWorst_6 rfl ?_
  refine qg_4_0 (pc := 7) dX4_findWorst_7 h0 lf_X4_7 ?_
  refine q_imul (pc := 10) dX4_findWorst_10 ?_
  refine q_aload_n (pc := 11) dX4_findWorst_11 rfl ?_
  refine qg_4_1 (pc := 12) dX4_findWorst_12 h0 lf_X4_13 ?_
  refine q_iadd (pc := 15) dX4_findWorst_15 ?_
  refine q_icmp_ne (pc := 16) 20 dX4_findWorst_16 (by decide) ?_ ?_
  · refine q_aload_n (pc := 20) dX4_findWorst_20 rfl ?_
    refine q_bipush (pc := 21) 10 dX4_findWorst_21 (by decide) ?_
    refine q_aload_n (pc := 23) dX4_findWorst_23 rfl ?_
    refine qg_4_0 (pc := 24) dX4_findWorst_24 h0 lf_X4_7 ?_
    refine q_imul (pc := 27) dX4_findWorst_27 ?_
    refine q_aload_n (pc := 28) dX4_findWorst_28 rfl ?_
    refine qg_4_1 (pc := 29) dX4_findWorst_29 h0 lf_X4_13 ?_
    refine q_iadd (pc := 32) dX4_findWorst_32 ?_
    refine qp_4_14 (pc := 33) dX4_findWorst_33 h0 lf_X4_111 ?_
    refine q_aload_n (pc := 36) dX4_findWorst_36 rfl ?_
    refine q_ldc (pc := 37) 1000000 dX4_findWorst_37 lc_X4_109 ?_
    refine qp_4_12 (pc := 39) dX4_findWorst_39 h0 lf_X4_114 ?_
    refine q_aload_n (pc := 42) dX4_findWorst_42 rfl ?_
    refine q_iconst (pc := 43) 1 dX4_findWorst_43 (by decide) ?_
    refine qp_4_13 (pc := 44) dX4_findWorst_44 h0 lf_X4_117 ?_
    refine q_iconst (pc := 47) 1 dX4_findWorst_47 (by decide) ?_
    refine q_istore_n (pc := 48) dX4_findWorst_48 (by decide) ?_
    exact tX4_findWorst_49 hK h0 qfu 1 (qset (qset (qset sg k0 14 ((10 * (sg k0 0)) + (sg k0 1))) k0 12 1000000) k0 13 1)
  exact q_return (pc := 19) dX4_findWorst_19
-- LineSearchModel.leastWorst(I)I
def fX4_leastWorst (k0 : Nat) (x1 : Int32) (sg : qSt) : qR :=
  qb (fX4_in x1 0 1 sg) fun r1 s2 =>
  if r1 = 0 then
    some ((-2), s2)
  else
  qb (fX4_findWorst k0 s2) fun r3 s4 =>
  qb (fX4_term (((s4 k0 2) * (s4 k0 13)) + (((s4 k0 2) + (s4 k0 3)) * (s4 k0 12))) ((s4 k0 2) * (s4 k0 13)) x1 s4) fun r5 s6 =>
  some (r5, s6)
set_option maxRecDepth 20000 in
set_option maxHeartbeats 4000000 in
theorem sX4_leastWorst {b : Nat} {K : List Nat} (hK : qOk K) {k0 : Nat} (h0 : qIn K k0 4) (x1 : Int32) (sg : qSt) : qS yX4_leastWorst cX4_leastWorst 2 (some .int) 5 117 b K [.ref (b + k0), .int x1] sg (fX4_leastWorst k0 x1 sg) := by
  refine qS_of (own := RX4) rfl (by decide) hK.1 (by simp [Value.category]) (Nat.le_of_ble_eq_true rfl) (fun z _ ty h => by cases h; exact vp_nar_int _) ?_
  show qJ RX4 cX4_leastWorst 2 5 117 false (fun _ _ => True) b K 0 [some (.ref (b + k0)), some (.int x1)] [] sg (fX4_leastWorst k0 x1 sg)
  unfold fX4_leastWorst
  refine q_iload_n (pc := 0) dX4_leastWorst_0 rfl ?_
  refine q_iconst (pc := 1) 0 dX4_leastWorst_1 (by decide) ?_
  refine q_iconst (pc := 2) 1 dX4_leastWorst_2 (by decide) ?_
  refine q_callSi (pc := 3) [.int x1, .int 0, .int 1] dX4_leastWorst_3 lm_X4_47 yX4_in_ok yX4_in_in (sX4_in hK x1 0 1 sg) rfl rfl (Nat.le_of_ble_eq_true rfl) ⟨by decide, by decide⟩ (fun r1 s2 => ?_)
  refine q_if_ne (pc := 6) 12 dX4_leastWorst_6 (by decide) ?_ ?_
  · refine q_aload_n (pc := 12) dX4_leastWorst_12 rfl ?_
    refine q_callVv (pc := 13) [] dX4_leastWorst_13 lm_X4_124 yX4_findWorst_ok yX4_findWorst_in h0 (by decide) rfl (sX4_findWorst hK h0 s2) rfl rfl (Nat.le_of_ble_eq_true rfl) ⟨by decide, by decide⟩ (fun r3 s4 => ?_)
    refine q_aload_n (pc := 16) dX4_leastWorst_16 rfl ?_
    refine qg_4_2 (pc := 17) dX4_leastWorst_17 h0 lf_X4_16 ?_
    refine q_aload_n (pc := 20) dX4_leastWorst_20 rfl ?_
    refine qg_4_13 (pc := 21) dX4_leastWorst_21 h0 lf_X4_117 ?_
    refine q_imul (pc := 24) dX4_leastWorst_24 ?_
    refine q_aload_n (pc := 25) dX4_leastWorst_25 rfl ?_
    refine qg_4_2 (pc := 26) dX4_leastWorst_26 h0 lf_X4_16 ?_
    refine q_aload_n (pc := 29) dX4_leastWorst_29 rfl ?_
    refine qg_4_3 (pc := 30) dX4_leastWorst_30 h0 lf_X4_19 ?_
    refine q_iadd (pc := 33) dX4_leastWorst_33 ?_
    refine q_aload_n (pc := 34) dX4_leastWorst_34 rfl ?_
    refine qg_4_12 (pc := 35) dX4_leastWorst_35 h0 lf_X4_114 ?_
    refine q_imul (pc := 38) dX4_leastWorst_38 ?_
    refine q_iadd (pc := 39) dX4_leastWorst_39 ?_
    refine q_aload_n (pc := 40) dX4_leastWorst_40 rfl ?_
    refine qg_4_2 (pc := 41) dX4_leastWorst_41 h0 lf_X4_16 ?_
    refine q_aload_n (pc := 44) dX4_leastWorst_44 rfl ?_
    refine qg_4_13 (pc := 45) dX4_leastWorst_45 h0 lf_X4_117 ?_
    refine q_imul (pc := 48) dX4_leastWorst_48 ?_
    refine q_iload_n (pc := 49) dX4_leastWorst_49 rfl ?_
    refine q_callSi (pc := 50) [.int ((((s4 k0 2) * (s4 k0 13)) + (((s4 k0 2) + (s4 k0 3)) * (s4 k0 12)))), .int (((s4 k0 2) * (s4 k0 13))), .int x1] dX4_leastWorst_50 lm_X4_69 yX4_term_ok yX4_term_in (sX4_term hK (((s4 k0 2) * (s4 k0 13)) + (((s4 k0 2) + (s4 k0 3)) * (s4 k0 12))) ((s4 k0 2) * (s4 k0 13)) x1 s4) rfl rfl (Nat.le_of_ble_eq_true rfl) ⟨by decide, by decide⟩ (fun r5 s6 => ?_)
    exact q_ireturn (pc := 53) dX4_leastWorst_53
  refine q_bipush (pc := 9) (-2) dX4_leastWorst_9 (by decide) ?_
  exact q_ireturn (pc := 11) dX4_leastWorst_11
-- LineSearchModel.layWorstPlan()V
def fX4_layWorstPlan_65 (k0 : Nat) (c38 : Int32 → Int32 → Int32 → Int32 → qSt → qR) : Nat → Int32 → Int32 → Int32 → Int32 → Int32 → Int32 → qSt → qR
  | 0, _, _, _, _, _, _, _ => none
  | n + 1, x1, x2, x3, x4, x5, x6, sg =>
    if (sg k0 1) < x6 then
      c38 x1 x2 x3 ((x4 + 1)) sg
    else
    if 0 ≤ x3 then
      c38 x1 x2 x3 ((x4 + 1)) sg
    else
    qb (fX4_nines x4 sg) fun r1 s2 =>
    if ((s2 k0 12) * x5) < (x2 * (s2 k0 13)) then
      fX4_layWorstPlan_65 k0 c38 n x1 x2 x3 x4 x5 ((x6 + 1)) s2
    else
    if qin (x1 + (((x6 - x5) + 1) * r1)) (qlen (k0 + 5)) then
    if (s2 (k0 + 5) (Int32.toNatClampNeg (x1 + (((x6 - x5) + 1) * r1)))) < (x2 + x6) then
      fX4_layWorstPlan_65 k0 c38 n x1 x2 x3 x4 x5 ((x6 + 1)) s2
    else
    if qin (s2 k0 10) (qlen (k0 + 6)) then
    fX4_layWorstPlan_65 k0 c38 n x1 x2 ((x1 + (((x6 - x5) + 1) * r1))) x4 x5 ((x6 + 1)) (qset s2 (k0 + 6) (Int32.toNatClampNeg (s2 k0 10)) ((10 * x4) + x6))
    else none
    else none
set_option maxRecDepth 20000 in
set_option maxHeartbeats 4000000 in
theorem tX4_layWorstPlan_65 {b : Nat} {K : List Nat} (hK : qOk K) {k0 : Nat} {c38 : Int32 → Int32 → Int32 → Int32 → qSt → qR} (h0 : qIn K k0 4) (hc38 : ∀ (x1 x2 x3 x4 : Int32) (sg : qSt), qJ RX4 cX4_layWorstPlan 8 5 117 true (fun _ _ => True) b K 38 [some (.ref (b + k0)), some (.int x1), some (.int x2), some (.int x3), some (.int x4), none, none, none] [] sg (c38 x1 x2 x3 x4 sg)) : ∀ (n : Nat) (x1 x2 x3 x4 x5 x6 : Int32) (sg : qSt), qJ RX4 cX4_layWorstPlan 8 5 117 true (fun _ _ => True) b K 65 [some (.ref (b + k0)), some (.int x1), some (.int x2), some (.int x3), some (.int x4), some (.int x5), some (.int x6), none] [] sg (fX4_layWorstPlan_65 k0 c38 n x1 x2 x3 x4 x5 x6 sg) := by
  intro n
  induction n with
  | zero => intro x1 x2 x3 x4 x5 x6 sg; exact qJ_none
  | succ n ih =>
    intro x1 x2 x3 x4 x5 x6 sg
    unfold fX4_layWorstPlan_65
    refine q_iload (pc := 65) dX4_layWorstPlan_65 rfl ?_
    refine q_aload_n (pc := 67) dX4_layWorstPlan_67 rfl ?_
    refine qg_4_1 (pc := 68) dX4_layWorstPlan_68 h0 lf_X4_13 ?_
    refine q_icmp_gt (pc := 71) 151 dX4_layWorstPlan_71 (by decide) ?_ ?_
    · refine q_iinc (pc := 151) 1 dX4_layWorstPlan_151 rfl (by decide) (by decide) ?_
      refine q_goto (pc := 154) 38 dX4_layWorstPlan_154 (by decide) ?_
      refine qJ_weak [some (.ref (b + k0)), some (.int x1), some (.int x2), some (.int x3), some (.int ((x4 + 1))), none, none, none] ⟨rfl, rfl, rfl, rfl, rfl, trivial⟩ ?_
      exact hc38 x1 x2 x3 ((x4 + 1)) sg
    refine q_iload_n (pc := 74) dX4_layWorstPlan_74 rfl ?_
    refine q_if_ge (pc := 75) 151 dX4_layWorstPlan_75 (by decide) ?_ ?_
    · refine q_iinc (pc := 151) 1 dX4_layWorstPlan_151 rfl (by decide) (by decide) ?_
      refine q_goto (pc := 154) 38 dX4_layWorstPlan_154 (by decide) ?_
      refine qJ_weak [some (.ref (b + k0)), some (.int x1), some (.int x2), some (.int x3), some (.int ((x4 + 1))), none, none, none] ⟨rfl, rfl, rfl, rfl, rfl, trivial⟩ ?_
      exact hc38 x1 x2 x3 ((x4 + 1)) sg
    refine q_iload_n (pc := 78) dX4_layWorstPlan_78 rfl ?_
    refine q_iload (pc := 79) dX4_layWorstPlan_79 rfl ?_
    refine q_iload (pc := 81) dX4_layWorstPlan_81 rfl ?_
    refine q_isub (pc := 83) dX4_layWorstPlan_83 ?_
    refine q_iconst (pc := 84) 1 dX4_layWorstPlan_84 (by decide) ?_
    refine q_iadd (pc := 85) dX4_layWorstPlan_85 ?_
    refine q_iload (pc := 86) dX4_layWorstPlan_86 rfl ?_
    refine q_callSi (pc := 88) [.int x4] dX4_layWorstPlan_88 lm_X4_76 yX4_nines_ok yX4_nines_in (sX4_nines hK x4 sg) rfl rfl (Nat.le_of_ble_eq_true rfl) ⟨by decide, by decide⟩ (fun r1 s2 => ?_)
    refine q_imul (pc := 91) dX4_layWorstPlan_91 ?_
    refine q_iadd (pc := 92) dX4_layWorstPlan_92 ?_
    refine q_istore (pc := 93) dX4_layWorstPlan_93 (by decide) ?_
    refine q_iload_n (pc := 95) dX4_layWorstPlan_95 rfl ?_
    refine q_aload_n (pc := 96) dX4_layWorstPlan_96 rfl ?_
    refine qg_4_13 (pc := 97) dX4_layWorstPlan_97 h0 lf_X4_117 ?_
    refine q_imul (pc := 100) dX4_layWorstPlan_100 ?_
    refine q_aload_n (pc := 101) dX4_layWorstPlan_101 rfl ?_
    refine qg_4_12 (pc := 102) dX4_layWorstPlan_102 h0 lf_X4_114 ?_
    refine q_iload (pc := 105) dX4_layWorstPlan_105 rfl ?_
    refine q_imul (pc := 107) dX4_layWorstPlan_107 ?_
    refine q_icmp_gt (pc := 108) 145 dX4_layWorstPlan_108 (by decide) ?_ ?_
    · refine q_iinc (pc := 145) 1 dX4_layWorstPlan_145 rfl (by decide) (by decide) ?_
      refine q_goto (pc := 148) 65 dX4_layWorstPlan_148 (by decide) ?_
      refine qJ_weak [some (.ref (b + k0)), some (.int x1), some (.int x2), some (.int x3), some (.int x4), some (.int x5), some (.int ((x6 + 1))), none] ⟨rfl, rfl, rfl, rfl, rfl, rfl, rfl, trivial⟩ ?_
      exact ih x1 x2 x3 x4 x5 ((x6 + 1)) s2
    refine q_iload_n (pc := 111) dX4_layWorstPlan_111 rfl ?_
    refine q_iload (pc := 112) dX4_layWorstPlan_112 rfl ?_
    refine q_iadd (pc := 114) dX4_layWorstPlan_114 ?_
    refine q_aload_n (pc := 115) dX4_layWorstPlan_115 rfl ?_
    refine qg_4_9 (pc := 116) dX4_layWorstPlan_116 h0 lf_X4_35 ?_
    refine q_iload (pc := 119) dX4_layWorstPlan_119 rfl ?_
    refine q_iald (pc := 121) dX4_layWorstPlan_121 (qch_4_9 hK h0) ?_
    refine q_icmp_gt (pc := 122) 145 dX4_layWorstPlan_122 (by decide) ?_ ?_
    · refine q_iinc (pc := 145) 1 dX4_layWorstPlan_145 rfl (by decide) (by decide) ?_
      refine q_goto (pc := 148) 65 dX4_layWorstPlan_148 (by decide) ?_
      refine qJ_weak [some (.ref (b + k0)), some (.int x1), some (.int x2), some (.int x3), some (.int x4), some (.int x5), some (.int ((x6 + 1))), none] ⟨rfl, rfl, rfl, rfl, rfl, rfl, rfl, trivial⟩ ?_
      exact ih x1 x2 x3 x4 x5 ((x6 + 1)) s2
    refine q_iload (pc := 125) dX4_layWorstPlan_125 rfl ?_
    refine q_istore_n (pc := 127) dX4_layWorstPlan_127 (by decide) ?_
    refine q_aload_n (pc := 128) dX4_layWorstPlan_128 rfl ?_
    refine qg_4_11 (pc := 129) dX4_layWorstPlan_129 h0 lf_X4_38 ?_
    refine q_aload_n (pc := 132) dX4_layWorstPlan_132 rfl ?_
    refine qg_4_10 (pc := 133) dX4_layWorstPlan_133 h0 lf_X4_100 ?_
    refine q_bipush (pc := 136) 10 dX4_layWorstPlan_136 (by decide) ?_
    refine q_iload (pc := 138) dX4_layWorstPlan_138 rfl ?_
    refine q_imul (pc := 140) dX4_layWorstPlan_140 ?_
    refine q_iload (pc := 141) dX4_layWorstPlan_141 rfl ?_
    refine q_iadd (pc := 143) dX4_layWorstPlan_143 ?_
    refine q_iast (pc := 144) dX4_layWorstPlan_144 (qch_4_11 hK h0) ?_
    refine q_iinc (pc := 145) 1 dX4_layWorstPlan_145 rfl (by decide) (by decide) ?_
    refine q_goto (pc := 148) 65 dX4_layWorstPlan_148 (by decide) ?_
    refine qJ_weak [some (.ref (b + k0)), some (.int x1), some (.int x2), some (.int ((x1 + (((x6 - x5) + 1) * r1)))), some (.int x4), some (.int x5), some (.int ((x6 + 1))), none] ⟨rfl, rfl, rfl, rfl, rfl, rfl, rfl, trivial⟩ ?_
    exact ih x1 x2 ((x1 + (((x6 - x5) + 1) * r1))) x4 x5 ((x6 + 1)) (qset s2 (k0 + 6) (Int32.toNatClampNeg (s2 k0 10)) ((10 * x4) + x6))
def fX4_layWorstPlan_157 (k0 : Nat) (c25 : Int32 → Int32 → qSt → qR) (x2 x3 : Int32) (sg : qSt) : qR :=
    if qin (sg k0 10) (qlen (k0 + 6)) then
    c25 x3 ((x2 + ((sg (k0 + 6) (Int32.toNatClampNeg (sg k0 10))) - (sg (k0 + 6) (Int32.toNatClampNeg (sg k0 10))) / 10 * 10))) (qset sg k0 10 ((sg k0 10) + 1))
    else none
set_option maxRecDepth 20000 in
set_option maxHeartbeats 4000000 in
theorem tX4_layWorstPlan_157 {b : Nat} {K : List Nat} (hK : qOk K) {k0 : Nat} {c25 : Int32 → Int32 → qSt → qR} (h0 : qIn K k0 4) (hc25 : ∀ (x1 x2 : Int32) (sg : qSt), qJ RX4 cX4_layWorstPlan 8 5 117 true (fun _ _ => True) b K 25 [some (.ref (b + k0)), some (.int x1), some (.int x2), none, none, none, none, none] [] sg (c25 x1 x2 sg)) : ∀ (x2 x3 : Int32) (sg : qSt), qJ RX4 cX4_layWorstPlan 8 5 117 true (fun _ _ => True) b K 157 [some (.ref (b + k0)), none, some (.int x2), some (.int x3), none, none, none, none] [] sg (fX4_layWorstPlan_157 k0 c25 x2 x3 sg) := by
  intro x2 x3 sg
  unfold fX4_layWorstPlan_157
  refine q_iload_n (pc := 157) dX4_layWorstPlan_157 rfl ?_
  refine q_aload_n (pc := 158) dX4_layWorstPlan_158 rfl ?_
  refine qg_4_11 (pc := 159) dX4_layWorstPlan_159 h0 lf_X4_38 ?_
  refine q_aload_n (pc := 162) dX4_layWorstPlan_162 rfl ?_
  refine qg_4_10 (pc := 163) dX4_layWorstPlan_163 h0 lf_X4_100 ?_
  refine q_iald (pc := 166) dX4_layWorstPlan_166 (qch_4_11 hK h0) ?_
  refine q_bipush (pc := 167) 10 dX4_layWorstPlan_167 (by decide) ?_
  refine q_iremc (pc := 169) dX4_layWorstPlan_169 (by decide) ?_
  refine q_iadd (pc := 170) dX4_layWorstPlan_170 ?_
  refine q_istore_n (pc := 171) dX4_layWorstPlan_171 (by decide) ?_
  refine q_aload_n (pc := 172) dX4_layWorstPlan_172 rfl ?_
  refine q_dup (pc := 173) dX4_layWorstPlan_173 rfl ?_
  refine qg_4_10 (pc := 174) dX4_layWorstPlan_174 h0 lf_X4_100 ?_
  refine q_iconst (pc := 177) 1 dX4_layWorstPlan_177 (by decide) ?_
  refine q_iadd (pc := 178) dX4_layWorstPlan_178 ?_
  refine qp_4_10 (pc := 179) dX4_layWorstPlan_179 h0 lf_X4_100 ?_
  refine q_iload_n (pc := 182) dX4_layWorstPlan_182 rfl ?_
  refine q_istore_n (pc := 183) dX4_layWorstPlan_183 (by decide) ?_
  refine q_goto (pc := 184) 25 dX4_layWorstPlan_184 (by decide) ?_
  refine qJ_weak [some (.ref (b + k0)), some (.int x3), some (.int ((x2 + ((sg (k0 + 6) (Int32.toNatClampNeg (sg k0 10))) - (sg (k0 + 6) (Int32.toNatClampNeg (sg k0 10))) / 10 * 10)))), none, none, none, none, none] ⟨rfl, rfl, rfl, trivial⟩ ?_
  exact hc25 x3 ((x2 + ((sg (k0 + 6) (Int32.toNatClampNeg (sg k0 10))) - (sg (k0 + 6) (Int32.toNatClampNeg (sg k0 10))) / 10 * 10))) (qset sg k0 10 ((sg k0 10) + 1))
def fX4_layWorstPlan_38 (k0 : Nat) (c25 : Int32 → Int32 → qSt → qR) : Nat → Int32 → Int32 → Int32 → Int32 → qSt → qR
  | 0, _, _, _, _, _ => none
  | n + 1, x1, x2, x3, x4, sg =>
    if (sg k0 0) ≤ x4 then
      fX4_layWorstPlan_157 k0 c25 x2 x3 sg
    else
    if 0 ≤ x3 then
      fX4_layWorstPlan_157 k0 c25 x2 x3 sg
    else
    qb (fX4_gone x1 x4 sg) fun r1 s2 =>
    fX4_layWorstPlan_65 k0 (fun z1 z2 z3 z4 sg => fX4_layWorstPlan_38 k0 c25 n z1 z2 z3 z4 sg) qfu x1 x2 x3 x4 ((r1 + 1)) ((r1 + 1)) s2
set_option maxRecDepth 20000 in
set_option maxHeartbeats 4000000 in
theorem tX4_layWorstPlan_38 {b : Nat} {K : List Nat} (hK : qOk K) {k0 : Nat} {c25 : Int32 → Int32 → qSt → qR} (h0 : qIn K k0 4) (hc25 : ∀ (x1 x2 : Int32) (sg : qSt), qJ RX4 cX4_layWorstPlan 8 5 117 true (fun _ _ => True) b K 25 [some (.ref (b + k0)), some (.int x1), some (.int x2), none, none, none, none, none] [] sg (c25 x1 x2 sg)) : ∀ (n : Nat) (x1 x2 x3 x4 : Int32) (sg : qSt), qJ RX4 cX4_layWorstPlan 8 5 117 true (fun _ _ => True) b K 38 [some (.ref (b + k0)), some (.int x1), some (.int x2), some (.int x3), some (.int x4), none, none, none] [] sg (fX4_layWorstPlan_38 k0 c25 n x1 x2 x3 x4 sg) := by
  intro n
  induction n with
  | zero => intro x1 x2 x3 x4 sg; exact qJ_none
  | succ n ih =>
    intro x1 x2 x3 x4 sg
    unfold fX4_layWorstPlan_38
    refine q_iload (pc := 38) dX4_layWorstPlan_38 rfl ?_
    refine q_aload_n (pc := 40) dX4_layWorstPlan_40 rfl ?_
    refine qg_4_0 (pc := 41) dX4_layWorstPlan_41 h0 lf_X4_7 ?_
    refine q_icmp_ge (pc := 44) 157 dX4_layWorstPlan_44 (by decide) ?_ ?_
    · refine qJ_weak [some (.ref (b + k0)), none, some (.int x2), some (.int x3), none, none, none, none] ⟨rfl, rfl, rfl, trivial⟩ ?_
      exact tX4_layWorstPlan_157 hK h0 hc25 x2 x3 sg
    refine q_iload_n (pc := 47) dX4_layWorstPlan_47 rfl ?_
    refine q_if_ge (pc := 48) 157 dX4_layWorstPlan_48 (by decide) ?_ ?_
    · refine qJ_weak [some (.ref (b + k0)), none, some (.int x2), some (.int x3), none, none, none, none] ⟨rfl, rfl, rfl, trivial⟩ ?_
      exact tX4_layWorstPlan_157 hK h0 hc25 x2 x3 sg
    refine q_iload_n (pc := 51) dX4_layWorstPlan_51 rfl ?_
    refine q_iload (pc := 52) dX4_layWorstPlan_52 rfl ?_
    refine q_callSi (pc := 54) [.int x1, .int x4] dX4_layWorstPlan_54 lm_X4_79 yX4_gone_ok yX4_gone_in (sX4_gone hK x1 x4 sg) rfl rfl (Nat.le_of_ble_eq_true rfl) ⟨by decide, by decide⟩ (fun r1 s2 => ?_)
    refine q_iconst (pc := 57) 1 dX4_layWorstPlan_57 (by decide) ?_
    refine q_iadd (pc := 58) dX4_layWorstPlan_58 ?_
    refine q_istore (pc := 59) dX4_layWorstPlan_59 (by decide) ?_
    refine q_iload (pc := 61) dX4_layWorstPlan_61 rfl ?_
    refine q_istore (pc := 63) dX4_layWorstPlan_63 (by decide) ?_
    exact tX4_layWorstPlan_65 hK h0 (fun z1 z2 z3 z4 sg => ih z1 z2 z3 z4 sg) qfu x1 x2 x3 x4 ((r1 + 1)) ((r1 + 1)) s2
def fX4_layWorstPlan_25 (k0 : Nat) : Nat → Int32 → Int32 → qSt → qR
  | 0, _, _, _ => none
  | n + 1, x1, x2, sg =>
    qb (fX4_lastState k0 sg) fun r1 s2 =>
    if x1 = r1 then
      some (0, s2)
    else
    fX4_layWorstPlan_38 k0 (fun z1 z2 sg => fX4_layWorstPlan_25 k0 n z1 z2 sg) qfu x1 x2 (-1) 0 s2
set_option maxRecDepth 20000 in
set_option maxHeartbeats 4000000 in
theorem tX4_layWorstPlan_25 {b : Nat} {K : List Nat} (hK : qOk K) {k0 : Nat} (h0 : qIn K k0 4) : ∀ (n : Nat) (x1 x2 : Int32) (sg : qSt), qJ RX4 cX4_layWorstPlan 8 5 117 true (fun _ _ => True) b K 25 [some (.ref (b + k0)), some (.int x1), some (.int x2), none, none, none, none, none] [] sg (fX4_layWorstPlan_25 k0 n x1 x2 sg) := by
  intro n
  induction n with
  | zero => intro x1 x2 sg; exact qJ_none
  | succ n ih =>
    intro x1 x2 sg
    unfold fX4_layWorstPlan_25
    refine q_iload_n (pc := 25) dX4_layWorstPlan_25 rfl ?_
    refine q_aload_n (pc := 26) dX4_layWorstPlan_26 rfl ?_
    refine q_callVi (pc := 27) [] dX4_layWorstPlan_27 lm_X4_85 yX4_lastState_ok yX4_lastState_in h0 (by decide) rfl (sX4_lastState hK h0 sg) rfl rfl (Nat.le_of_ble_eq_true rfl) ⟨by decide, by decide⟩ (fun r1 s2 => ?_)
    refine q_icmp_eq (pc := 30) 187 dX4_layWorstPlan_30 (by decide) ?_ ?_
    · exact q_return (pc := 187) dX4_layWorstPlan_187
    refine q_iconst (pc := 33) (-1) dX4_layWorstPlan_33 (by decide) ?_
    refine q_istore_n (pc := 34) dX4_layWorstPlan_34 (by decide) ?_
    refine q_iconst (pc := 35) 0 dX4_layWorstPlan_35 (by decide) ?_
    refine q_istore (pc := 36) dX4_layWorstPlan_36 (by decide) ?_
    exact tX4_layWorstPlan_38 hK h0 (fun z1 z2 sg => ih z1 z2 sg) qfu x1 x2 (-1) 0 s2
def fX4_layWorstPlan (k0 : Nat) (sg : qSt) : qR :=
  qb (fX4_findWorst k0 sg) fun r1 s2 =>
  qb (fX4_layMost k0 (s2 k0 12) (s2 k0 13) s2) fun r3 s4 =>
  fX4_layWorstPlan_25 k0 qfu 0 0 (qset s4 k0 10 0)
set_option maxRecDepth 20000 in
set_option maxHeartbeats 4000000 in
theorem sX4_layWorstPlan {b : Nat} {K : List Nat} (hK : qOk K) {k0 : Nat} (h0 : qIn K k0 4) (sg : qSt) : qS yX4_layWorstPlan cX4_layWorstPlan 8 none 5 117 b K [.ref (b + k0)] sg (fX4_layWorstPlan k0 sg) := by
  refine qS_of (own := RX4) rfl (by decide) hK.1 (by simp [Value.category]) (Nat.le_of_ble_eq_true rfl) (fun z _ ty h => by cases h) ?_
  show qJ RX4 cX4_layWorstPlan 8 5 117 true (fun _ _ => True) b K 0 [some (.ref (b + k0)), none, none, none, none, none, none, none] [] sg (fX4_layWorstPlan k0 sg)
  unfold fX4_layWorstPlan
  refine q_aload_n (pc := 0) dX4_layWorstPlan_0 rfl ?_
  refine q_callVv (pc := 1) [] dX4_layWorstPlan_1 lm_X4_124 yX4_findWorst_ok yX4_findWorst_in h0 (by decide) rfl (sX4_findWorst hK h0 sg) rfl rfl (Nat.le_of_ble_eq_true rfl) ⟨by decide, by decide⟩ (fun r1 s2 => ?_)
  refine q_aload_n (pc := 4) dX4_layWorstPlan_4 rfl ?_
  refine q_aload_n (pc := 5) dX4_layWorstPlan_5 rfl ?_
  refine qg_4_12 (pc := 6) dX4_layWorstPlan_6 h0 lf_X4_114 ?_
  refine q_aload_n (pc := 9) dX4_layWorstPlan_9 rfl ?_
  refine qg_4_13 (pc := 10) dX4_layWorstPlan_10 h0 lf_X4_117 ?_
  refine q_callVv (pc := 13) [.int ((s2 k0 12)), .int ((s2 k0 13))] dX4_layWorstPlan_13 lm_X4_120 yX4_layMost_ok yX4_layMost_in h0 (by decide) rfl (sX4_layMost hK h0 (s2 k0 12) (s2 k0 13) s2) rfl rfl (Nat.le_of_ble_eq_true rfl) ⟨by decide, by decide⟩ (fun r3 s4 => ?_)
  refine q_aload_n (pc := 16) dX4_layWorstPlan_16 rfl ?_
  refine q_iconst (pc := 17) 0 dX4_layWorstPlan_17 (by decide) ?_
  refine qp_4_10 (pc := 18) dX4_layWorstPlan_18 h0 lf_X4_100 ?_
  refine q_iconst (pc := 21) 0 dX4_layWorstPlan_21 (by decide) ?_
  refine q_istore_n (pc := 22) dX4_layWorstPlan_22 (by decide) ?_
  refine q_iconst (pc := 23) 0 dX4_layWorstPlan_23 (by decide) ?_
  refine q_istore_n (pc := 24) dX4_layWorstPlan_24 (by decide) ?_
  exact tX4_layWorstPlan_25 hK h0 qfu 0 0 (qset s4 k0 10 0)
-- LineSearchModel.worstTrip(I)I
def fX4_worstTrip (k0 : Nat) (x1 : Int32) (sg : qSt) : qR :=
  qb (fX4_layWorstPlan k0 sg) fun r1 s2 =>
  qb (fX4_planAt k0 x1 s2) fun r3 s4 =>
  some (r3, s4)
set_option maxRecDepth 20000 in
set_option maxHeartbeats 4000000 in
theorem sX4_worstTrip {b : Nat} {K : List Nat} (hK : qOk K) {k0 : Nat} (h0 : qIn K k0 4) (x1 : Int32) (sg : qSt) : qS yX4_worstTrip cX4_worstTrip 2 (some .int) 6 144 b K [.ref (b + k0), .int x1] sg (fX4_worstTrip k0 x1 sg) := by
  refine qS_of (own := RX4) rfl (by decide) hK.1 (by simp [Value.category]) (Nat.le_of_ble_eq_true rfl) (fun z _ ty h => by cases h; exact vp_nar_int _) ?_
  show qJ RX4 cX4_worstTrip 2 6 144 false (fun _ _ => True) b K 0 [some (.ref (b + k0)), some (.int x1)] [] sg (fX4_worstTrip k0 x1 sg)
  unfold fX4_worstTrip
  refine q_aload_n (pc := 0) dX4_worstTrip_0 rfl ?_
  refine q_callVv (pc := 1) [] dX4_worstTrip_1 lm_X4_127 yX4_layWorstPlan_ok yX4_layWorstPlan_in h0 (by decide) rfl (sX4_layWorstPlan hK h0 sg) rfl rfl (Nat.le_of_ble_eq_true rfl) ⟨by decide, by decide⟩ (fun r1 s2 => ?_)
  refine q_aload_n (pc := 4) dX4_worstTrip_4 rfl ?_
  refine q_iload_n (pc := 5) dX4_worstTrip_5 rfl ?_
  refine q_callVi (pc := 6) [.int x1] dX4_worstTrip_6 lm_X4_106 yX4_planAt_ok yX4_planAt_in h0 (by decide) rfl (sX4_planAt hK h0 x1 s2) rfl rfl (Nat.le_of_ble_eq_true rfl) ⟨by decide, by decide⟩ (fun r3 s4 => ?_)
  exact q_ireturn (pc := 9) dX4_worstTrip_9
-- LineSearchModel.within(II)I
def fX4_within (k0 : Nat) (x1 x2 : Int32) (sg : qSt) : qR :=
  qb (fX4_in x1 1 10000 sg) fun r1 s2 =>
  if r1 = 0 then
    some ((-2), s2)
  else
  qb (fX4_in x2 1 10000 s2) fun r3 s4 =>
  if r3 = 0 then
    some ((-2), s4)
  else
  if x2 ≤ x1 then
    qb (fX4_layMost k0 ((x1 - x2) * (s4 k0 2)) (x2 * ((s4 k0 2) + (s4 k0 3))) s4) fun r5 s6 =>
    if qin 0 (qlen (k0 + 5)) then
    if (s6 (k0 + 5) (Int32.toNatClampNeg 0)) < 0 then
      some (0, s6)
    else
    some (1, s6)
    else none
  else
  some (0, s4)
set_option maxRecDepth 20000 in
set_option maxHeartbeats 4000000 in
theorem sX4_within {b : Nat} {K : List Nat} (hK : qOk K) {k0 : Nat} (h0 : qIn K k0 4) (x1 x2 : Int32) (sg : qSt) : qS yX4_within cX4_within 3 (some .int) 4 93 b K [.ref (b + k0), .int x1, .int x2] sg (fX4_within k0 x1 x2 sg) := by
  refine qS_of (own := RX4) rfl (by decide) hK.1 (by simp [Value.category]) (Nat.le_of_ble_eq_true rfl) (fun z _ ty h => by cases h; exact vp_nar_int _) ?_
  show qJ RX4 cX4_within 3 4 93 false (fun _ _ => True) b K 0 [some (.ref (b + k0)), some (.int x1), some (.int x2)] [] sg (fX4_within k0 x1 x2 sg)
  unfold fX4_within
  refine q_iload_n (pc := 0) dX4_within_0 rfl ?_
  refine q_iconst (pc := 1) 1 dX4_within_1 (by decide) ?_
  refine q_sipush (pc := 2) 10000 dX4_within_2 (by decide) ?_
  refine q_callSi (pc := 5) [.int x1, .int 1, .int 10000] dX4_within_5 lm_X4_47 yX4_in_ok yX4_in_in (sX4_in hK x1 1 10000 sg) rfl rfl (Nat.le_of_ble_eq_true rfl) ⟨by decide, by decide⟩ (fun r1 s2 => ?_)
  refine q_if_eq (pc := 8) 22 dX4_within_8 (by decide) ?_ ?_
  · refine q_bipush (pc := 22) (-2) dX4_within_22 (by decide) ?_
    exact q_ireturn (pc := 24) dX4_within_24
  refine q_iload_n (pc := 11) dX4_within_11 rfl ?_
  refine q_iconst (pc := 12) 1 dX4_within_12 (by decide) ?_
  refine q_sipush (pc := 13) 10000 dX4_within_13 (by decide) ?_
  refine q_callSi (pc := 16) [.int x2, .int 1, .int 10000] dX4_within_16 lm_X4_47 yX4_in_ok yX4_in_in (sX4_in hK x2 1 10000 s2) rfl rfl (Nat.le_of_ble_eq_true rfl) ⟨by decide, by decide⟩ (fun r3 s4 => ?_)
  refine q_if_ne (pc := 19) 25 dX4_within_19 (by decide) ?_ ?_
  · refine q_iload_n (pc := 25) dX4_within_25 rfl ?_
    refine q_iload_n (pc := 26) dX4_within_26 rfl ?_
    refine q_icmp_ge (pc := 27) 32 dX4_within_27 (by decide) ?_ ?_
    · refine q_aload_n (pc := 32) dX4_within_32 rfl ?_
      refine q_iload_n (pc := 33) dX4_within_33 rfl ?_
      refine q_iload_n (pc := 34) dX4_within_34 rfl ?_
      refine q_isub (pc := 35) dX4_within_35 ?_
      refine q_aload_n (pc := 36) dX4_within_36 rfl ?_
      refine qg_4_2 (pc := 37) dX4_within_37 h0 lf_X4_16 ?_
      refine q_imul (pc := 40) dX4_within_40 ?_
      refine q_iload_n (pc := 41) dX4_within_41 rfl ?_
      refine q_aload_n (pc := 42) dX4_within_42 rfl ?_
      refine qg_4_2 (pc := 43) dX4_within_43 h0 lf_X4_16 ?_
      refine q_aload_n (pc := 46) dX4_within_46 rfl ?_
      refine qg_4_3 (pc := 47) dX4_within_47 h0 lf_X4_19 ?_
      refine q_iadd (pc := 50) dX4_within_50 ?_
      refine q_imul (pc := 51) dX4_within_51 ?_
      refine q_callVv (pc := 52) [.int (((x1 - x2) * (s4 k0 2))), .int ((x2 * ((s4 k0 2) + (s4 k0 3))))] dX4_within_52 lm_X4_120 yX4_layMost_ok yX4_layMost_in h0 (by decide) rfl (sX4_layMost hK h0 ((x1 - x2) * (s4 k0 2)) (x2 * ((s4 k0 2) + (s4 k0 3))) s4) rfl rfl (Nat.le_of_ble_eq_true rfl) ⟨by decide, by decide⟩ (fun r5 s6 => ?_)
      refine q_aload_n (pc := 55) dX4_within_55 rfl ?_
      refine qg_4_9 (pc := 56) dX4_within_56 h0 lf_X4_35 ?_
      refine q_iconst (pc := 59) 0 dX4_within_59 (by decide) ?_
      refine q_iald (pc := 60) dX4_within_60 (qch_4_9 hK h0) ?_
      refine q_if_lt (pc := 61) 68 dX4_within_61 (by decide) ?_ ?_
      · refine q_iconst (pc := 68) 0 dX4_within_68 (by decide) ?_
        exact q_ireturn (pc := 69) dX4_within_69
      refine q_iconst (pc := 64) 1 dX4_within_64 (by decide) ?_
      refine q_goto (pc := 65) 69 dX4_within_65 (by decide) ?_
      exact q_ireturn (pc := 69) dX4_within_69
    refine q_iconst (pc := 30) 0 dX4_within_30 (by decide) ?_
    exact q_ireturn (pc := 31) dX4_within_31
  refine q_bipush (pc := 22) (-2) dX4_within_22 (by decide) ?_
  exact q_ireturn (pc := 24) dX4_within_24
-- LineSearchModel.take(I)I
def fX4_take_37 (k0 : Nat) : Nat → Int32 → qSt → qR
  | 0, _, _ => none
  | n + 1, x2, sg =>
    if (sg k0 10) ≤ x2 then
      some ((sg k0 5), sg)
    else
    if qin x2 (qlen (k0 + 6)) then
    if qin x2 (qlen (k0 + 2)) then
    if qin x2 (qlen (k0 + 6)) then
    if qin x2 (qlen (k0 + 3)) then
    fX4_take_37 k0 n ((x2 + 1)) (qset (qset sg (k0 + 2) (Int32.toNatClampNeg x2) ((sg (k0 + 6) (Int32.toNatClampNeg x2)) / 10)) (k0 + 3) (Int32.toNatClampNeg x2) (((qset sg (k0 + 2) (Int32.toNatClampNeg x2) ((sg (k0 + 6) (Int32.toNatClampNeg x2)) / 10)) (k0 + 6) (Int32.toNatClampNeg x2)) - ((qset sg (k0 + 2) (Int32.toNatClampNeg x2) ((sg (k0 + 6) (Int32.toNatClampNeg x2)) / 10)) (k0 + 6) (Int32.toNatClampNeg x2)) / 10 * 10))
    else none
    else none
    else none
    else none
set_option maxRecDepth 20000 in
set_option maxHeartbeats 4000000 in
theorem tX4_take_37 {b : Nat} {K : List Nat} (hK : qOk K) {k0 : Nat} (h0 : qIn K k0 4) : ∀ (n : Nat) (x2 : Int32) (sg : qSt), qJ RX4 cX4_take 3 6 144 false (fun _ _ => True) b K 37 [some (.ref (b + k0)), none, some (.int x2)] [] sg (fX4_take_37 k0 n x2 sg) := by
  intro n
  induction n with
  | zero => intro x2 sg; exact qJ_none
  | succ n ih =>
    intro x2 sg
    unfold fX4_take_37
    refine q_iload_n (pc := 37) dX4_take_37 rfl ?_
    refine q_aload_n (pc := 38) dX4_take_38 rfl ?_
    refine qg_4_10 (pc := 39) dX4_take_39 h0 lf_X4_100 ?_
    refine q_icmp_ge (pc := 42) 81 dX4_take_42 (by decide) ?_ ?_
    · refine q_aload_n (pc := 81) dX4_take_81 rfl ?_
      refine qg_4_5 (pc := 82) dX4_take_82 h0 lf_X4_44 ?_
      exact q_ireturn (pc := 85) dX4_take_85
    refine q_aload_n (pc := 45) dX4_take_45 rfl ?_
    refine qg_4_6 (pc := 46) dX4_take_46 h0 lf_X4_26 ?_
    refine q_iload_n (pc := 49) dX4_take_49 rfl ?_
    refine q_aload_n (pc := 50) dX4_take_50 rfl ?_
    refine qg_4_11 (pc := 51) dX4_take_51 h0 lf_X4_38 ?_
    refine q_iload_n (pc := 54) dX4_take_54 rfl ?_
    refine q_iald (pc := 55) dX4_take_55 (qch_4_11 hK h0) ?_
    refine q_bipush (pc := 56) 10 dX4_take_56 (by decide) ?_
    refine q_idivc (pc := 58) dX4_take_58 (by decide) ?_
    refine q_iast (pc := 59) dX4_take_59 (qch_4_6 hK h0) ?_
    refine q_aload_n (pc := 60) dX4_take_60 rfl ?_
    refine qg_4_7 (pc := 61) dX4_take_61 h0 lf_X4_29 ?_
    refine q_iload_n (pc := 64) dX4_take_64 rfl ?_
    refine q_aload_n (pc := 65) dX4_take_65 rfl ?_
    refine qg_4_11 (pc := 66) dX4_take_66 h0 lf_X4_38 ?_
    refine q_iload_n (pc := 69) dX4_take_69 rfl ?_
    refine q_iald (pc := 70) dX4_take_70 (qch_4_11 hK h0) ?_
    refine q_bipush (pc := 71) 10 dX4_take_71 (by decide) ?_
    refine q_iremc (pc := 73) dX4_take_73 (by decide) ?_
    refine q_iast (pc := 74) dX4_take_74 (qch_4_7 hK h0) ?_
    refine q_iinc (pc := 75) 1 dX4_take_75 rfl (by decide) (by decide) ?_
    refine q_goto (pc := 78) 37 dX4_take_78 (by decide) ?_
    exact ih ((x2 + 1)) (qset (qset sg (k0 + 2) (Int32.toNatClampNeg x2) ((sg (k0 + 6) (Int32.toNatClampNeg x2)) / 10)) (k0 + 3) (Int32.toNatClampNeg x2) (((qset sg (k0 + 2) (Int32.toNatClampNeg x2) ((sg (k0 + 6) (Int32.toNatClampNeg x2)) / 10)) (k0 + 6) (Int32.toNatClampNeg x2)) - ((qset sg (k0 + 2) (Int32.toNatClampNeg x2) ((sg (k0 + 6) (Int32.toNatClampNeg x2)) / 10)) (k0 + 6) (Int32.toNatClampNeg x2)) / 10 * 10))
def fX4_take (k0 : Nat) (x1 : Int32) (sg : qSt) : qR :=
  qb (fX4_in x1 0 1 sg) fun r1 s2 =>
  if r1 = 0 then
    some ((-2), s2)
  else
  if x1 = 0 then
    qb (fX4_layMeanPlan k0 s2) fun r5 s6 =>
    fX4_take_37 k0 qfu 0 (qset s6 k0 5 (s6 k0 10))
  else
  qb (fX4_layWorstPlan k0 s2) fun r3 s4 =>
  fX4_take_37 k0 qfu 0 (qset s4 k0 5 (s4 k0 10))
set_option maxRecDepth 20000 in
set_option maxHeartbeats 4000000 in
theorem sX4_take {b : Nat} {K : List Nat} (hK : qOk K) {k0 : Nat} (h0 : qIn K k0 4) (x1 : Int32) (sg : qSt) : qS yX4_take cX4_take 3 (some .int) 6 144 b K [.ref (b + k0), .int x1] sg (fX4_take k0 x1 sg) := by
  refine qS_of (own := RX4) rfl (by decide) hK.1 (by simp [Value.category]) (Nat.le_of_ble_eq_true rfl) (fun z _ ty h => by cases h; exact vp_nar_int _) ?_
  show qJ RX4 cX4_take 3 6 144 false (fun _ _ => True) b K 0 [some (.ref (b + k0)), some (.int x1), none] [] sg (fX4_take k0 x1 sg)
  unfold fX4_take
  refine q_iload_n (pc := 0) dX4_take_0 rfl ?_
  refine q_iconst (pc := 1) 0 dX4_take_1 (by decide) ?_
  refine q_iconst (pc := 2) 1 dX4_take_2 (by decide) ?_
  refine q_callSi (pc := 3) [.int x1, .int 0, .int 1] dX4_take_3 lm_X4_47 yX4_in_ok yX4_in_in (sX4_in hK x1 0 1 sg) rfl rfl (Nat.le_of_ble_eq_true rfl) ⟨by decide, by decide⟩ (fun r1 s2 => ?_)
  refine q_if_ne (pc := 6) 12 dX4_take_6 (by decide) ?_ ?_
  · refine q_iload_n (pc := 12) dX4_take_12 rfl ?_
    refine q_if_ne (pc := 13) 23 dX4_take_13 (by decide) ?_ ?_
    · refine q_aload_n (pc := 23) dX4_take_23 rfl ?_
      refine q_callVv (pc := 24) [] dX4_take_24 lm_X4_127 yX4_layWorstPlan_ok yX4_layWorstPlan_in h0 (by decide) rfl (sX4_layWorstPlan hK h0 s2) rfl rfl (Nat.le_of_ble_eq_true rfl) ⟨by decide, by decide⟩ (fun r3 s4 => ?_)
      refine q_aload_n (pc := 27) dX4_take_27 rfl ?_
      refine q_aload_n (pc := 28) dX4_take_28 rfl ?_
      refine qg_4_10 (pc := 29) dX4_take_29 h0 lf_X4_100 ?_
      refine qp_4_5 (pc := 32) dX4_take_32 h0 lf_X4_44 ?_
      refine q_iconst (pc := 35) 0 dX4_take_35 (by decide) ?_
      refine q_istore_n (pc := 36) dX4_take_36 (by decide) ?_
      refine qJ_weak [some (.ref (b + k0)), none, some (.int 0)] ⟨rfl, rfl, trivial⟩ ?_
      exact tX4_take_37 hK h0 qfu 0 (qset s4 k0 5 (s4 k0 10))
    refine q_aload_n (pc := 16) dX4_take_16 rfl ?_
    refine q_callVv (pc := 17) [] dX4_take_17 lm_X4_103 yX4_layMeanPlan_ok yX4_layMeanPlan_in h0 (by decide) rfl (sX4_layMeanPlan hK h0 s2) rfl rfl (Nat.le_of_ble_eq_true rfl) ⟨by decide, by decide⟩ (fun r5 s6 => ?_)
    refine q_goto (pc := 20) 27 dX4_take_20 (by decide) ?_
    refine q_aload_n (pc := 27) dX4_take_27 rfl ?_
    refine q_aload_n (pc := 28) dX4_take_28 rfl ?_
    refine qg_4_10 (pc := 29) dX4_take_29 h0 lf_X4_100 ?_
    refine qp_4_5 (pc := 32) dX4_take_32 h0 lf_X4_44 ?_
    refine q_iconst (pc := 35) 0 dX4_take_35 (by decide) ?_
    refine q_istore_n (pc := 36) dX4_take_36 (by decide) ?_
    refine qJ_weak [some (.ref (b + k0)), none, some (.int 0)] ⟨rfl, rfl, trivial⟩ ?_
    exact tX4_take_37 hK h0 qfu 0 (qset s6 k0 5 (s6 k0 10))
  refine q_bipush (pc := 9) (-2) dX4_take_9 (by decide) ?_
  exact q_ireturn (pc := 11) dX4_take_11
-- LineSearchModel.comesBy(III)I
def fX4_comesBy_3 (k0 : Nat) : Nat → Int32 → Int32 → Int32 → qSt → qR
  | 0, _, _, _, _ => none
  | n + 1, x2, x3, x4, sg =>
    if (sg k0 5) ≤ x4 then
      some ((-6), sg)
    else
    if qin x4 (qlen (k0 + 2)) then
    if (sg (k0 + 2) (Int32.toNatClampNeg x4)) = x2 then
      if qin x4 (qlen (k0 + 3)) then
      if (sg (k0 + 3) (Int32.toNatClampNeg x4)) < x3 then
        fX4_comesBy_3 k0 n x2 x3 ((x4 + 2)) sg
      else
      some (x4, sg)
      else none
    else
    fX4_comesBy_3 k0 n x2 x3 ((x4 + 2)) sg
    else none
set_option maxRecDepth 20000 in
set_option maxHeartbeats 4000000 in
theorem tX4_comesBy_3 {b : Nat} {K : List Nat} (hK : qOk K) {k0 : Nat} (h0 : qIn K k0 4) : ∀ (n : Nat) (x2 x3 x4 : Int32) (sg : qSt), qJ RX4 cX4_comesBy 5 0 0 false (fun _ _ => True) b K 3 [some (.ref (b + k0)), none, some (.int x2), some (.int x3), some (.int x4)] [] sg (fX4_comesBy_3 k0 n x2 x3 x4 sg) := by
  intro n
  induction n with
  | zero => intro x2 x3 x4 sg; exact qJ_none
  | succ n ih =>
    intro x2 x3 x4 sg
    unfold fX4_comesBy_3
    refine q_iload (pc := 3) dX4_comesBy_3 rfl ?_
    refine q_aload_n (pc := 5) dX4_comesBy_5 rfl ?_
    refine qg_4_5 (pc := 6) dX4_comesBy_6 h0 lf_X4_44 ?_
    refine q_icmp_ge (pc := 9) 43 dX4_comesBy_9 (by decide) ?_ ?_
    · refine q_bipush (pc := 43) (-6) dX4_comesBy_43 (by decide) ?_
      exact q_ireturn (pc := 45) dX4_comesBy_45
    refine q_aload_n (pc := 12) dX4_comesBy_12 rfl ?_
    refine qg_4_6 (pc := 13) dX4_comesBy_13 h0 lf_X4_26 ?_
    refine q_iload (pc := 16) dX4_comesBy_16 rfl ?_
    refine q_iald (pc := 18) dX4_comesBy_18 (qch_4_6 hK h0) ?_
    refine q_iload_n (pc := 19) dX4_comesBy_19 rfl ?_
    refine q_icmp_ne (pc := 20) 37 dX4_comesBy_20 (by decide) ?_ ?_
    · refine q_iinc (pc := 37) 2 dX4_comesBy_37 rfl (by decide) (by decide) ?_
      refine q_goto (pc := 40) 3 dX4_comesBy_40 (by decide) ?_
      exact ih x2 x3 ((x4 + 2)) sg
    refine q_aload_n (pc := 23) dX4_comesBy_23 rfl ?_
    refine qg_4_7 (pc := 24) dX4_comesBy_24 h0 lf_X4_29 ?_
    refine q_iload (pc := 27) dX4_comesBy_27 rfl ?_
    refine q_iald (pc := 29) dX4_comesBy_29 (qch_4_7 hK h0) ?_
    refine q_iload_n (pc := 30) dX4_comesBy_30 rfl ?_
    refine q_icmp_lt (pc := 31) 37 dX4_comesBy_31 (by decide) ?_ ?_
    · refine q_iinc (pc := 37) 2 dX4_comesBy_37 rfl (by decide) (by decide) ?_
      refine q_goto (pc := 40) 3 dX4_comesBy_40 (by decide) ?_
      exact ih x2 x3 ((x4 + 2)) sg
    refine q_iload (pc := 34) dX4_comesBy_34 rfl ?_
    exact q_ireturn (pc := 36) dX4_comesBy_36
def fX4_comesBy (k0 : Nat) (x1 x2 x3 : Int32) (sg : qSt) : qR :=
  fX4_comesBy_3 k0 qfu x2 x3 x1 sg
set_option maxRecDepth 20000 in
set_option maxHeartbeats 4000000 in
theorem sX4_comesBy {b : Nat} {K : List Nat} (hK : qOk K) {k0 : Nat} (h0 : qIn K k0 4) (x1 x2 x3 : Int32) (sg : qSt) : qS yX4_comesBy cX4_comesBy 5 (some .int) 0 0 b K [.ref (b + k0), .int x1, .int x2, .int x3] sg (fX4_comesBy k0 x1 x2 x3 sg) := by
  refine qS_of (own := RX4) rfl (by decide) hK.1 (by simp [Value.category]) (Nat.le_of_ble_eq_true rfl) (fun z _ ty h => by cases h; exact vp_nar_int _) ?_
  show qJ RX4 cX4_comesBy 5 0 0 false (fun _ _ => True) b K 0 [some (.ref (b + k0)), some (.int x1), some (.int x2), some (.int x3), none] [] sg (fX4_comesBy k0 x1 x2 x3 sg)
  unfold fX4_comesBy
  refine q_iload_n (pc := 0) dX4_comesBy_0 rfl ?_
  refine q_istore (pc := 1) dX4_comesBy_1 (by decide) ?_
  refine qJ_weak [some (.ref (b + k0)), none, some (.int x2), some (.int x3), some (.int x1)] ⟨rfl, rfl, rfl, rfl, trivial⟩ ?_
  exact tX4_comesBy_3 hK h0 qfu x2 x3 x1 sg
-- LineSearchModel.aheadOf(I)I
def fX4_aheadOf_6 (k0 : Nat) : Nat → Int32 → Int32 → Int32 → qSt → qR
  | 0, _, _, _, _ => none
  | n + 1, x1, x2, x3, sg =>
    if x1 ≤ x3 then
      some (x2, sg)
    else
    if qin x3 (qlen (k0 + 3)) then
    fX4_aheadOf_6 k0 n x1 ((x2 + ((sg (k0 + 3) (Int32.toNatClampNeg x3)) * ((sg k0 2) + (sg k0 3))))) ((x3 + 2)) sg
    else none
set_option maxRecDepth 20000 in
set_option maxHeartbeats 4000000 in
theorem tX4_aheadOf_6 {b : Nat} {K : List Nat} (hK : qOk K) {k0 : Nat} (h0 : qIn K k0 4) : ∀ (n : Nat) (x1 x2 x3 : Int32) (sg : qSt), qJ RX4 cX4_aheadOf 4 0 0 false (fun _ _ => True) b K 6 [some (.ref (b + k0)), some (.int x1), some (.int x2), some (.int x3)] [] sg (fX4_aheadOf_6 k0 n x1 x2 x3 sg) := by
  intro n
  induction n with
  | zero => intro x1 x2 x3 sg; exact qJ_none
  | succ n ih =>
    intro x1 x2 x3 sg
    unfold fX4_aheadOf_6
    refine q_iload_n (pc := 6) dX4_aheadOf_6 rfl ?_
    refine q_iload_n (pc := 7) dX4_aheadOf_7 rfl ?_
    refine q_icmp_ge (pc := 8) 36 dX4_aheadOf_8 (by decide) ?_ ?_
    · refine q_iload_n (pc := 36) dX4_aheadOf_36 rfl ?_
      exact q_ireturn (pc := 37) dX4_aheadOf_37
    refine q_iload_n (pc := 11) dX4_aheadOf_11 rfl ?_
    refine q_aload_n (pc := 12) dX4_aheadOf_12 rfl ?_
    refine qg_4_7 (pc := 13) dX4_aheadOf_13 h0 lf_X4_29 ?_
    refine q_iload_n (pc := 16) dX4_aheadOf_16 rfl ?_
    refine q_iald (pc := 17) dX4_aheadOf_17 (qch_4_7 hK h0) ?_
    refine q_aload_n (pc := 18) dX4_aheadOf_18 rfl ?_
    refine qg_4_2 (pc := 19) dX4_aheadOf_19 h0 lf_X4_16 ?_
    refine q_aload_n (pc := 22) dX4_aheadOf_22 rfl ?_
    refine qg_4_3 (pc := 23) dX4_aheadOf_23 h0 lf_X4_19 ?_
    refine q_iadd (pc := 26) dX4_aheadOf_26 ?_
    refine q_imul (pc := 27) dX4_aheadOf_27 ?_
    refine q_iadd (pc := 28) dX4_aheadOf_28 ?_
    refine q_istore_n (pc := 29) dX4_aheadOf_29 (by decide) ?_
    refine q_iinc (pc := 30) 2 dX4_aheadOf_30 rfl (by decide) (by decide) ?_
    refine q_goto (pc := 33) 6 dX4_aheadOf_33 (by decide) ?_
    exact ih x1 ((x2 + ((sg (k0 + 3) (Int32.toNatClampNeg x3)) * ((sg k0 2) + (sg k0 3))))) ((x3 + 2)) sg
def fX4_aheadOf (k0 : Nat) (x1 : Int32) (sg : qSt) : qR :=
  fX4_aheadOf_6 k0 qfu x1 0 ((x1 - x1 / 2 * 2)) sg
set_option maxRecDepth 20000 in
set_option maxHeartbeats 4000000 in
theorem sX4_aheadOf {b : Nat} {K : List Nat} (hK : qOk K) {k0 : Nat} (h0 : qIn K k0 4) (x1 : Int32) (sg : qSt) : qS yX4_aheadOf cX4_aheadOf 4 (some .int) 0 0 b K [.ref (b + k0), .int x1] sg (fX4_aheadOf k0 x1 sg) := by
  refine qS_of (own := RX4) rfl (by decide) hK.1 (by simp [Value.category]) (Nat.le_of_ble_eq_true rfl) (fun z _ ty h => by cases h; exact vp_nar_int _) ?_
  show qJ RX4 cX4_aheadOf 4 0 0 false (fun _ _ => True) b K 0 [some (.ref (b + k0)), some (.int x1), none, none] [] sg (fX4_aheadOf k0 x1 sg)
  unfold fX4_aheadOf
  refine q_iconst (pc := 0) 0 dX4_aheadOf_0 (by decide) ?_
  refine q_istore_n (pc := 1) dX4_aheadOf_1 (by decide) ?_
  refine q_iload_n (pc := 2) dX4_aheadOf_2 rfl ?_
  refine q_iconst (pc := 3) 2 dX4_aheadOf_3 (by decide) ?_
  refine q_iremc (pc := 4) dX4_aheadOf_4 (by decide) ?_
  refine q_istore_n (pc := 5) dX4_aheadOf_5 (by decide) ?_
  exact tX4_aheadOf_6 hK h0 qfu x1 0 ((x1 - x1 / 2 * 2)) sg
-- LineSearchModel.both(III)I
def fX4_both_98 (k0 : Nat) (x2 x3 y0 : Int32) (sg : qSt) : qR :=
    qb (fX4_aheadOf k0 y0 sg) fun r1 s2 =>
    if x3 = 0 then
      some ((r1 + ((s2 k0 2) * x2)), s2)
    else
    if x3 = 1 then
      qb (fX4_aheadOf k0 y0 s2) fun r3 s4 =>
      if qin y0 (qlen (k0 + 3)) then
      some ((r3 + ((s4 (k0 + 3) (Int32.toNatClampNeg y0)) * ((s4 k0 2) + (s4 k0 3)))), s4)
      else none
    else
    if x3 = 2 then
      some ((y0 - y0 / 2 * 2), s2)
    else
    qb (fX4_term (r1 + ((s2 k0 2) * x2)) ((s2 k0 2) * x2) (x3 - 3) s2) fun r5 s6 =>
    some (r5, s6)
set_option maxRecDepth 20000 in
set_option maxHeartbeats 4000000 in
theorem tX4_both_98 {b : Nat} {K : List Nat} (hK : qOk K) {k0 : Nat} (h0 : qIn K k0 4) : ∀ (x2 x3 y0 : Int32) (sg : qSt), qJ RX4 cX4_both 9 2 46 false (fun _ _ => True) b K 98 [some (.ref (b + k0)), none, some (.int x2), some (.int x3), none, none, none, none, none] [.int y0] sg (fX4_both_98 k0 x2 x3 y0 sg) := by
  intro x2 x3 y0 sg
  unfold fX4_both_98
  refine q_istore (pc := 98) dX4_both_98 (by decide) ?_
  refine q_aload_n (pc := 100) dX4_both_100 rfl ?_
  refine q_iload (pc := 101) dX4_both_101 rfl ?_
  refine q_callVi (pc := 103) [.int y0] dX4_both_103 lm_X4_133 yX4_aheadOf_ok yX4_aheadOf_in h0 (by decide) rfl (sX4_aheadOf hK h0 y0 sg) rfl rfl (Nat.le_of_ble_eq_true rfl) ⟨by decide, by decide⟩ (fun r1 s2 => ?_)
  refine q_aload_n (pc := 106) dX4_both_106 rfl ?_
  refine qg_4_2 (pc := 107) dX4_both_107 h0 lf_X4_16 ?_
  refine q_iload_n (pc := 110) dX4_both_110 rfl ?_
  refine q_imul (pc := 111) dX4_both_111 ?_
  refine q_iadd (pc := 112) dX4_both_112 ?_
  refine q_istore (pc := 113) dX4_both_113 (by decide) ?_
  refine q_iload_n (pc := 115) dX4_both_115 rfl ?_
  refine q_sel (fun hx116_0 => ?_) (fun hx116_0 => ?_)
  · refine q_tabIn (pc := 116) 144 dX4_both_116 (by rw [hx116_0]; decide) (by rw [hx116_0]; decide) (by rw [hx116_0]; rfl) (by decide) ?_
    refine q_iload (pc := 144) dX4_both_144 rfl ?_
    exact q_ireturn (pc := 146) dX4_both_146
  refine q_sel (fun hx116_1 => ?_) (fun hx116_1 => ?_)
  · refine q_tabIn (pc := 116) 147 dX4_both_116 (by rw [hx116_1]; decide) (by rw [hx116_1]; decide) (by rw [hx116_1]; rfl) (by decide) ?_
    refine q_aload_n (pc := 147) dX4_both_147 rfl ?_
    refine q_iload (pc := 148) dX4_both_148 rfl ?_
    refine q_callVi (pc := 150) [.int y0] dX4_both_150 lm_X4_133 yX4_aheadOf_ok yX4_aheadOf_in h0 (by decide) rfl (sX4_aheadOf hK h0 y0 s2) rfl rfl (Nat.le_of_ble_eq_true rfl) ⟨by decide, by decide⟩ (fun r3 s4 => ?_)
    refine q_aload_n (pc := 153) dX4_both_153 rfl ?_
    refine qg_4_7 (pc := 154) dX4_both_154 h0 lf_X4_29 ?_
    refine q_iload (pc := 157) dX4_both_157 rfl ?_
    refine q_iald (pc := 159) dX4_both_159 (qch_4_7 hK h0) ?_
    refine q_aload_n (pc := 160) dX4_both_160 rfl ?_
    refine qg_4_2 (pc := 161) dX4_both_161 h0 lf_X4_16 ?_
    refine q_aload_n (pc := 164) dX4_both_164 rfl ?_
    refine qg_4_3 (pc := 165) dX4_both_165 h0 lf_X4_19 ?_
    refine q_iadd (pc := 168) dX4_both_168 ?_
    refine q_imul (pc := 169) dX4_both_169 ?_
    refine q_iadd (pc := 170) dX4_both_170 ?_
    exact q_ireturn (pc := 171) dX4_both_171
  refine q_sel (fun hx116_2 => ?_) (fun hx116_2 => ?_)
  · refine q_tabIn (pc := 116) 172 dX4_both_116 (by rw [hx116_2]; decide) (by rw [hx116_2]; decide) (by rw [hx116_2]; rfl) (by decide) ?_
    refine q_iload (pc := 172) dX4_both_172 rfl ?_
    refine q_iconst (pc := 174) 2 dX4_both_174 (by decide) ?_
    refine q_iremc (pc := 175) dX4_both_175 (by decide) ?_
    exact q_ireturn (pc := 176) dX4_both_176
  refine q_tabOut (pc := 116) 177 dX4_both_116 (by have := qne 0 0 (by decide) hx116_0; have := qne 1 1 (by decide) hx116_1; have := qne 2 2 (by decide) hx116_2; omega) (by decide) ?_
  refine q_iload (pc := 177) dX4_both_177 rfl ?_
  refine q_aload_n (pc := 179) dX4_both_179 rfl ?_
  refine qg_4_2 (pc := 180) dX4_both_180 h0 lf_X4_16 ?_
  refine q_iload_n (pc := 183) dX4_both_183 rfl ?_
  refine q_imul (pc := 184) dX4_both_184 ?_
  refine q_iload_n (pc := 185) dX4_both_185 rfl ?_
  refine q_iconst (pc := 186) 3 dX4_both_186 (by decide) ?_
  refine q_isub (pc := 187) dX4_both_187 ?_
  refine q_callSi (pc := 188) [.int ((r1 + ((s2 k0 2) * x2))), .int (((s2 k0 2) * x2)), .int ((x3 - 3))] dX4_both_188 lm_X4_69 yX4_term_ok yX4_term_in (sX4_term hK (r1 + ((s2 k0 2) * x2)) ((s2 k0 2) * x2) (x3 - 3) s2) rfl rfl (Nat.le_of_ble_eq_true rfl) ⟨by decide, by decide⟩ (fun r5 s6 => ?_)
  exact q_ireturn (pc := 191) dX4_both_191
def fX4_both_84 (k0 : Nat) (x2 x3 x4 x5 y0 : Int32) (sg : qSt) : qR :=
    if y0 = 0 then
      fX4_both_98 k0 x2 x3 x5 sg
    else
    fX4_both_98 k0 x2 x3 x4 sg
set_option maxRecDepth 20000 in
set_option maxHeartbeats 4000000 in
theorem tX4_both_84 {b : Nat} {K : List Nat} (hK : qOk K) {k0 : Nat} (h0 : qIn K k0 4) : ∀ (x2 x3 x4 x5 y0 : Int32) (sg : qSt), qJ RX4 cX4_both 9 2 46 false (fun _ _ => True) b K 84 [some (.ref (b + k0)), none, some (.int x2), some (.int x3), some (.int x4), some (.int x5), none, none, none] [.int y0] sg (fX4_both_84 k0 x2 x3 x4 x5 y0 sg) := by
  intro x2 x3 x4 x5 y0 sg
  unfold fX4_both_84
  refine q_istore (pc := 84) dX4_both_84 (by decide) ?_
  refine q_iload (pc := 86) dX4_both_86 rfl ?_
  refine q_if_eq (pc := 88) 96 dX4_both_88 (by decide) ?_ ?_
  · refine q_iload (pc := 96) dX4_both_96 rfl ?_
    refine qJ_weak [some (.ref (b + k0)), none, some (.int x2), some (.int x3), none, none, none, none, none] ⟨rfl, rfl, rfl, trivial⟩ ?_
    exact tX4_both_98 hK h0 x2 x3 x5 sg
  refine q_iload (pc := 91) dX4_both_91 rfl ?_
  refine q_goto (pc := 93) 98 dX4_both_93 (by decide) ?_
  refine qJ_weak [some (.ref (b + k0)), none, some (.int x2), some (.int x3), none, none, none, none, none] ⟨rfl, rfl, rfl, trivial⟩ ?_
  exact tX4_both_98 hK h0 x2 x3 x4 sg
def fX4_both_54 (k0 : Nat) (x2 x3 x4 x5 : Int32) (sg : qSt) : qR :=
    if x5 < 0 then
      fX4_both_84 k0 x2 x3 x4 x5 1 sg
    else
    if x4 < 0 then
      fX4_both_84 k0 x2 x3 x4 x5 0 sg
    else
    qb (fX4_aheadOf k0 x4 sg) fun r1 s2 =>
    qb (fX4_aheadOf k0 x5 s2) fun r3 s4 =>
    if r3 < r1 then
      fX4_both_84 k0 x2 x3 x4 x5 0 s4
    else
    fX4_both_84 k0 x2 x3 x4 x5 1 s4
set_option maxRecDepth 20000 in
set_option maxHeartbeats 4000000 in
theorem tX4_both_54 {b : Nat} {K : List Nat} (hK : qOk K) {k0 : Nat} (h0 : qIn K k0 4) : ∀ (x2 x3 x4 x5 : Int32) (sg : qSt), qJ RX4 cX4_both 9 2 46 false (fun _ _ => True) b K 54 [some (.ref (b + k0)), none, some (.int x2), some (.int x3), some (.int x4), some (.int x5), none, none, none] [] sg (fX4_both_54 k0 x2 x3 x4 x5 sg) := by
  intro x2 x3 x4 x5 sg
  unfold fX4_both_54
  refine q_iload (pc := 54) dX4_both_54 rfl ?_
  refine q_if_lt (pc := 56) 79 dX4_both_56 (by decide) ?_ ?_
  · refine q_iconst (pc := 79) 1 dX4_both_79 (by decide) ?_
    refine q_goto (pc := 80) 84 dX4_both_80 (by decide) ?_
    exact tX4_both_84 hK h0 x2 x3 x4 x5 1 sg
  refine q_iload (pc := 59) dX4_both_59 rfl ?_
  refine q_if_lt (pc := 61) 83 dX4_both_61 (by decide) ?_ ?_
  · refine q_iconst (pc := 83) 0 dX4_both_83 (by decide) ?_
    exact tX4_both_84 hK h0 x2 x3 x4 x5 0 sg
  refine q_aload_n (pc := 64) dX4_both_64 rfl ?_
  refine q_iload (pc := 65) dX4_both_65 rfl ?_
  refine q_callVi (pc := 67) [.int x4] dX4_both_67 lm_X4_133 yX4_aheadOf_ok yX4_aheadOf_in h0 (by decide) rfl (sX4_aheadOf hK h0 x4 sg) rfl rfl (Nat.le_of_ble_eq_true rfl) ⟨by decide, by decide⟩ (fun r1 s2 => ?_)
  refine q_aload_n (pc := 70) dX4_both_70 rfl ?_
  refine q_iload (pc := 71) dX4_both_71 rfl ?_
  refine q_callVi (pc := 73) [.int x5] dX4_both_73 lm_X4_133 yX4_aheadOf_ok yX4_aheadOf_in h0 (by decide) rfl (sX4_aheadOf hK h0 x5 s2) rfl rfl (Nat.le_of_ble_eq_true rfl) ⟨by decide, by decide⟩ (fun r3 s4 => ?_)
  refine q_icmp_gt (pc := 76) 83 dX4_both_76 (by decide) ?_ ?_
  · refine q_iconst (pc := 83) 0 dX4_both_83 (by decide) ?_
    exact tX4_both_84 hK h0 x2 x3 x4 x5 0 s4
  refine q_iconst (pc := 79) 1 dX4_both_79 (by decide) ?_
  refine q_goto (pc := 80) 84 dX4_both_80 (by decide) ?_
  exact tX4_both_84 hK h0 x2 x3 x4 x5 1 s4
def fX4_both (k0 : Nat) (x1 x2 x3 : Int32) (sg : qSt) : qR :=
  qb (fX4_isPlace k0 x1 x2 sg) fun r1 s2 =>
  if r1 = 0 then
    some ((-1), s2)
  else
  qb (fX4_in x3 0 4 s2) fun r3 s4 =>
  if r3 = 0 then
    some ((-2), s4)
  else
  qb (fX4_comesBy k0 0 x1 x2 s4) fun r5 s6 =>
  qb (fX4_comesBy k0 1 x1 x2 s6) fun r7 s8 =>
  if 0 ≤ r5 then
    fX4_both_54 k0 x2 x3 r5 r7 s8
  else
  if 0 ≤ r7 then
    fX4_both_54 k0 x2 x3 r5 r7 s8
  else
  some ((-6), s8)
set_option maxRecDepth 20000 in
set_option maxHeartbeats 4000000 in
theorem sX4_both {b : Nat} {K : List Nat} (hK : qOk K) {k0 : Nat} (h0 : qIn K k0 4) (x1 x2 x3 : Int32) (sg : qSt) : qS yX4_both cX4_both 9 (some .int) 2 46 b K [.ref (b + k0), .int x1, .int x2, .int x3] sg (fX4_both k0 x1 x2 x3 sg) := by
  refine qS_of (own := RX4) rfl (by decide) hK.1 (by simp [Value.category]) (Nat.le_of_ble_eq_true rfl) (fun z _ ty h => by cases h; exact vp_nar_int _) ?_
  show qJ RX4 cX4_both 9 2 46 false (fun _ _ => True) b K 0 [some (.ref (b + k0)), some (.int x1), some (.int x2), some (.int x3), none, none, none, none, none] [] sg (fX4_both k0 x1 x2 x3 sg)
  unfold fX4_both
  refine q_aload_n (pc := 0) dX4_both_0 rfl ?_
  refine q_iload_n (pc := 1) dX4_both_1 rfl ?_
  refine q_iload_n (pc := 2) dX4_both_2 rfl ?_
  refine q_callVi (pc := 3) [.int x1, .int x2] dX4_both_3 lm_X4_51 yX4_isPlace_ok yX4_isPlace_in h0 (by decide) rfl (sX4_isPlace hK h0 x1 x2 sg) rfl rfl (Nat.le_of_ble_eq_true rfl) ⟨by decide, by decide⟩ (fun r1 s2 => ?_)
  refine q_if_ne (pc := 6) 11 dX4_both_6 (by decide) ?_ ?_
  · refine q_iload_n (pc := 11) dX4_both_11 rfl ?_
    refine q_iconst (pc := 12) 0 dX4_both_12 (by decide) ?_
    refine q_iconst (pc := 13) 4 dX4_both_13 (by decide) ?_
    refine q_callSi (pc := 14) [.int x3, .int 0, .int 4] dX4_both_14 lm_X4_47 yX4_in_ok yX4_in_in (sX4_in hK x3 0 4 s2) rfl rfl (Nat.le_of_ble_eq_true rfl) ⟨by decide, by decide⟩ (fun r3 s4 => ?_)
    refine q_if_ne (pc := 17) 23 dX4_both_17 (by decide) ?_ ?_
    · refine q_aload_n (pc := 23) dX4_both_23 rfl ?_
      refine q_iconst (pc := 24) 0 dX4_both_24 (by decide) ?_
      refine q_iload_n (pc := 25) dX4_both_25 rfl ?_
      refine q_iload_n (pc := 26) dX4_both_26 rfl ?_
      refine q_callVi (pc := 27) [.int 0, .int x1, .int x2] dX4_both_27 lm_X4_130 yX4_comesBy_ok yX4_comesBy_in h0 (by decide) rfl (sX4_comesBy hK h0 0 x1 x2 s4) rfl rfl (Nat.le_of_ble_eq_true rfl) ⟨by decide, by decide⟩ (fun r5 s6 => ?_)
      refine q_istore (pc := 30) dX4_both_30 (by decide) ?_
      refine q_aload_n (pc := 32) dX4_both_32 rfl ?_
      refine q_iconst (pc := 33) 1 dX4_both_33 (by decide) ?_
      refine q_iload_n (pc := 34) dX4_both_34 rfl ?_
      refine q_iload_n (pc := 35) dX4_both_35 rfl ?_
      refine q_callVi (pc := 36) [.int 1, .int x1, .int x2] dX4_both_36 lm_X4_130 yX4_comesBy_ok yX4_comesBy_in h0 (by decide) rfl (sX4_comesBy hK h0 1 x1 x2 s6) rfl rfl (Nat.le_of_ble_eq_true rfl) ⟨by decide, by decide⟩ (fun r7 s8 => ?_)
      refine q_istore (pc := 39) dX4_both_39 (by decide) ?_
      refine q_iload (pc := 41) dX4_both_41 rfl ?_
      refine q_if_ge (pc := 43) 54 dX4_both_43 (by decide) ?_ ?_
      · refine qJ_weak [some (.ref (b + k0)), none, some (.int x2), some (.int x3), some (.int r5), some (.int r7), none, none, none] ⟨rfl, rfl, rfl, rfl, rfl, trivial⟩ ?_
        exact tX4_both_54 hK h0 x2 x3 r5 r7 s8
      refine q_iload (pc := 46) dX4_both_46 rfl ?_
      refine q_if_ge (pc := 48) 54 dX4_both_48 (by decide) ?_ ?_
      · refine qJ_weak [some (.ref (b + k0)), none, some (.int x2), some (.int x3), some (.int r5), some (.int r7), none, none, none] ⟨rfl, rfl, rfl, rfl, rfl, trivial⟩ ?_
        exact tX4_both_54 hK h0 x2 x3 r5 r7 s8
      refine q_bipush (pc := 51) (-6) dX4_both_51 (by decide) ?_
      exact q_ireturn (pc := 53) dX4_both_53
    refine q_bipush (pc := 20) (-2) dX4_both_20 (by decide) ?_
    exact q_ireturn (pc := 22) dX4_both_22
  refine q_iconst (pc := 9) (-1) dX4_both_9 (by decide) ?_
  exact q_ireturn (pc := 10) dX4_both_10
-- LineSearchModel.end()I
def fX4_end_41 (k0 : Nat) (c6 : Int32 → Int32 → Int32 → qSt → qR) (x2 x3 y0 y1 : Int32) (sg : qSt) : qR :=
    if (x3 - x3 / 2 * 2) = 1 then
      if qin x3 (qlen (k0 + 3)) then
      c6 ((y0 + y1)) ((x2 + ((sg (k0 + 3) (Int32.toNatClampNeg x3)) * ((sg k0 2) + (sg k0 3))))) ((x3 + 1)) sg
      else none
    else
    c6 ((y0 + y1)) ((x2 + 0)) ((x3 + 1)) sg
set_option maxRecDepth 20000 in
set_option maxHeartbeats 4000000 in
theorem tX4_end_41 {b : Nat} {K : List Nat} (hK : qOk K) {k0 : Nat} {c6 : Int32 → Int32 → Int32 → qSt → qR} (h0 : qIn K k0 4) (hc6 : ∀ (x1 x2 x3 : Int32) (sg : qSt), qJ RX4 cX4_end 4 0 0 false (fun _ _ => True) b K 6 [some (.ref (b + k0)), some (.int x1), some (.int x2), some (.int x3)] [] sg (c6 x1 x2 x3 sg)) : ∀ (x2 x3 y0 y1 : Int32) (sg : qSt), qJ RX4 cX4_end 4 0 0 false (fun _ _ => True) b K 41 [some (.ref (b + k0)), none, some (.int x2), some (.int x3)] [.int y1, .int y0] sg (fX4_end_41 k0 c6 x2 x3 y0 y1 sg) := by
  intro x2 x3 y0 y1 sg
  unfold fX4_end_41
  refine q_iadd (pc := 41) dX4_end_41 ?_
  refine q_istore_n (pc := 42) dX4_end_42 (by decide) ?_
  refine q_iload_n (pc := 43) dX4_end_43 rfl ?_
  refine q_iload_n (pc := 44) dX4_end_44 rfl ?_
  refine q_iconst (pc := 45) 2 dX4_end_45 (by decide) ?_
  refine q_iremc (pc := 46) dX4_end_46 (by decide) ?_
  refine q_iconst (pc := 47) 1 dX4_end_47 (by decide) ?_
  refine q_icmp_ne (pc := 48) 70 dX4_end_48 (by decide) ?_ ?_
  · refine q_iconst (pc := 70) 0 dX4_end_70 (by decide) ?_
    refine q_iadd (pc := 71) dX4_end_71 ?_
    refine q_istore_n (pc := 72) dX4_end_72 (by decide) ?_
    refine q_iinc (pc := 73) 1 dX4_end_73 rfl (by decide) (by decide) ?_
    refine q_goto (pc := 76) 6 dX4_end_76 (by decide) ?_
    exact hc6 ((y0 + y1)) ((x2 + 0)) ((x3 + 1)) sg
  refine q_aload_n (pc := 51) dX4_end_51 rfl ?_
  refine qg_4_7 (pc := 52) dX4_end_52 h0 lf_X4_29 ?_
  refine q_iload_n (pc := 55) dX4_end_55 rfl ?_
  refine q_iald (pc := 56) dX4_end_56 (qch_4_7 hK h0) ?_
  refine q_aload_n (pc := 57) dX4_end_57 rfl ?_
  refine qg_4_2 (pc := 58) dX4_end_58 h0 lf_X4_16 ?_
  refine q_aload_n (pc := 61) dX4_end_61 rfl ?_
  refine qg_4_3 (pc := 62) dX4_end_62 h0 lf_X4_19 ?_
  refine q_iadd (pc := 65) dX4_end_65 ?_
  refine q_imul (pc := 66) dX4_end_66 ?_
  refine q_goto (pc := 67) 71 dX4_end_67 (by decide) ?_
  refine q_iadd (pc := 71) dX4_end_71 ?_
  refine q_istore_n (pc := 72) dX4_end_72 (by decide) ?_
  refine q_iinc (pc := 73) 1 dX4_end_73 rfl (by decide) (by decide) ?_
  refine q_goto (pc := 76) 6 dX4_end_76 (by decide) ?_
  exact hc6 ((y0 + y1)) ((x2 + ((sg (k0 + 3) (Int32.toNatClampNeg x3)) * ((sg k0 2) + (sg k0 3))))) ((x3 + 1)) sg
def fX4_end_6 (k0 : Nat) : Nat → Int32 → Int32 → Int32 → qSt → qR
  | 0, _, _, _, _ => none
  | n + 1, x1, x2, x3, sg =>
    if (sg k0 5) ≤ x3 then
      if x1 ≤ x2 then
        some (x2, sg)
      else
      some (x1, sg)
    else
    if (x3 - x3 / 2 * 2) = 0 then
      if qin x3 (qlen (k0 + 3)) then
      fX4_end_41 k0 (fun z1 z2 z3 sg => fX4_end_6 k0 n z1 z2 z3 sg) x2 x3 x1 (((sg (k0 + 3) (Int32.toNatClampNeg x3)) * ((sg k0 2) + (sg k0 3)))) sg
      else none
    else
    fX4_end_41 k0 (fun z1 z2 z3 sg => fX4_end_6 k0 n z1 z2 z3 sg) x2 x3 x1 0 sg
set_option maxRecDepth 20000 in
set_option maxHeartbeats 4000000 in
theorem tX4_end_6 {b : Nat} {K : List Nat} (hK : qOk K) {k0 : Nat} (h0 : qIn K k0 4) : ∀ (n : Nat) (x1 x2 x3 : Int32) (sg : qSt), qJ RX4 cX4_end 4 0 0 false (fun _ _ => True) b K 6 [some (.ref (b + k0)), some (.int x1), some (.int x2), some (.int x3)] [] sg (fX4_end_6 k0 n x1 x2 x3 sg) := by
  intro n
  induction n with
  | zero => intro x1 x2 x3 sg; exact qJ_none
  | succ n ih =>
    intro x1 x2 x3 sg
    unfold fX4_end_6
    refine q_iload_n (pc := 6) dX4_end_6 rfl ?_
    refine q_aload_n (pc := 7) dX4_end_7 rfl ?_
    refine qg_4_5 (pc := 8) dX4_end_8 h0 lf_X4_44 ?_
    refine q_icmp_ge (pc := 11) 79 dX4_end_11 (by decide) ?_ ?_
    · refine q_iload_n (pc := 79) dX4_end_79 rfl ?_
      refine q_iload_n (pc := 80) dX4_end_80 rfl ?_
      refine q_icmp_le (pc := 81) 88 dX4_end_81 (by decide) ?_ ?_
      · refine q_iload_n (pc := 88) dX4_end_88 rfl ?_
        exact q_ireturn (pc := 89) dX4_end_89
      refine q_iload_n (pc := 84) dX4_end_84 rfl ?_
      refine q_goto (pc := 85) 89 dX4_end_85 (by decide) ?_
      exact q_ireturn (pc := 89) dX4_end_89
    refine q_iload_n (pc := 14) dX4_end_14 rfl ?_
    refine q_iload_n (pc := 15) dX4_end_15 rfl ?_
    refine q_iconst (pc := 16) 2 dX4_end_16 (by decide) ?_
    refine q_iremc (pc := 17) dX4_end_17 (by decide) ?_
    refine q_if_ne (pc := 18) 40 dX4_end_18 (by decide) ?_ ?_
    · refine q_iconst (pc := 40) 0 dX4_end_40 (by decide) ?_
      refine qJ_weak [some (.ref (b + k0)), none, some (.int x2), some (.int x3)] ⟨rfl, rfl, rfl, trivial⟩ ?_
      exact tX4_end_41 hK h0 (fun z1 z2 z3 sg => ih z1 z2 z3 sg) x2 x3 x1 0 sg
    refine q_aload_n (pc := 21) dX4_end_21 rfl ?_
    refine qg_4_7 (pc := 22) dX4_end_22 h0 lf_X4_29 ?_
    refine q_iload_n (pc := 25) dX4_end_25 rfl ?_
    refine q_iald (pc := 26) dX4_end_26 (qch_4_7 hK h0) ?_
    refine q_aload_n (pc := 27) dX4_end_27 rfl ?_
    refine qg_4_2 (pc := 28) dX4_end_28 h0 lf_X4_16 ?_
    refine q_aload_n (pc := 31) dX4_end_31 rfl ?_
    refine qg_4_3 (pc := 32) dX4_end_32 h0 lf_X4_19 ?_
    refine q_iadd (pc := 35) dX4_end_35 ?_
    refine q_imul (pc := 36) dX4_end_36 ?_
    refine q_goto (pc := 37) 41 dX4_end_37 (by decide) ?_
    refine qJ_weak [some (.ref (b + k0)), none, some (.int x2), some (.int x3)] ⟨rfl, rfl, rfl, trivial⟩ ?_
    exact tX4_end_41 hK h0 (fun z1 z2 z3 sg => ih z1 z2 z3 sg) x2 x3 x1 (((sg (k0 + 3) (Int32.toNatClampNeg x3)) * ((sg k0 2) + (sg k0 3)))) sg
def fX4_end (k0 : Nat) (sg : qSt) : qR :=
  fX4_end_6 k0 qfu 0 0 0 sg
set_option maxRecDepth 20000 in
set_option maxHeartbeats 4000000 in
theorem sX4_end {b : Nat} {K : List Nat} (hK : qOk K) {k0 : Nat} (h0 : qIn K k0 4) (sg : qSt) : qS yX4_end cX4_end 4 (some .int) 0 0 b K [.ref (b + k0)] sg (fX4_end k0 sg) := by
  refine qS_of (own := RX4) rfl (by decide) hK.1 (by simp [Value.category]) (Nat.le_of_ble_eq_true rfl) (fun z _ ty h => by cases h; exact vp_nar_int _) ?_
  show qJ RX4 cX4_end 4 0 0 false (fun _ _ => True) b K 0 [some (.ref (b + k0)), none, none, none] [] sg (fX4_end k0 sg)
  unfold fX4_end
  refine q_iconst (pc := 0) 0 dX4_end_0 (by decide) ?_
  refine q_istore_n (pc := 1) dX4_end_1 (by decide) ?_
  refine q_iconst (pc := 2) 0 dX4_end_2 (by decide) ?_
  refine q_istore_n (pc := 3) dX4_end_3 (by decide) ?_
  refine q_iconst (pc := 4) 0 dX4_end_4 (by decide) ?_
  refine q_istore_n (pc := 5) dX4_end_5 (by decide) ?_
  exact tX4_end_6 hK h0 qfu 0 0 0 sg
-- LineSearchModel.told(I)I
def fX4_told (k0 : Nat) (x1 : Int32) (sg : qSt) : qR :=
  if x1 = 0 then
    some ((sg k0 0), sg)
  else
  if x1 = 1 then
    some ((sg k0 1), sg)
  else
  if x1 = 2 then
    some ((sg k0 2), sg)
  else
  if x1 = 3 then
    some ((sg k0 3), sg)
  else
  if x1 = 4 then
    some ((sg k0 5), sg)
  else
  if x1 = 5 then
    qb (fX4_rest k0 0 sg) fun r1 s2 =>
    some (r1, s2)
  else
  if x1 = 6 then
    qb (fX4_costAhead k0 (sg k0 5) sg) fun r3 s4 =>
    some (r3, s4)
  else
  some ((-2), sg)
set_option maxRecDepth 20000 in
set_option maxHeartbeats 4000000 in
theorem sX4_told {b : Nat} {K : List Nat} (hK : qOk K) {k0 : Nat} (h0 : qIn K k0 4) (x1 : Int32) (sg : qSt) : qS yX4_told cX4_told 2 (some .int) 3 65 b K [.ref (b + k0), .int x1] sg (fX4_told k0 x1 sg) := by
  refine qS_of (own := RX4) rfl (by decide) hK.1 (by simp [Value.category]) (Nat.le_of_ble_eq_true rfl) (fun z _ ty h => by cases h; exact vp_nar_int _) ?_
  show qJ RX4 cX4_told 2 3 65 false (fun _ _ => True) b K 0 [some (.ref (b + k0)), some (.int x1)] [] sg (fX4_told k0 x1 sg)
  unfold fX4_told
  refine q_iload_n (pc := 0) dX4_told_0 rfl ?_
  refine q_sel (fun hx1_0 => ?_) (fun hx1_0 => ?_)
  · refine q_tabIn (pc := 1) 44 dX4_told_1 (by rw [hx1_0]; decide) (by rw [hx1_0]; decide) (by rw [hx1_0]; rfl) (by decide) ?_
    refine q_aload_n (pc := 44) dX4_told_44 rfl ?_
    refine qg_4_0 (pc := 45) dX4_told_45 h0 lf_X4_7 ?_
    exact q_ireturn (pc := 48) dX4_told_48
  refine q_sel (fun hx1_1 => ?_) (fun hx1_1 => ?_)
  · refine q_tabIn (pc := 1) 49 dX4_told_1 (by rw [hx1_1]; decide) (by rw [hx1_1]; decide) (by rw [hx1_1]; rfl) (by decide) ?_
    refine q_aload_n (pc := 49) dX4_told_49 rfl ?_
    refine qg_4_1 (pc := 50) dX4_told_50 h0 lf_X4_13 ?_
    exact q_ireturn (pc := 53) dX4_told_53
  refine q_sel (fun hx1_2 => ?_) (fun hx1_2 => ?_)
  · refine q_tabIn (pc := 1) 54 dX4_told_1 (by rw [hx1_2]; decide) (by rw [hx1_2]; decide) (by rw [hx1_2]; rfl) (by decide) ?_
    refine q_aload_n (pc := 54) dX4_told_54 rfl ?_
    refine qg_4_2 (pc := 55) dX4_told_55 h0 lf_X4_16 ?_
    exact q_ireturn (pc := 58) dX4_told_58
  refine q_sel (fun hx1_3 => ?_) (fun hx1_3 => ?_)
  · refine q_tabIn (pc := 1) 59 dX4_told_1 (by rw [hx1_3]; decide) (by rw [hx1_3]; decide) (by rw [hx1_3]; rfl) (by decide) ?_
    refine q_aload_n (pc := 59) dX4_told_59 rfl ?_
    refine qg_4_3 (pc := 60) dX4_told_60 h0 lf_X4_19 ?_
    exact q_ireturn (pc := 63) dX4_told_63
  refine q_sel (fun hx1_4 => ?_) (fun hx1_4 => ?_)
  · refine q_tabIn (pc := 1) 64 dX4_told_1 (by rw [hx1_4]; decide) (by rw [hx1_4]; decide) (by rw [hx1_4]; rfl) (by decide) ?_
    refine q_aload_n (pc := 64) dX4_told_64 rfl ?_
    refine qg_4_5 (pc := 65) dX4_told_65 h0 lf_X4_44 ?_
    exact q_ireturn (pc := 68) dX4_told_68
  refine q_sel (fun hx1_5 => ?_) (fun hx1_5 => ?_)
  · refine q_tabIn (pc := 1) 69 dX4_told_1 (by rw [hx1_5]; decide) (by rw [hx1_5]; decide) (by rw [hx1_5]; rfl) (by decide) ?_
    refine q_aload_n (pc := 69) dX4_told_69 rfl ?_
    refine q_iconst (pc := 70) 0 dX4_told_70 (by decide) ?_
    refine q_callVi (pc := 71) [.int 0] dX4_told_71 lm_X4_82 yX4_rest_ok yX4_rest_in h0 (by decide) rfl (sX4_rest hK h0 0 sg) rfl rfl (Nat.le_of_ble_eq_true rfl) ⟨by decide, by decide⟩ (fun r1 s2 => ?_)
    exact q_ireturn (pc := 74) dX4_told_74
  refine q_sel (fun hx1_6 => ?_) (fun hx1_6 => ?_)
  · refine q_tabIn (pc := 1) 75 dX4_told_1 (by rw [hx1_6]; decide) (by rw [hx1_6]; decide) (by rw [hx1_6]; rfl) (by decide) ?_
    refine q_aload_n (pc := 75) dX4_told_75 rfl ?_
    refine q_aload_n (pc := 76) dX4_told_76 rfl ?_
    refine qg_4_5 (pc := 77) dX4_told_77 h0 lf_X4_44 ?_
    refine q_callVi (pc := 80) [.int ((sg k0 5))] dX4_told_80 lm_X4_55 yX4_costAhead_ok yX4_costAhead_in h0 (by decide) rfl (sX4_costAhead hK h0 (sg k0 5) sg) rfl rfl (Nat.le_of_ble_eq_true rfl) ⟨by decide, by decide⟩ (fun r3 s4 => ?_)
    exact q_ireturn (pc := 83) dX4_told_83
  refine q_tabOut (pc := 1) 84 dX4_told_1 (by have := qne 0 0 (by decide) hx1_0; have := qne 1 1 (by decide) hx1_1; have := qne 2 2 (by decide) hx1_2; have := qne 3 3 (by decide) hx1_3; have := qne 4 4 (by decide) hx1_4; have := qne 5 5 (by decide) hx1_5; have := qne 6 6 (by decide) hx1_6; omega) (by decide) ?_
  refine q_bipush (pc := 84) (-2) dX4_told_84 (by decide) ?_
  exact q_ireturn (pc := 86) dX4_told_86
