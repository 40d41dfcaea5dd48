/-! ===== by program (gen.py): the walk of methods ===== -/
-- LineSearch.putAll([II)V
def fX3_putAll_2 (k0 : Nat) : Nat → Int32 → Int32 → qSt → qR
  | 0, _, _, _ => none
  | n + 1, x1, x2, sg =>
    if (Int32.ofNat (qlen k0)) ≤ x2 then
      some (0, sg)
    else
    if qin x2 (qlen k0) then
    fX3_putAll_2 k0 n x1 ((x2 + 1)) (qset sg k0 (Int32.toNatClampNeg x2) x1)
    else none
set_option maxRecDepth 20000 in
set_option maxHeartbeats 4000000 in
theorem tX3_putAll_2 {b : Nat} {K : List Nat} (hK : qOk K) {k0 : Nat} (h0 : qIn K k0 5) : ∀ (n : Nat) (x1 x2 : Int32) (sg : qSt), qJ RX3 cX3_putAll 3 0 0 true (fun _ _ => True) b K 2 [some (.ref (b + k0)), some (.int x1), some (.int x2)] [] sg (fX3_putAll_2 k0 n x1 x2 sg) := by
  intro n
  induction n with
  | zero => intro x1 x2 sg; exact qJ_none
  | succ n ih =>
    intro x1 x2 sg
    unfold fX3_putAll_2
    refine q_iload_n (pc := 2) dX3_putAll_2 rfl ?_
    refine q_aload_n (pc := 3) dX3_putAll_3 rfl ?_
    refine q_alen (pc := 4) dX3_putAll_4 h0 ?_
    refine q_icmp_ge (pc := 5) 18 dX3_putAll_5 (by decide) ?_ ?_
    · exact q_return (pc := 18) dX3_putAll_18
    refine q_aload_n (pc := 8) dX3_putAll_8 rfl ?_
    refine q_iload_n (pc := 9) dX3_putAll_9 rfl ?_
    refine q_iload_n (pc := 10) dX3_putAll_10 rfl ?_
    refine q_iast (pc := 11) dX3_putAll_11 h0 ?_
    refine q_iinc (pc := 12) 1 dX3_putAll_12 rfl (by decide) (by decide) ?_
    refine q_goto (pc := 15) 2 dX3_putAll_15 (by decide) ?_
    exact ih x1 ((x2 + 1)) (qset sg k0 (Int32.toNatClampNeg x2) x1)
def fX3_putAll (k0 : Nat) (x1 : Int32) (sg : qSt) : qR :=
  fX3_putAll_2 k0 qfu x1 0 sg
set_option maxRecDepth 20000 in
set_option maxHeartbeats 4000000 in
theorem sX3_putAll {b : Nat} {K : List Nat} (hK : qOk K) {k0 : Nat} (h0 : qIn K k0 5) (x1 : Int32) (sg : qSt) : qS yX3_putAll cX3_putAll 3 none 0 0 b K [.ref (b + k0), .int x1] sg (fX3_putAll k0 x1 sg) := by
  refine qS_of (own := RX3) rfl (by decide) hK.1 (by simp [Value.category]) (Nat.le_of_ble_eq_true rfl) (fun z _ ty h => by cases h) ?_
  show qJ RX3 cX3_putAll 3 0 0 true (fun _ _ => True) b K 0 [some (.ref (b + k0)), some (.int x1), none] [] sg (fX3_putAll k0 x1 sg)
  unfold fX3_putAll
  refine q_iconst (pc := 0) 0 dX3_putAll_0 (by decide) ?_
  refine q_istore_n (pc := 1) dX3_putAll_1 (by decide) ?_
  exact tX3_putAll_2 hK h0 qfu x1 0 sg
-- LineSearch$Ground.lay(II)V
def fX0_lay (k0 : Nat) (x1 x2 : Int32) (sg : qSt) : qR :=
  qb (fX3_putAll (k0 + 1) 1 (qset (qset sg k0 0 x1) k0 1 x2)) fun r1 s2 =>
  some (0, s2)
set_option maxRecDepth 20000 in
set_option maxHeartbeats 4000000 in
theorem sX0_lay {b : Nat} {K : List Nat} (hK : qOk K) {k0 : Nat} (h0 : qIn K k0 0) (x1 x2 : Int32) (sg : qSt) : qS yX0_lay cX0_lay 3 none 1 22 b K [.ref (b + k0), .int x1, .int x2] sg (fX0_lay k0 x1 x2 sg) := by
  refine qS_of (own := RX0) rfl (by decide) hK.1 (by simp [Value.category]) (Nat.le_of_ble_eq_true rfl) (fun z _ ty h => by cases h) ?_
  show qJ RX0 cX0_lay 3 1 22 true (fun _ _ => True) b K 0 [some (.ref (b + k0)), some (.int x1), some (.int x2)] [] sg (fX0_lay k0 x1 x2 sg)
  unfold fX0_lay
  refine q_aload_n (pc := 0) dX0_lay_0 rfl ?_
  refine q_iload_n (pc := 1) dX0_lay_1 rfl ?_
  refine qp_0_0 (pc := 2) dX0_lay_2 h0 lf_X0_19 ?_
  refine q_aload_n (pc := 5) dX0_lay_5 rfl ?_
  refine q_iload_n (pc := 6) dX0_lay_6 rfl ?_
  refine qp_0_1 (pc := 7) dX0_lay_7 h0 lf_X0_23 ?_
  refine q_aload_n (pc := 10) dX0_lay_10 rfl ?_
  refine qg_0_2 (pc := 11) dX0_lay_11 h0 lf_X0_9 ?_
  refine q_iconst (pc := 14) 1 dX0_lay_14 (by decide) ?_
  refine q_callSNv (pc := 15) [.ref (b + ((k0 + 1))), .int 1] dX0_lay_15 (by decide) yX3_putAll_ok yX3_putAll_in (sX3_putAll hK (qch_0_2 hK h0) 1 (qset (qset sg k0 0 x1) k0 1 x2)) rfl rfl (Nat.le_of_ble_eq_true rfl) ⟨by decide, by decide⟩ (fun r1 s2 => ?_)
  exact q_return (pc := 18) dX0_lay_18
-- LineSearch$Ground.isOf(II)Z
def fX0_isOf_b (k0 : Nat) (x1 x2 : Int32) (sg : qSt) : qR :=
  if (sg k0 0) = x1 then
    if (sg k0 1) = x2 then
      some (1, sg)
    else
    some (0, sg)
  else
  some (0, sg)
def fX0_isOf (k0 : Nat) (x1 x2 : Int32) (sg : qSt) : qR := qz (fX0_isOf_b k0 x1 x2 sg)
set_option maxRecDepth 20000 in
set_option maxHeartbeats 4000000 in
theorem sX0_isOf {b : Nat} {K : List Nat} (hK : qOk K) {k0 : Nat} (h0 : qIn K k0 0) (x1 x2 : Int32) (sg : qSt) : qS yX0_isOf cX0_isOf 3 (some .boolean) 0 0 b K [.ref (b + k0), .int x1, .int x2] sg (fX0_isOf k0 x1 x2 sg) := by
  refine qS_of (own := RX0) rfl (by decide) hK.1 (by simp [Value.category]) (Nat.le_of_ble_eq_true rfl) (fun z hz ty h => by cases h; exact qz_bool hz) ?_
  show qJ RX0 cX0_isOf 3 0 0 false (fun _ _ => True) b K 0 [some (.ref (b + k0)), some (.int x1), some (.int x2)] [] sg (fX0_isOf k0 x1 x2 sg)
  refine qJ_qz ?_
  unfold fX0_isOf_b
  refine q_aload_n (pc := 0) dX0_isOf_0 rfl ?_
  refine qg_0_0 (pc := 1) dX0_isOf_1 h0 lf_X0_19 ?_
  refine q_iload_n (pc := 4) dX0_isOf_4 rfl ?_
  refine q_icmp_ne (pc := 5) 20 dX0_isOf_5 (by decide) ?_ ?_
  · refine q_iconst (pc := 20) 0 dX0_isOf_20 (by decide) ?_
    exact q_ireturn (pc := 21) dX0_isOf_21
  refine q_aload_n (pc := 8) dX0_isOf_8 rfl ?_
  refine qg_0_1 (pc := 9) dX0_isOf_9 h0 lf_X0_23 ?_
  refine q_iload_n (pc := 12) dX0_isOf_12 rfl ?_
  refine q_icmp_ne (pc := 13) 20 dX0_isOf_13 (by decide) ?_ ?_
  · refine q_iconst (pc := 20) 0 dX0_isOf_20 (by decide) ?_
    exact q_ireturn (pc := 21) dX0_isOf_21
  refine q_iconst (pc := 16) 1 dX0_isOf_16 (by decide) ?_
  refine q_goto (pc := 17) 21 dX0_isOf_17 (by decide) ?_
  exact q_ireturn (pc := 21) dX0_isOf_21
-- LineSearch$Ground.has(II)Z
def fX0_has_b (k0 : Nat) (x1 x2 : Int32) (sg : qSt) : qR :=
  if x1 < 0 then
    some (0, sg)
  else
  if (sg k0 0) ≤ x1 then
    some (0, sg)
  else
  if x2 < 1 then
    some (0, sg)
  else
  if (sg k0 1) < x2 then
    some (0, sg)
  else
  some (1, sg)
def fX0_has (k0 : Nat) (x1 x2 : Int32) (sg : qSt) : qR := qz (fX0_has_b k0 x1 x2 sg)
set_option maxRecDepth 20000 in
set_option maxHeartbeats 4000000 in
theorem sX0_has {b : Nat} {K : List Nat} (hK : qOk K) {k0 : Nat} (h0 : qIn K k0 0) (x1 x2 : Int32) (sg : qSt) : qS yX0_has cX0_has 3 (some .boolean) 0 0 b K [.ref (b + k0), .int x1, .int x2] sg (fX0_has k0 x1 x2 sg) := by
  refine qS_of (own := RX0) rfl (by decide) hK.1 (by simp [Value.category]) (Nat.le_of_ble_eq_true rfl) (fun z hz ty h => by cases h; exact qz_bool hz) ?_
  show qJ RX0 cX0_has 3 0 0 false (fun _ _ => True) b K 0 [some (.ref (b + k0)), some (.int x1), some (.int x2)] [] sg (fX0_has k0 x1 x2 sg)
  refine qJ_qz ?_
  unfold fX0_has_b
  refine q_iload_n (pc := 0) dX0_has_0 rfl ?_
  refine q_if_lt (pc := 1) 29 dX0_has_1 (by decide) ?_ ?_
  · refine q_iconst (pc := 29) 0 dX0_has_29 (by decide) ?_
    exact q_ireturn (pc := 30) dX0_has_30
  refine q_iload_n (pc := 4) dX0_has_4 rfl ?_
  refine q_aload_n (pc := 5) dX0_has_5 rfl ?_
  refine qg_0_0 (pc := 6) dX0_has_6 h0 lf_X0_19 ?_
  refine q_icmp_ge (pc := 9) 29 dX0_has_9 (by decide) ?_ ?_
  · refine q_iconst (pc := 29) 0 dX0_has_29 (by decide) ?_
    exact q_ireturn (pc := 30) dX0_has_30
  refine q_iload_n (pc := 12) dX0_has_12 rfl ?_
  refine q_iconst (pc := 13) 1 dX0_has_13 (by decide) ?_
  refine q_icmp_lt (pc := 14) 29 dX0_has_14 (by decide) ?_ ?_
  · refine q_iconst (pc := 29) 0 dX0_has_29 (by decide) ?_
    exact q_ireturn (pc := 30) dX0_has_30
  refine q_iload_n (pc := 17) dX0_has_17 rfl ?_
  refine q_aload_n (pc := 18) dX0_has_18 rfl ?_
  refine qg_0_1 (pc := 19) dX0_has_19 h0 lf_X0_23 ?_
  refine q_icmp_gt (pc := 22) 29 dX0_has_22 (by decide) ?_ ?_
  · refine q_iconst (pc := 29) 0 dX0_has_29 (by decide) ?_
    exact q_ireturn (pc := 30) dX0_has_30
  refine q_iconst (pc := 25) 1 dX0_has_25 (by decide) ?_
  refine q_goto (pc := 26) 30 dX0_has_26 (by decide) ?_
  exact q_ireturn (pc := 30) dX0_has_30
-- LineSearch.at([II)I
def fX3_at (k0 : Nat) (x1 : Int32) (sg : qSt) : qR :=
  if x1 < 0 then
    some (0, sg)
  else
  if (Int32.ofNat (qlen k0)) ≤ x1 then
    some (0, sg)
  else
  if qin x1 (qlen k0) then
  some ((sg k0 (Int32.toNatClampNeg x1)), sg)
  else none
set_option maxRecDepth 20000 in
set_option maxHeartbeats 4000000 in
theorem sX3_at {b : Nat} {K : List Nat} (hK : qOk K) {k0 : Nat} (h0 : qIn K k0 5) (x1 : Int32) (sg : qSt) : qS yX3_at cX3_at 2 (some .int) 0 0 b K [.ref (b + k0), .int x1] sg (fX3_at k0 x1 sg) := by
  refine qS_of (own := RX3) rfl (by decide) hK.1 (by simp [Value.category]) (Nat.le_of_ble_eq_true rfl) (fun z _ ty h => by cases h; exact vp_nar_int _) ?_
  show qJ RX3 cX3_at 2 0 0 false (fun _ _ => True) b K 0 [some (.ref (b + k0)), some (.int x1)] [] sg (fX3_at k0 x1 sg)
  unfold fX3_at
  refine q_iload_n (pc := 0) dX3_at_0 rfl ?_
  refine q_if_lt (pc := 1) 16 dX3_at_1 (by decide) ?_ ?_
  · refine q_iconst (pc := 16) 0 dX3_at_16 (by decide) ?_
    exact q_ireturn (pc := 17) dX3_at_17
  refine q_iload_n (pc := 4) dX3_at_4 rfl ?_
  refine q_aload_n (pc := 5) dX3_at_5 rfl ?_
  refine q_alen (pc := 6) dX3_at_6 h0 ?_
  refine q_icmp_ge (pc := 7) 16 dX3_at_7 (by decide) ?_ ?_
  · refine q_iconst (pc := 16) 0 dX3_at_16 (by decide) ?_
    exact q_ireturn (pc := 17) dX3_at_17
  refine q_aload_n (pc := 10) dX3_at_10 rfl ?_
  refine q_iload_n (pc := 11) dX3_at_11 rfl ?_
  refine q_iald (pc := 12) dX3_at_12 h0 ?_
  refine q_goto (pc := 13) 17 dX3_at_13 (by decide) ?_
  exact q_ireturn (pc := 17) dX3_at_17
-- LineSearch$Ground.shareAt(II)I
def fX0_shareAt (k0 : Nat) (x1 x2 : Int32) (sg : qSt) : qR :=
  qb (fX0_has k0 x1 x2 sg) fun r1 s2 =>
  if r1 = 0 then
    some (0, s2)
  else
  qb (fX3_at (k0 + 1) ((x1 * 9) + x2) s2) fun r3 s4 =>
  some (r3, s4)
set_option maxRecDepth 20000 in
set_option maxHeartbeats 4000000 in
theorem sX0_shareAt {b : Nat} {K : List Nat} (hK : qOk K) {k0 : Nat} (h0 : qIn K k0 0) (x1 x2 : Int32) (sg : qSt) : qS yX0_shareAt cX0_shareAt 3 (some .int) 1 22 b K [.ref (b + k0), .int x1, .int x2] sg (fX0_shareAt k0 x1 x2 sg) := by
  refine qS_of (own := RX0) rfl (by decide) hK.1 (by simp [Value.category]) (Nat.le_of_ble_eq_true rfl) (fun z _ ty h => by cases h; exact vp_nar_int _) ?_
  show qJ RX0 cX0_shareAt 3 1 22 false (fun _ _ => True) b K 0 [some (.ref (b + k0)), some (.int x1), some (.int x2)] [] sg (fX0_shareAt k0 x1 x2 sg)
  unfold fX0_shareAt
  refine q_aload_n (pc := 0) dX0_shareAt_0 rfl ?_
  refine q_iload_n (pc := 1) dX0_shareAt_1 rfl ?_
  refine q_iload_n (pc := 2) dX0_shareAt_2 rfl ?_
  refine q_callVi (pc := 3) [.int x1, .int x2] dX0_shareAt_3 lm_X0_30 yX0_has_ok yX0_has_in h0 (by decide) rfl (sX0_has hK h0 x1 x2 sg) rfl rfl (Nat.le_of_ble_eq_true rfl) ⟨by decide, by decide⟩ (fun r1 s2 => ?_)
  refine q_if_eq (pc := 6) 25 dX0_shareAt_6 (by decide) ?_ ?_
  · refine q_iconst (pc := 25) 0 dX0_shareAt_25 (by decide) ?_
    exact q_ireturn (pc := 26) dX0_shareAt_26
  refine q_aload_n (pc := 9) dX0_shareAt_9 rfl ?_
  refine qg_0_2 (pc := 10) dX0_shareAt_10 h0 lf_X0_9 ?_
  refine q_iload_n (pc := 13) dX0_shareAt_13 rfl ?_
  refine q_bipush (pc := 14) 9 dX0_shareAt_14 (by decide) ?_
  refine q_imul (pc := 16) dX0_shareAt_16 ?_
  refine q_iload_n (pc := 17) dX0_shareAt_17 rfl ?_
  refine q_iadd (pc := 18) dX0_shareAt_18 ?_
  refine q_callSNi (pc := 19) [.ref (b + ((k0 + 1))), .int (((x1 * 9) + x2))] dX0_shareAt_19 (by decide) yX3_at_ok yX3_at_in (sX3_at hK (qch_0_2 hK h0) ((x1 * 9) + x2) s2) rfl rfl (Nat.le_of_ble_eq_true rfl) ⟨by decide, by decide⟩ (fun r3 s4 => ?_)
  refine q_goto (pc := 22) 26 dX0_shareAt_22 (by decide) ?_
  exact q_ireturn (pc := 26) dX0_shareAt_26
-- LineSearch.put([III)V
def fX3_put (k0 : Nat) (x1 x2 : Int32) (sg : qSt) : qR :=
  if x1 < 0 then
    some (0, sg)
  else
  if (Int32.ofNat (qlen k0)) ≤ x1 then
    some (0, sg)
  else
  if qin x1 (qlen k0) then
  some (0, qset sg k0 (Int32.toNatClampNeg x1) x2)
  else none
set_option maxRecDepth 20000 in
set_option maxHeartbeats 4000000 in
theorem sX3_put {b : Nat} {K : List Nat} (hK : qOk K) {k0 : Nat} (h0 : qIn K k0 5) (x1 x2 : Int32) (sg : qSt) : qS yX3_put cX3_put 3 none 0 0 b K [.ref (b + k0), .int x1, .int x2] sg (fX3_put k0 x1 x2 sg) := by
  refine qS_of (own := RX3) rfl (by decide) hK.1 (by simp [Value.category]) (Nat.le_of_ble_eq_true rfl) (fun z _ ty h => by cases h) ?_
  show qJ RX3 cX3_put 3 0 0 true (fun _ _ => True) b K 0 [some (.ref (b + k0)), some (.int x1), some (.int x2)] [] sg (fX3_put k0 x1 x2 sg)
  unfold fX3_put
  refine q_iload_n (pc := 0) dX3_put_0 rfl ?_
  refine q_if_lt (pc := 1) 14 dX3_put_1 (by decide) ?_ ?_
  · exact q_return (pc := 14) dX3_put_14
  refine q_iload_n (pc := 4) dX3_put_4 rfl ?_
  refine q_aload_n (pc := 5) dX3_put_5 rfl ?_
  refine q_alen (pc := 6) dX3_put_6 h0 ?_
  refine q_icmp_ge (pc := 7) 14 dX3_put_7 (by decide) ?_ ?_
  · exact q_return (pc := 14) dX3_put_14
  refine q_aload_n (pc := 10) dX3_put_10 rfl ?_
  refine q_iload_n (pc := 11) dX3_put_11 rfl ?_
  refine q_iload_n (pc := 12) dX3_put_12 rfl ?_
  refine q_iast (pc := 13) dX3_put_13 h0 ?_
  exact q_return (pc := 14) dX3_put_14
-- LineSearch$Ground.setShare(III)V
def fX0_setShare (k0 : Nat) (x1 x2 x3 : Int32) (sg : qSt) : qR :=
  qb (fX0_has k0 x1 x2 sg) fun r1 s2 =>
  if r1 = 0 then
    some (0, s2)
  else
  qb (fX3_put (k0 + 1) ((x1 * 9) + x2) x3 s2) fun r3 s4 =>
  some (0, s4)
set_option maxRecDepth 20000 in
set_option maxHeartbeats 4000000 in
theorem sX0_setShare {b : Nat} {K : List Nat} (hK : qOk K) {k0 : Nat} (h0 : qIn K k0 0) (x1 x2 x3 : Int32) (sg : qSt) : qS yX0_setShare cX0_setShare 4 none 1 22 b K [.ref (b + k0), .int x1, .int x2, .int x3] sg (fX0_setShare k0 x1 x2 x3 sg) := by
  refine qS_of (own := RX0) rfl (by decide) hK.1 (by simp [Value.category]) (Nat.le_of_ble_eq_true rfl) (fun z _ ty h => by cases h) ?_
  show qJ RX0 cX0_setShare 4 1 22 true (fun _ _ => True) b K 0 [some (.ref (b + k0)), some (.int x1), some (.int x2), some (.int x3)] [] sg (fX0_setShare k0 x1 x2 x3 sg)
  unfold fX0_setShare
  refine q_aload_n (pc := 0) dX0_setShare_0 rfl ?_
  refine q_iload_n (pc := 1) dX0_setShare_1 rfl ?_
  refine q_iload_n (pc := 2) dX0_setShare_2 rfl ?_
  refine q_callVi (pc := 3) [.int x1, .int x2] dX0_setShare_3 lm_X0_30 yX0_has_ok yX0_has_in h0 (by decide) rfl (sX0_has hK h0 x1 x2 sg) rfl rfl (Nat.le_of_ble_eq_true rfl) ⟨by decide, by decide⟩ (fun r1 s2 => ?_)
  refine q_if_eq (pc := 6) 23 dX0_setShare_6 (by decide) ?_ ?_
  · exact q_return (pc := 23) dX0_setShare_23
  refine q_aload_n (pc := 9) dX0_setShare_9 rfl ?_
  refine qg_0_2 (pc := 10) dX0_setShare_10 h0 lf_X0_9 ?_
  refine q_iload_n (pc := 13) dX0_setShare_13 rfl ?_
  refine q_bipush (pc := 14) 9 dX0_setShare_14 (by decide) ?_
  refine q_imul (pc := 16) dX0_setShare_16 ?_
  refine q_iload_n (pc := 17) dX0_setShare_17 rfl ?_
  refine q_iadd (pc := 18) dX0_setShare_18 ?_
  refine q_iload_n (pc := 19) dX0_setShare_19 rfl ?_
  refine q_callSNv (pc := 20) [.ref (b + ((k0 + 1))), .int (((x1 * 9) + x2)), .int x3] dX0_setShare_20 (by decide) yX3_put_ok yX3_put_in (sX3_put hK (qch_0_2 hK h0) ((x1 * 9) + x2) x3 s2) rfl rfl (Nat.le_of_ble_eq_true rfl) ⟨by decide, by decide⟩ (fun r3 s4 => ?_)
  exact q_return (pc := 23) dX0_setShare_23
-- LineSearch$Ground.allShares()I
def fX0_allShares_14 (k0 : Nat) (c4 : Int32 → Int32 → qSt → qR) : Nat → Int32 → Int32 → Int32 → qSt → qR
  | 0, _, _, _, _ => none
  | n + 1, x1, x2, x3, sg =>
    if (sg k0 1) < x3 then
      c4 x1 ((x2 + 1)) sg
    else
    qb (fX0_shareAt k0 x2 x3 sg) fun r1 s2 =>
    fX0_allShares_14 k0 c4 n ((x1 + r1)) x2 ((x3 + 1)) s2
set_option maxRecDepth 20000 in
set_option maxHeartbeats 4000000 in
theorem tX0_allShares_14 {b : Nat} {K : List Nat} (hK : qOk K) {k0 : Nat} {c4 : Int32 → Int32 → qSt → qR} (h0 : qIn K k0 0) (hc4 : ∀ (x1 x2 : Int32) (sg : qSt), qJ RX0 cX0_allShares 4 2 44 false (fun _ _ => True) b K 4 [some (.ref (b + k0)), some (.int x1), some (.int x2), none] [] sg (c4 x1 x2 sg)) : ∀ (n : Nat) (x1 x2 x3 : Int32) (sg : qSt), qJ RX0 cX0_allShares 4 2 44 false (fun _ _ => True) b K 14 [some (.ref (b + k0)), some (.int x1), some (.int x2), some (.int x3)] [] sg (fX0_allShares_14 k0 c4 n x1 x2 x3 sg) := by
  intro n
  induction n with
  | zero => intro x1 x2 x3 sg; exact qJ_none
  | succ n ih =>
    intro x1 x2 x3 sg
    unfold fX0_allShares_14
    refine q_iload_n (pc := 14) dX0_allShares_14 rfl ?_
    refine q_aload_n (pc := 15) dX0_allShares_15 rfl ?_
    refine qg_0_1 (pc := 16) dX0_allShares_16 h0 lf_X0_23 ?_
    refine q_icmp_gt (pc := 19) 37 dX0_allShares_19 (by decide) ?_ ?_
    · refine q_iinc (pc := 37) 1 dX0_allShares_37 rfl (by decide) (by decide) ?_
      refine q_goto (pc := 40) 4 dX0_allShares_40 (by decide) ?_
      refine qJ_weak [some (.ref (b + k0)), some (.int x1), some (.int ((x2 + 1))), none] ⟨rfl, rfl, rfl, trivial⟩ ?_
      exact hc4 x1 ((x2 + 1)) sg
    refine q_iload_n (pc := 22) dX0_allShares_22 rfl ?_
    refine q_aload_n (pc := 23) dX0_allShares_23 rfl ?_
    refine q_iload_n (pc := 24) dX0_allShares_24 rfl ?_
    refine q_iload_n (pc := 25) dX0_allShares_25 rfl ?_
    refine q_callVi (pc := 26) [.int x2, .int x3] dX0_allShares_26 lm_X0_42 yX0_shareAt_ok yX0_shareAt_in h0 (by decide) rfl (sX0_shareAt hK h0 x2 x3 sg) rfl rfl (Nat.le_of_ble_eq_true rfl) ⟨by decide, by decide⟩ (fun r1 s2 => ?_)
    refine q_iadd (pc := 29) dX0_allShares_29 ?_
    refine q_istore_n (pc := 30) dX0_allShares_30 (by decide) ?_
    refine q_iinc (pc := 31) 1 dX0_allShares_31 rfl (by decide) (by decide) ?_
    refine q_goto (pc := 34) 14 dX0_allShares_34 (by decide) ?_
    exact ih ((x1 + r1)) x2 ((x3 + 1)) s2
def fX0_allShares_4 (k0 : Nat) : Nat → Int32 → Int32 → qSt → qR
  | 0, _, _, _ => none
  | n + 1, x1, x2, sg =>
    if (sg k0 0) ≤ x2 then
      some (x1, sg)
    else
    fX0_allShares_14 k0 (fun z1 z2 sg => fX0_allShares_4 k0 n z1 z2 sg) qfu x1 x2 1 sg
set_option maxRecDepth 20000 in
set_option maxHeartbeats 4000000 in
theorem tX0_allShares_4 {b : Nat} {K : List Nat} (hK : qOk K) {k0 : Nat} (h0 : qIn K k0 0) : ∀ (n : Nat) (x1 x2 : Int32) (sg : qSt), qJ RX0 cX0_allShares 4 2 44 false (fun _ _ => True) b K 4 [some (.ref (b + k0)), some (.int x1), some (.int x2), none] [] sg (fX0_allShares_4 k0 n x1 x2 sg) := by
  intro n
  induction n with
  | zero => intro x1 x2 sg; exact qJ_none
  | succ n ih =>
    intro x1 x2 sg
    unfold fX0_allShares_4
    refine q_iload_n (pc := 4) dX0_allShares_4 rfl ?_
    refine q_aload_n (pc := 5) dX0_allShares_5 rfl ?_
    refine qg_0_0 (pc := 6) dX0_allShares_6 h0 lf_X0_19 ?_
    refine q_icmp_ge (pc := 9) 43 dX0_allShares_9 (by decide) ?_ ?_
    · refine q_iload_n (pc := 43) dX0_allShares_43 rfl ?_
      exact q_ireturn (pc := 44) dX0_allShares_44
    refine q_iconst (pc := 12) 1 dX0_allShares_12 (by decide) ?_
    refine q_istore_n (pc := 13) dX0_allShares_13 (by decide) ?_
    exact tX0_allShares_14 hK h0 (fun z1 z2 sg => ih z1 z2 sg) qfu x1 x2 1 sg
def fX0_allShares (k0 : Nat) (sg : qSt) : qR :=
  fX0_allShares_4 k0 qfu 0 0 sg
set_option maxRecDepth 20000 in
set_option maxHeartbeats 4000000 in
theorem sX0_allShares {b : Nat} {K : List Nat} (hK : qOk K) {k0 : Nat} (h0 : qIn K k0 0) (sg : qSt) : qS yX0_allShares cX0_allShares 4 (some .int) 2 44 b K [.ref (b + k0)] sg (fX0_allShares k0 sg) := by
  refine qS_of (own := RX0) rfl (by decide) hK.1 (by simp [Value.category]) (Nat.le_of_ble_eq_true rfl) (fun z _ ty h => by cases h; exact vp_nar_int _) ?_
  show qJ RX0 cX0_allShares 4 2 44 false (fun _ _ => True) b K 0 [some (.ref (b + k0)), none, none, none] [] sg (fX0_allShares k0 sg)
  unfold fX0_allShares
  refine q_iconst (pc := 0) 0 dX0_allShares_0 (by decide) ?_
  refine q_istore_n (pc := 1) dX0_allShares_1 (by decide) ?_
  refine q_iconst (pc := 2) 0 dX0_allShares_2 (by decide) ?_
  refine q_istore_n (pc := 3) dX0_allShares_3 (by decide) ?_
  exact tX0_allShares_4 hK h0 qfu 0 0 sg
-- LineSearch$Ground.sharedSteps()I
def fX0_sharedSteps_14 (k0 : Nat) (c4 : Int32 → Int32 → qSt → qR) : Nat → Int32 → Int32 → Int32 → qSt → qR
  | 0, _, _, _, _ => none
  | n + 1, x1, x2, x3, sg =>
    if (sg k0 1) < x3 then
      c4 x1 ((x2 + 1)) sg
    else
    qb (fX0_shareAt k0 x2 x3 sg) fun r1 s2 =>
    fX0_sharedSteps_14 k0 c4 n ((x1 + (r1 * x3))) x2 ((x3 + 1)) s2
set_option maxRecDepth 20000 in
set_option maxHeartbeats 4000000 in
theorem tX0_sharedSteps_14 {b : Nat} {K : List Nat} (hK : qOk K) {k0 : Nat} {c4 : Int32 → Int32 → qSt → qR} (h0 : qIn K k0 0) (hc4 : ∀ (x1 x2 : Int32) (sg : qSt), qJ RX0 cX0_sharedSteps 4 2 44 false (fun _ _ => True) b K 4 [some (.ref (b + k0)), some (.int x1), some (.int x2), none] [] sg (c4 x1 x2 sg)) : ∀ (n : Nat) (x1 x2 x3 : Int32) (sg : qSt), qJ RX0 cX0_sharedSteps 4 2 44 false (fun _ _ => True) b K 14 [some (.ref (b + k0)), some (.int x1), some (.int x2), some (.int x3)] [] sg (fX0_sharedSteps_14 k0 c4 n x1 x2 x3 sg) := by
  intro n
  induction n with
  | zero => intro x1 x2 x3 sg; exact qJ_none
  | succ n ih =>
    intro x1 x2 x3 sg
    unfold fX0_sharedSteps_14
    refine q_iload_n (pc := 14) dX0_sharedSteps_14 rfl ?_
    refine q_aload_n (pc := 15) dX0_sharedSteps_15 rfl ?_
    refine qg_0_1 (pc := 16) dX0_sharedSteps_16 h0 lf_X0_23 ?_
    refine q_icmp_gt (pc := 19) 39 dX0_sharedSteps_19 (by decide) ?_ ?_
    · refine q_iinc (pc := 39) 1 dX0_sharedSteps_39 rfl (by decide) (by decide) ?_
      refine q_goto (pc := 42) 4 dX0_sharedSteps_42 (by decide) ?_
      refine qJ_weak [some (.ref (b + k0)), some (.int x1), some (.int ((x2 + 1))), none] ⟨rfl, rfl, rfl, trivial⟩ ?_
      exact hc4 x1 ((x2 + 1)) sg
    refine q_iload_n (pc := 22) dX0_sharedSteps_22 rfl ?_
    refine q_aload_n (pc := 23) dX0_sharedSteps_23 rfl ?_
    refine q_iload_n (pc := 24) dX0_sharedSteps_24 rfl ?_
    refine q_iload_n (pc := 25) dX0_sharedSteps_25 rfl ?_
    refine q_callVi (pc := 26) [.int x2, .int x3] dX0_sharedSteps_26 lm_X0_42 yX0_shareAt_ok yX0_shareAt_in h0 (by decide) rfl (sX0_shareAt hK h0 x2 x3 sg) rfl rfl (Nat.le_of_ble_eq_true rfl) ⟨by decide, by decide⟩ (fun r1 s2 => ?_)
    refine q_iload_n (pc := 29) dX0_sharedSteps_29 rfl ?_
    refine q_imul (pc := 30) dX0_sharedSteps_30 ?_
    refine q_iadd (pc := 31) dX0_sharedSteps_31 ?_
    refine q_istore_n (pc := 32) dX0_sharedSteps_32 (by decide) ?_
    refine q_iinc (pc := 33) 1 dX0_sharedSteps_33 rfl (by decide) (by decide) ?_
    refine q_goto (pc := 36) 14 dX0_sharedSteps_36 (by decide) ?_
    exact ih ((x1 + (r1 * x3))) x2 ((x3 + 1)) s2
def fX0_sharedSteps_4 (k0 : Nat) : Nat → Int32 → Int32 → qSt → qR
  | 0, _, _, _ => none
  | n + 1, x1, x2, sg =>
    if (sg k0 0) ≤ x2 then
      some (x1, sg)
    else
    fX0_sharedSteps_14 k0 (fun z1 z2 sg => fX0_sharedSteps_4 k0 n z1 z2 sg) qfu x1 x2 1 sg
set_option maxRecDepth 20000 in
set_option maxHeartbeats 4000000 in
theorem tX0_sharedSteps_4 {b : Nat} {K : List Nat} (hK : qOk K) {k0 : Nat} (h0 : qIn K k0 0) : ∀ (n : Nat) (x1 x2 : Int32) (sg : qSt), qJ RX0 cX0_sharedSteps 4 2 44 false (fun _ _ => True) b K 4 [some (.ref (b + k0)), some (.int x1), some (.int x2), none] [] sg (fX0_sharedSteps_4 k0 n x1 x2 sg) := by
  intro n
  induction n with
  | zero => intro x1 x2 sg; exact qJ_none
  | succ n ih =>
    intro x1 x2 sg
    unfold fX0_sharedSteps_4
    refine q_iload_n (pc := 4) dX0_sharedSteps_4 rfl ?_
    refine q_aload_n (pc := 5) dX0_sharedSteps_5 rfl ?_
    refine qg_0_0 (pc := 6) dX0_sharedSteps_6 h0 lf_X0_19 ?_
    refine q_icmp_ge (pc := 9) 45 dX0_sharedSteps_9 (by decide) ?_ ?_
    · refine q_iload_n (pc := 45) dX0_sharedSteps_45 rfl ?_
      exact q_ireturn (pc := 46) dX0_sharedSteps_46
    refine q_iconst (pc := 12) 1 dX0_sharedSteps_12 (by decide) ?_
    refine q_istore_n (pc := 13) dX0_sharedSteps_13 (by decide) ?_
    exact tX0_sharedSteps_14 hK h0 (fun z1 z2 sg => ih z1 z2 sg) qfu x1 x2 1 sg
def fX0_sharedSteps (k0 : Nat) (sg : qSt) : qR :=
  fX0_sharedSteps_4 k0 qfu 0 0 sg
set_option maxRecDepth 20000 in
set_option maxHeartbeats 4000000 in
theorem sX0_sharedSteps {b : Nat} {K : List Nat} (hK : qOk K) {k0 : Nat} (h0 : qIn K k0 0) (sg : qSt) : qS yX0_sharedSteps cX0_sharedSteps 4 (some .int) 2 44 b K [.ref (b + k0)] sg (fX0_sharedSteps k0 sg) := by
  refine qS_of (own := RX0) rfl (by decide) hK.1 (by simp [Value.category]) (Nat.le_of_ble_eq_true rfl) (fun z _ ty h => by cases h; exact vp_nar_int _) ?_
  show qJ RX0 cX0_sharedSteps 4 2 44 false (fun _ _ => True) b K 0 [some (.ref (b + k0)), none, none, none] [] sg (fX0_sharedSteps k0 sg)
  unfold fX0_sharedSteps
  refine q_iconst (pc := 0) 0 dX0_sharedSteps_0 (by decide) ?_
  refine q_istore_n (pc := 1) dX0_sharedSteps_1 (by decide) ?_
  refine q_iconst (pc := 2) 0 dX0_sharedSteps_2 (by decide) ?_
  refine q_istore_n (pc := 3) dX0_sharedSteps_3 (by decide) ?_
  exact tX0_sharedSteps_4 hK h0 qfu 0 0 sg
-- LineSearch$Plan.empty()V
def fX2_empty (k0 : Nat) (sg : qSt) : qR :=
  some (0, qset sg k0 2 0)
set_option maxRecDepth 20000 in
set_option maxHeartbeats 4000000 in
theorem sX2_empty {b : Nat} {K : List Nat} (hK : qOk K) {k0 : Nat} (h0 : qIn K k0 2) (sg : qSt) : qS yX2_empty cX2_empty 1 none 0 0 b K [.ref (b + k0)] sg (fX2_empty k0 sg) := by
  refine qS_of (own := RX2) rfl (by decide) hK.1 (by simp [Value.category]) (Nat.le_of_ble_eq_true rfl) (fun z _ ty h => by cases h) ?_
  show qJ RX2 cX2_empty 1 0 0 true (fun _ _ => True) b K 0 [some (.ref (b + k0))] [] sg (fX2_empty k0 sg)
  unfold fX2_empty
  refine q_aload_n (pc := 0) dX2_empty_0 rfl ?_
  refine q_iconst (pc := 1) 0 dX2_empty_1 (by decide) ?_
  refine qp_2_2 (pc := 2) dX2_empty_2 h0 lf_X2_18 ?_
  exact q_return (pc := 5) dX2_empty_5
-- LineSearch$Plan.add(II)Z
def fX2_add_b (k0 : Nat) (x1 x2 : Int32) (sg : qSt) : qR :=
  if (sg k0 2) < 30 then
    qb (fX3_put (k0 + 1) (sg k0 2) x1 sg) fun r1 s2 =>
    qb (fX3_put (k0 + 2) (s2 k0 2) x2 s2) fun r3 s4 =>
    some (1, qset s4 k0 2 ((s4 k0 2) + 1))
  else
  some (0, sg)
def fX2_add (k0 : Nat) (x1 x2 : Int32) (sg : qSt) : qR := qz (fX2_add_b k0 x1 x2 sg)
set_option maxRecDepth 20000 in
set_option maxHeartbeats 4000000 in
theorem sX2_add {b : Nat} {K : List Nat} (hK : qOk K) {k0 : Nat} (h0 : qIn K k0 2) (x1 x2 : Int32) (sg : qSt) : qS yX2_add cX2_add 3 (some .boolean) 1 22 b K [.ref (b + k0), .int x1, .int x2] sg (fX2_add k0 x1 x2 sg) := by
  refine qS_of (own := RX2) rfl (by decide) hK.1 (by simp [Value.category]) (Nat.le_of_ble_eq_true rfl) (fun z hz ty h => by cases h; exact qz_bool hz) ?_
  show qJ RX2 cX2_add 3 1 22 false (fun _ _ => True) b K 0 [some (.ref (b + k0)), some (.int x1), some (.int x2)] [] sg (fX2_add k0 x1 x2 sg)
  refine qJ_qz ?_
  unfold fX2_add_b
  refine q_aload_n (pc := 0) dX2_add_0 rfl ?_
  refine qg_2_2 (pc := 1) dX2_add_1 h0 lf_X2_18 ?_
  refine q_bipush (pc := 4) 30 dX2_add_4 (by decide) ?_
  refine q_icmp_lt (pc := 6) 11 dX2_add_6 (by decide) ?_ ?_
  · refine q_aload_n (pc := 11) dX2_add_11 rfl ?_
    refine qg_2_0 (pc := 12) dX2_add_12 h0 lf_X2_9 ?_
    refine q_aload_n (pc := 15) dX2_add_15 rfl ?_
    refine qg_2_2 (pc := 16) dX2_add_16 h0 lf_X2_18 ?_
    refine q_iload_n (pc := 19) dX2_add_19 rfl ?_
    refine q_callSNv (pc := 20) [.ref (b + ((k0 + 1))), .int ((sg k0 2)), .int x1] dX2_add_20 (by decide) yX3_put_ok yX3_put_in (sX3_put hK (qch_2_0 hK h0) (sg k0 2) x1 sg) rfl rfl (Nat.le_of_ble_eq_true rfl) ⟨by decide, by decide⟩ (fun r1 s2 => ?_)
    refine q_aload_n (pc := 23) dX2_add_23 rfl ?_
    refine qg_2_1 (pc := 24) dX2_add_24 h0 lf_X2_15 ?_
    refine q_aload_n (pc := 27) dX2_add_27 rfl ?_
    refine qg_2_2 (pc := 28) dX2_add_28 h0 lf_X2_18 ?_
    refine q_iload_n (pc := 31) dX2_add_31 rfl ?_
    refine q_callSNv (pc := 32) [.ref (b + ((k0 + 2))), .int ((s2 k0 2)), .int x2] dX2_add_32 (by decide) yX3_put_ok yX3_put_in (sX3_put hK (qch_2_1 hK h0) (s2 k0 2) x2 s2) rfl rfl (Nat.le_of_ble_eq_true rfl) ⟨by decide, by decide⟩ (fun r3 s4 => ?_)
    refine q_aload_n (pc := 35) dX2_add_35 rfl ?_
    refine q_dup (pc := 36) dX2_add_36 rfl ?_
    refine qg_2_2 (pc := 37) dX2_add_37 h0 lf_X2_18 ?_
    refine q_iconst (pc := 40) 1 dX2_add_40 (by decide) ?_
    refine q_iadd (pc := 41) dX2_add_41 ?_
    refine qp_2_2 (pc := 42) dX2_add_42 h0 lf_X2_18 ?_
    refine q_iconst (pc := 45) 1 dX2_add_45 (by decide) ?_
    exact q_ireturn (pc := 46) dX2_add_46
  refine q_iconst (pc := 9) 0 dX2_add_9 (by decide) ?_
  exact q_ireturn (pc := 10) dX2_add_10
-- LineSearch$Plan.has(I)Z
def fX2_has_b (k0 : Nat) (x1 : Int32) (sg : qSt) : qR :=
  if x1 < 0 then
    some (0, sg)
  else
  if (sg k0 2) ≤ x1 then
    some (0, sg)
  else
  some (1, sg)
def fX2_has (k0 : Nat) (x1 : Int32) (sg : qSt) : qR := qz (fX2_has_b k0 x1 sg)
set_option maxRecDepth 20000 in
set_option maxHeartbeats 4000000 in
theorem sX2_has {b : Nat} {K : List Nat} (hK : qOk K) {k0 : Nat} (h0 : qIn K k0 2) (x1 : Int32) (sg : qSt) : qS yX2_has cX2_has 2 (some .boolean) 0 0 b K [.ref (b + k0), .int x1] sg (fX2_has k0 x1 sg) := by
  refine qS_of (own := RX2) rfl (by decide) hK.1 (by simp [Value.category]) (Nat.le_of_ble_eq_true rfl) (fun z hz ty h => by cases h; exact qz_bool hz) ?_
  show qJ RX2 cX2_has 2 0 0 false (fun _ _ => True) b K 0 [some (.ref (b + k0)), some (.int x1)] [] sg (fX2_has k0 x1 sg)
  refine qJ_qz ?_
  unfold fX2_has_b
  refine q_iload_n (pc := 0) dX2_has_0 rfl ?_
  refine q_if_lt (pc := 1) 16 dX2_has_1 (by decide) ?_ ?_
  · refine q_iconst (pc := 16) 0 dX2_has_16 (by decide) ?_
    exact q_ireturn (pc := 17) dX2_has_17
  refine q_iload_n (pc := 4) dX2_has_4 rfl ?_
  refine q_aload_n (pc := 5) dX2_has_5 rfl ?_
  refine qg_2_2 (pc := 6) dX2_has_6 h0 lf_X2_18 ?_
  refine q_icmp_ge (pc := 9) 16 dX2_has_9 (by decide) ?_ ?_
  · refine q_iconst (pc := 16) 0 dX2_has_16 (by decide) ?_
    exact q_ireturn (pc := 17) dX2_has_17
  refine q_iconst (pc := 12) 1 dX2_has_12 (by decide) ?_
  refine q_goto (pc := 13) 17 dX2_has_13 (by decide) ?_
  exact q_ireturn (pc := 17) dX2_has_17
-- LineSearch$Plan.rayOf(I)I
def fX2_rayOf (k0 : Nat) (x1 : Int32) (sg : qSt) : qR :=
  qb (fX2_has k0 x1 sg) fun r1 s2 =>
  if r1 = 0 then
    some (0, s2)
  else
  qb (fX3_at (k0 + 1) x1 s2) fun r3 s4 =>
  some (r3, s4)
set_option maxRecDepth 20000 in
set_option maxHeartbeats 4000000 in
theorem sX2_rayOf {b : Nat} {K : List Nat} (hK : qOk K) {k0 : Nat} (h0 : qIn K k0 2) (x1 : Int32) (sg : qSt) : qS yX2_rayOf cX2_rayOf 2 (some .int) 1 21 b K [.ref (b + k0), .int x1] sg (fX2_rayOf k0 x1 sg) := by
  refine qS_of (own := RX2) rfl (by decide) hK.1 (by simp [Value.category]) (Nat.le_of_ble_eq_true rfl) (fun z _ ty h => by cases h; exact vp_nar_int _) ?_
  show qJ RX2 cX2_rayOf 2 1 21 false (fun _ _ => True) b K 0 [some (.ref (b + k0)), some (.int x1)] [] sg (fX2_rayOf k0 x1 sg)
  unfold fX2_rayOf
  refine q_aload_n (pc := 0) dX2_rayOf_0 rfl ?_
  refine q_iload_n (pc := 1) dX2_rayOf_1 rfl ?_
  refine q_callVi (pc := 2) [.int x1] dX2_rayOf_2 lm_X2_22 yX2_has_ok yX2_has_in h0 (by decide) rfl (sX2_has hK h0 x1 sg) rfl rfl (Nat.le_of_ble_eq_true rfl) ⟨by decide, by decide⟩ (fun r1 s2 => ?_)
  refine q_if_eq (pc := 5) 19 dX2_rayOf_5 (by decide) ?_ ?_
  · refine q_iconst (pc := 19) 0 dX2_rayOf_19 (by decide) ?_
    exact q_ireturn (pc := 20) dX2_rayOf_20
  refine q_aload_n (pc := 8) dX2_rayOf_8 rfl ?_
  refine qg_2_0 (pc := 9) dX2_rayOf_9 h0 lf_X2_9 ?_
  refine q_iload_n (pc := 12) dX2_rayOf_12 rfl ?_
  refine q_callSNi (pc := 13) [.ref (b + ((k0 + 1))), .int x1] dX2_rayOf_13 (by decide) yX3_at_ok yX3_at_in (sX3_at hK (qch_2_0 hK h0) x1 s2) rfl rfl (Nat.le_of_ble_eq_true rfl) ⟨by decide, by decide⟩ (fun r3 s4 => ?_)
  refine q_goto (pc := 16) 20 dX2_rayOf_16 (by decide) ?_
  exact q_ireturn (pc := 20) dX2_rayOf_20
-- LineSearch$Plan.stepsOf(I)I
def fX2_stepsOf (k0 : Nat) (x1 : Int32) (sg : qSt) : qR :=
  qb (fX2_has k0 x1 sg) fun r1 s2 =>
  if r1 = 0 then
    some (0, s2)
  else
  qb (fX3_at (k0 + 2) x1 s2) fun r3 s4 =>
  some (r3, s4)
set_option maxRecDepth 20000 in
set_option maxHeartbeats 4000000 in
theorem sX2_stepsOf {b : Nat} {K : List Nat} (hK : qOk K) {k0 : Nat} (h0 : qIn K k0 2) (x1 : Int32) (sg : qSt) : qS yX2_stepsOf cX2_stepsOf 2 (some .int) 1 21 b K [.ref (b + k0), .int x1] sg (fX2_stepsOf k0 x1 sg) := by
  refine qS_of (own := RX2) rfl (by decide) hK.1 (by simp [Value.category]) (Nat.le_of_ble_eq_true rfl) (fun z _ ty h => by cases h; exact vp_nar_int _) ?_
  show qJ RX2 cX2_stepsOf 2 1 21 false (fun _ _ => True) b K 0 [some (.ref (b + k0)), some (.int x1)] [] sg (fX2_stepsOf k0 x1 sg)
  unfold fX2_stepsOf
  refine q_aload_n (pc := 0) dX2_stepsOf_0 rfl ?_
  refine q_iload_n (pc := 1) dX2_stepsOf_1 rfl ?_
  refine q_callVi (pc := 2) [.int x1] dX2_stepsOf_2 lm_X2_22 yX2_has_ok yX2_has_in h0 (by decide) rfl (sX2_has hK h0 x1 sg) rfl rfl (Nat.le_of_ble_eq_true rfl) ⟨by decide, by decide⟩ (fun r1 s2 => ?_)
  refine q_if_eq (pc := 5) 19 dX2_stepsOf_5 (by decide) ?_ ?_
  · refine q_iconst (pc := 19) 0 dX2_stepsOf_19 (by decide) ?_
    exact q_ireturn (pc := 20) dX2_stepsOf_20
  refine q_aload_n (pc := 8) dX2_stepsOf_8 rfl ?_
  refine qg_2_1 (pc := 9) dX2_stepsOf_9 h0 lf_X2_15 ?_
  refine q_iload_n (pc := 12) dX2_stepsOf_12 rfl ?_
  refine q_callSNi (pc := 13) [.ref (b + ((k0 + 2))), .int x1] dX2_stepsOf_13 (by decide) yX3_at_ok yX3_at_in (sX3_at hK (qch_2_1 hK h0) x1 s2) rfl rfl (Nat.le_of_ble_eq_true rfl) ⟨by decide, by decide⟩ (fun r3 s4 => ?_)
  refine q_goto (pc := 16) 20 dX2_stepsOf_16 (by decide) ?_
  exact q_ireturn (pc := 20) dX2_stepsOf_20
-- LineSearch$Plan.removeLast()Z
def fX2_removeLast_b (k0 : Nat) (sg : qSt) : qR :=
  if 1 ≤ (sg k0 2) then
    some (1, qset sg k0 2 ((sg k0 2) - 1))
  else
  some (0, sg)
def fX2_removeLast (k0 : Nat) (sg : qSt) : qR := qz (fX2_removeLast_b k0 sg)
set_option maxRecDepth 20000 in
set_option maxHeartbeats 4000000 in
theorem sX2_removeLast {b : Nat} {K : List Nat} (hK : qOk K) {k0 : Nat} (h0 : qIn K k0 2) (sg : qSt) : qS yX2_removeLast cX2_removeLast 1 (some .boolean) 0 0 b K [.ref (b + k0)] sg (fX2_removeLast k0 sg) := by
  refine qS_of (own := RX2) rfl (by decide) hK.1 (by simp [Value.category]) (Nat.le_of_ble_eq_true rfl) (fun z hz ty h => by cases h; exact qz_bool hz) ?_
  show qJ RX2 cX2_removeLast 1 0 0 false (fun _ _ => True) b K 0 [some (.ref (b + k0))] [] sg (fX2_removeLast k0 sg)
  refine qJ_qz ?_
  unfold fX2_removeLast_b
  refine q_aload_n (pc := 0) dX2_removeLast_0 rfl ?_
  refine qg_2_2 (pc := 1) dX2_removeLast_1 h0 lf_X2_18 ?_
  refine q_iconst (pc := 4) 1 dX2_removeLast_4 (by decide) ?_
  refine q_icmp_ge (pc := 5) 10 dX2_removeLast_5 (by decide) ?_ ?_
  · refine q_aload_n (pc := 10) dX2_removeLast_10 rfl ?_
    refine q_dup (pc := 11) dX2_removeLast_11 rfl ?_
    refine qg_2_2 (pc := 12) dX2_removeLast_12 h0 lf_X2_18 ?_
    refine q_iconst (pc := 15) 1 dX2_removeLast_15 (by decide) ?_
    refine q_isub (pc := 16) dX2_removeLast_16 ?_
    refine qp_2_2 (pc := 17) dX2_removeLast_17 h0 lf_X2_18 ?_
    refine q_iconst (pc := 20) 1 dX2_removeLast_20 (by decide) ?_
    exact q_ireturn (pc := 21) dX2_removeLast_21
  refine q_iconst (pc := 8) 0 dX2_removeLast_8 (by decide) ?_
  exact q_ireturn (pc := 9) dX2_removeLast_9
-- LineSearch$Plan.copy(LLineSearch$Plan;)V
def fX2_copy_7 (k0 k1 : Nat) : Nat → Int32 → qSt → qR
  | 0, _, _ => none
  | n + 1, x2, sg =>
    if (sg k1 2) ≤ x2 then
      some (0, sg)
    else
    qb (fX2_rayOf k1 x2 sg) fun r1 s2 =>
    qb (fX2_stepsOf k1 x2 s2) fun r3 s4 =>
    qb (fX2_add k0 r1 r3 s4) fun r5 s6 =>
    fX2_copy_7 k0 k1 n ((x2 + 1)) s6
set_option maxRecDepth 20000 in
set_option maxHeartbeats 4000000 in
theorem tX2_copy_7 {b : Nat} {K : List Nat} (hK : qOk K) {k0 k1 : Nat} (h0 : qIn K k0 2) (h1 : qIn K k1 2) : ∀ (n : Nat) (x2 : Int32) (sg : qSt), qJ RX2 cX2_copy 3 2 44 true (fun _ _ => True) b K 7 [some (.ref (b + k0)), some (.ref (b + k1)), some (.int x2)] [] sg (fX2_copy_7 k0 k1 n x2 sg) := by
  intro n
  induction n with
  | zero => intro x2 sg; exact qJ_none
  | succ n ih =>
    intro x2 sg
    unfold fX2_copy_7
    refine q_iload_n (pc := 7) dX2_copy_7 rfl ?_
    refine q_aload_n (pc := 8) dX2_copy_8 rfl ?_
    refine qg_2_2 (pc := 9) dX2_copy_9 h1 lf_X2_18 ?_
    refine q_icmp_ge (pc := 12) 36 dX2_copy_12 (by decide) ?_ ?_
    · exact q_return (pc := 36) dX2_copy_36
    refine q_aload_n (pc := 15) dX2_copy_15 rfl ?_
    refine q_aload_n (pc := 16) dX2_copy_16 rfl ?_
    refine q_iload_n (pc := 17) dX2_copy_17 rfl ?_
    refine q_callVi (pc := 18) [.int x2] dX2_copy_18 lm_X2_34 yX2_rayOf_ok yX2_rayOf_in h1 (by decide) rfl (sX2_rayOf hK h1 x2 sg) rfl rfl (Nat.le_of_ble_eq_true rfl) ⟨by decide, by decide⟩ (fun r1 s2 => ?_)
    refine q_aload_n (pc := 21) dX2_copy_21 rfl ?_
    refine q_iload_n (pc := 22) dX2_copy_22 rfl ?_
    refine q_callVi (pc := 23) [.int x2] dX2_copy_23 lm_X2_38 yX2_stepsOf_ok yX2_stepsOf_in h1 (by decide) rfl (sX2_stepsOf hK h1 x2 s2) rfl rfl (Nat.le_of_ble_eq_true rfl) ⟨by decide, by decide⟩ (fun r3 s4 => ?_)
    refine q_callVi (pc := 26) [.int r1, .int r3] dX2_copy_26 lm_X2_41 yX2_add_ok yX2_add_in h0 (by decide) rfl (sX2_add hK h0 r1 r3 s4) rfl rfl (Nat.le_of_ble_eq_true rfl) ⟨by decide, by decide⟩ (fun r5 s6 => ?_)
    refine q_pop (pc := 29) dX2_copy_29 rfl ?_
    refine q_iinc (pc := 30) 1 dX2_copy_30 rfl (by decide) (by decide) ?_
    refine q_goto (pc := 33) 7 dX2_copy_33 (by decide) ?_
    exact ih ((x2 + 1)) s6
def fX2_copy (k0 k1 : Nat) (sg : qSt) : qR :=
  fX2_copy_7 k0 k1 qfu 0 (qset sg k0 2 0)
set_option maxRecDepth 20000 in
set_option maxHeartbeats 4000000 in
theorem sX2_copy {b : Nat} {K : List Nat} (hK : qOk K) {k0 k1 : Nat} (h0 : qIn K k0 2) (h1 : qIn K k1 2) (sg : qSt) : qS yX2_copy cX2_copy 3 none 2 44 b K [.ref (b + k0), .ref (b + k1)] sg (fX2_copy k0 k1 sg) := by
  refine qS_of (own := RX2) rfl (by decide) hK.1 (by simp [Value.category]) (Nat.le_of_ble_eq_true rfl) (fun z _ ty h => by cases h) ?_
  show qJ RX2 cX2_copy 3 2 44 true (fun _ _ => True) b K 0 [some (.ref (b + k0)), some (.ref (b + k1)), none] [] sg (fX2_copy k0 k1 sg)
  unfold fX2_copy
  refine q_aload_n (pc := 0) dX2_copy_0 rfl ?_
  refine q_iconst (pc := 1) 0 dX2_copy_1 (by decide) ?_
  refine qp_2_2 (pc := 2) dX2_copy_2 h0 lf_X2_18 ?_
  refine q_iconst (pc := 5) 0 dX2_copy_5 (by decide) ?_
  refine q_istore_n (pc := 6) dX2_copy_6 (by decide) ?_
  exact tX2_copy_7 hK h0 h1 qfu 0 (qset sg k0 2 0)
-- LineSearch$Plan.isFor(II)Z
def fX2_isFor_b (x0 x1 : Int32) (sg : qSt) : qR :=
  if x0 = (-1) then
    some (1, sg)
  else
  if (x1 - x1 / 2 * 2) = x0 then
    some (1, sg)
  else
  some (0, sg)
def fX2_isFor (x0 x1 : Int32) (sg : qSt) : qR := qz (fX2_isFor_b x0 x1 sg)
set_option maxRecDepth 20000 in
set_option maxHeartbeats 4000000 in
theorem sX2_isFor {b : Nat} {K : List Nat} (hK : qOk K) (x0 x1 : Int32) (sg : qSt) : qS yX2_isFor cX2_isFor 2 (some .boolean) 0 0 b K [.int x0, .int x1] sg (fX2_isFor x0 x1 sg) := by
  refine qS_of (own := RX2) rfl (by decide) hK.1 (by simp [Value.category]) (Nat.le_of_ble_eq_true rfl) (fun z hz ty h => by cases h; exact qz_bool hz) ?_
  show qJ RX2 cX2_isFor 2 0 0 false (fun _ _ => True) b K 0 [some (.int x0), some (.int x1)] [] sg (fX2_isFor x0 x1 sg)
  refine qJ_qz ?_
  unfold fX2_isFor_b
  refine q_iload_n (pc := 0) dX2_isFor_0 rfl ?_
  refine q_iconst (pc := 1) (-1) dX2_isFor_1 (by decide) ?_
  refine q_icmp_eq (pc := 2) 12 dX2_isFor_2 (by decide) ?_ ?_
  · refine q_iconst (pc := 12) 1 dX2_isFor_12 (by decide) ?_
    refine q_goto (pc := 13) 17 dX2_isFor_13 (by decide) ?_
    exact q_ireturn (pc := 17) dX2_isFor_17
  refine q_iload_n (pc := 5) dX2_isFor_5 rfl ?_
  refine q_iconst (pc := 6) 2 dX2_isFor_6 (by decide) ?_
  refine q_iremc (pc := 7) dX2_isFor_7 (by decide) ?_
  refine q_iload_n (pc := 8) dX2_isFor_8 rfl ?_
  refine q_icmp_ne (pc := 9) 16 dX2_isFor_9 (by decide) ?_ ?_
  · refine q_iconst (pc := 16) 0 dX2_isFor_16 (by decide) ?_
    exact q_ireturn (pc := 17) dX2_isFor_17
  refine q_iconst (pc := 12) 1 dX2_isFor_12 (by decide) ?_
  refine q_goto (pc := 13) 17 dX2_isFor_13 (by decide) ?_
  exact q_ireturn (pc := 17) dX2_isFor_17
-- LineSearch$Plan.firstTo(III)I
def fX2_firstTo_3 (k0 : Nat) : Nat → Int32 → Int32 → Int32 → Int32 → qSt → qR
  | 0, _, _, _, _, _ => none
  | n + 1, x1, x2, x3, x4, sg =>
    if (sg k0 2) ≤ x4 then
      some ((-1), sg)
    else
    qb (fX2_isFor x3 x4 sg) fun r1 s2 =>
    if r1 = 0 then
      fX2_firstTo_3 k0 n x1 x2 x3 ((x4 + 1)) s2
    else
    qb (fX2_rayOf k0 x4 s2) fun r3 s4 =>
    if r3 = x1 then
      qb (fX2_stepsOf k0 x4 s4) fun r5 s6 =>
      if r5 < x2 then
        fX2_firstTo_3 k0 n x1 x2 x3 ((x4 + 1)) s6
      else
      some (x4, s6)
    else
    fX2_firstTo_3 k0 n x1 x2 x3 ((x4 + 1)) s4
set_option maxRecDepth 20000 in
set_option maxHeartbeats 4000000 in
theorem tX2_firstTo_3 {b : Nat} {K : List Nat} (hK : qOk K) {k0 : Nat} (h0 : qIn K k0 2) : ∀ (n : Nat) (x1 x2 x3 x4 : Int32) (sg : qSt), qJ RX2 cX2_firstTo 5 2 42 false (fun _ _ => True) b K 3 [some (.ref (b + k0)), some (.int x1), some (.int x2), some (.int x3), some (.int x4)] [] sg (fX2_firstTo_3 k0 n x1 x2 x3 x4 sg) := by
  intro n
  induction n with
  | zero => intro x1 x2 x3 x4 sg; exact qJ_none
  | succ n ih =>
    intro x1 x2 x3 x4 sg
    unfold fX2_firstTo_3
    refine q_iload (pc := 3) dX2_firstTo_3 rfl ?_
    refine q_aload_n (pc := 5) dX2_firstTo_5 rfl ?_
    refine qg_2_2 (pc := 6) dX2_firstTo_6 h0 lf_X2_18 ?_
    refine q_icmp_ge (pc := 9) 50 dX2_firstTo_9 (by decide) ?_ ?_
    · refine q_iconst (pc := 50) (-1) dX2_firstTo_50 (by decide) ?_
      exact q_ireturn (pc := 51) dX2_firstTo_51
    refine q_iload_n (pc := 12) dX2_firstTo_12 rfl ?_
    refine q_iload (pc := 13) dX2_firstTo_13 rfl ?_
    refine q_callSi (pc := 15) [.int x3, .int x4] dX2_firstTo_15 lm_X2_45 yX2_isFor_ok yX2_isFor_in (sX2_isFor hK x3 x4 sg) rfl rfl (Nat.le_of_ble_eq_true rfl) ⟨by decide, by decide⟩ (fun r1 s2 => ?_)
    refine q_if_eq (pc := 18) 44 dX2_firstTo_18 (by decide) ?_ ?_
    · refine q_iinc (pc := 44) 1 dX2_firstTo_44 rfl (by decide) (by decide) ?_
      refine q_goto (pc := 47) 3 dX2_firstTo_47 (by decide) ?_
      exact ih x1 x2 x3 ((x4 + 1)) s2
    refine q_aload_n (pc := 21) dX2_firstTo_21 rfl ?_
    refine q_iload (pc := 22) dX2_firstTo_22 rfl ?_
    refine q_callVi (pc := 24) [.int x4] dX2_firstTo_24 lm_X2_34 yX2_rayOf_ok yX2_rayOf_in h0 (by decide) rfl (sX2_rayOf hK h0 x4 s2) rfl rfl (Nat.le_of_ble_eq_true rfl) ⟨by decide, by decide⟩ (fun r3 s4 => ?_)
    refine q_iload_n (pc := 27) dX2_firstTo_27 rfl ?_
    refine q_icmp_ne (pc := 28) 44 dX2_firstTo_28 (by decide) ?_ ?_
    · refine q_iinc (pc := 44) 1 dX2_firstTo_44 rfl (by decide) (by decide) ?_
      refine q_goto (pc := 47) 3 dX2_firstTo_47 (by decide) ?_
      exact ih x1 x2 x3 ((x4 + 1)) s4
    refine q_aload_n (pc := 31) dX2_firstTo_31 rfl ?_
    refine q_iload (pc := 32) dX2_firstTo_32 rfl ?_
    refine q_callVi (pc := 34) [.int x4] dX2_firstTo_34 lm_X2_38 yX2_stepsOf_ok yX2_stepsOf_in h0 (by decide) rfl (sX2_stepsOf hK h0 x4 s4) rfl rfl (Nat.le_of_ble_eq_true rfl) ⟨by decide, by decide⟩ (fun r5 s6 => ?_)
    refine q_iload_n (pc := 37) dX2_firstTo_37 rfl ?_
    refine q_icmp_lt (pc := 38) 44 dX2_firstTo_38 (by decide) ?_ ?_
    · refine q_iinc (pc := 44) 1 dX2_firstTo_44 rfl (by decide) (by decide) ?_
      refine q_goto (pc := 47) 3 dX2_firstTo_47 (by decide) ?_
      exact ih x1 x2 x3 ((x4 + 1)) s6
    refine q_iload (pc := 41) dX2_firstTo_41 rfl ?_
    exact q_ireturn (pc := 43) dX2_firstTo_43
def fX2_firstTo (k0 : Nat) (x1 x2 x3 : Int32) (sg : qSt) : qR :=
  fX2_firstTo_3 k0 qfu x1 x2 x3 0 sg
set_option maxRecDepth 20000 in
set_option maxHeartbeats 4000000 in
theorem sX2_firstTo {b : Nat} {K : List Nat} (hK : qOk K) {k0 : Nat} (h0 : qIn K k0 2) (x1 x2 x3 : Int32) (sg : qSt) : qS yX2_firstTo cX2_firstTo 5 (some .int) 2 42 b K [.ref (b + k0), .int x1, .int x2, .int x3] sg (fX2_firstTo k0 x1 x2 x3 sg) := by
  refine qS_of (own := RX2) rfl (by decide) hK.1 (by simp [Value.category]) (Nat.le_of_ble_eq_true rfl) (fun z _ ty h => by cases h; exact vp_nar_int _) ?_
  show qJ RX2 cX2_firstTo 5 2 42 false (fun _ _ => True) b K 0 [some (.ref (b + k0)), some (.int x1), some (.int x2), some (.int x3), none] [] sg (fX2_firstTo k0 x1 x2 x3 sg)
  unfold fX2_firstTo
  refine q_iconst (pc := 0) 0 dX2_firstTo_0 (by decide) ?_
  refine q_istore (pc := 1) dX2_firstTo_1 (by decide) ?_
  exact tX2_firstTo_3 hK h0 qfu x1 x2 x3 0 sg
-- LineSearch$Plan.stepsAhead(II)I
def fX2_stepsAhead_5 (k0 : Nat) : Nat → Int32 → Int32 → Int32 → Int32 → qSt → qR
  | 0, _, _, _, _, _ => none
  | n + 1, x1, x2, x3, x4, sg =>
    if x1 ≤ x4 then
      some (x3, sg)
    else
    if (sg k0 2) ≤ x4 then
      some (x3, sg)
    else
    qb (fX2_isFor x2 x4 sg) fun r1 s2 =>
    if r1 = 0 then
      fX2_stepsAhead_5 k0 n x1 x2 x3 ((x4 + 1)) s2
    else
    qb (fX2_stepsOf k0 x4 s2) fun r3 s4 =>
    fX2_stepsAhead_5 k0 n x1 x2 ((x3 + r3)) ((x4 + 1)) s4
set_option maxRecDepth 20000 in
set_option maxHeartbeats 4000000 in
theorem tX2_stepsAhead_5 {b : Nat} {K : List Nat} (hK : qOk K) {k0 : Nat} (h0 : qIn K k0 2) : ∀ (n : Nat) (x1 x2 x3 x4 : Int32) (sg : qSt), qJ RX2 cX2_stepsAhead 5 2 42 false (fun _ _ => True) b K 5 [some (.ref (b + k0)), some (.int x1), some (.int x2), some (.int x3), some (.int x4)] [] sg (fX2_stepsAhead_5 k0 n x1 x2 x3 x4 sg) := by
  intro n
  induction n with
  | zero => intro x1 x2 x3 x4 sg; exact qJ_none
  | succ n ih =>
    intro x1 x2 x3 x4 sg
    unfold fX2_stepsAhead_5
    refine q_iload (pc := 5) dX2_stepsAhead_5 rfl ?_
    refine q_iload_n (pc := 7) dX2_stepsAhead_7 rfl ?_
    refine q_icmp_ge (pc := 8) 44 dX2_stepsAhead_8 (by decide) ?_ ?_
    · refine q_iload_n (pc := 44) dX2_stepsAhead_44 rfl ?_
      exact q_ireturn (pc := 45) dX2_stepsAhead_45
    refine q_iload (pc := 11) dX2_stepsAhead_11 rfl ?_
    refine q_aload_n (pc := 13) dX2_stepsAhead_13 rfl ?_
    refine qg_2_2 (pc := 14) dX2_stepsAhead_14 h0 lf_X2_18 ?_
    refine q_icmp_ge (pc := 17) 44 dX2_stepsAhead_17 (by decide) ?_ ?_
    · refine q_iload_n (pc := 44) dX2_stepsAhead_44 rfl ?_
      exact q_ireturn (pc := 45) dX2_stepsAhead_45
    refine q_iload_n (pc := 20) dX2_stepsAhead_20 rfl ?_
    refine q_iload (pc := 21) dX2_stepsAhead_21 rfl ?_
    refine q_callSi (pc := 23) [.int x2, .int x4] dX2_stepsAhead_23 lm_X2_45 yX2_isFor_ok yX2_isFor_in (sX2_isFor hK x2 x4 sg) rfl rfl (Nat.le_of_ble_eq_true rfl) ⟨by decide, by decide⟩ (fun r1 s2 => ?_)
    refine q_if_eq (pc := 26) 38 dX2_stepsAhead_26 (by decide) ?_ ?_
    · refine q_iinc (pc := 38) 1 dX2_stepsAhead_38 rfl (by decide) (by decide) ?_
      refine q_goto (pc := 41) 5 dX2_stepsAhead_41 (by decide) ?_
      exact ih x1 x2 x3 ((x4 + 1)) s2
    refine q_iload_n (pc := 29) dX2_stepsAhead_29 rfl ?_
    refine q_aload_n (pc := 30) dX2_stepsAhead_30 rfl ?_
    refine q_iload (pc := 31) dX2_stepsAhead_31 rfl ?_
    refine q_callVi (pc := 33) [.int x4] dX2_stepsAhead_33 lm_X2_38 yX2_stepsOf_ok yX2_stepsOf_in h0 (by decide) rfl (sX2_stepsOf hK h0 x4 s2) rfl rfl (Nat.le_of_ble_eq_true rfl) ⟨by decide, by decide⟩ (fun r3 s4 => ?_)
    refine q_iadd (pc := 36) dX2_stepsAhead_36 ?_
    refine q_istore_n (pc := 37) dX2_stepsAhead_37 (by decide) ?_
    refine q_iinc (pc := 38) 1 dX2_stepsAhead_38 rfl (by decide) (by decide) ?_
    refine q_goto (pc := 41) 5 dX2_stepsAhead_41 (by decide) ?_
    exact ih x1 x2 ((x3 + r3)) ((x4 + 1)) s4
def fX2_stepsAhead (k0 : Nat) (x1 x2 : Int32) (sg : qSt) : qR :=
  fX2_stepsAhead_5 k0 qfu x1 x2 0 0 sg
set_option maxRecDepth 20000 in
set_option maxHeartbeats 4000000 in
theorem sX2_stepsAhead {b : Nat} {K : List Nat} (hK : qOk K) {k0 : Nat} (h0 : qIn K k0 2) (x1 x2 : Int32) (sg : qSt) : qS yX2_stepsAhead cX2_stepsAhead 5 (some .int) 2 42 b K [.ref (b + k0), .int x1, .int x2] sg (fX2_stepsAhead k0 x1 x2 sg) := by
  refine qS_of (own := RX2) rfl (by decide) hK.1 (by simp [Value.category]) (Nat.le_of_ble_eq_true rfl) (fun z _ ty h => by cases h; exact vp_nar_int _) ?_
  show qJ RX2 cX2_stepsAhead 5 2 42 false (fun _ _ => True) b K 0 [some (.ref (b + k0)), some (.int x1), some (.int x2), none, none] [] sg (fX2_stepsAhead k0 x1 x2 sg)
  unfold fX2_stepsAhead
  refine q_iconst (pc := 0) 0 dX2_stepsAhead_0 (by decide) ?_
  refine q_istore_n (pc := 1) dX2_stepsAhead_1 (by decide) ?_
  refine q_iconst (pc := 2) 0 dX2_stepsAhead_2 (by decide) ?_
  refine q_istore (pc := 3) dX2_stepsAhead_3 (by decide) ?_
  exact tX2_stepsAhead_5 hK h0 qfu x1 x2 0 0 sg
-- LineSearch$Plan.farthest(II)I
def fX2_farthest_5 (k0 : Nat) : Nat → Int32 → Int32 → Int32 → Int32 → qSt → qR
  | 0, _, _, _, _, _ => none
  | n + 1, x1, x2, x3, x4, sg =>
    if x2 ≤ x4 then
      some (x3, sg)
    else
    if (sg k0 2) ≤ x4 then
      some (x3, sg)
    else
    qb (fX2_rayOf k0 x4 sg) fun r1 s2 =>
    if r1 = x1 then
      qb (fX2_stepsOf k0 x4 s2) fun r3 s4 =>
      fX2_farthest_5 k0 n x1 x2 ((if x3 < r3 then r3 else x3)) ((x4 + 1)) s4
    else
    fX2_farthest_5 k0 n x1 x2 x3 ((x4 + 1)) s2
set_option maxRecDepth 20000 in
set_option maxHeartbeats 4000000 in
theorem tX2_farthest_5 {b : Nat} {K : List Nat} (hK : qOk K) {k0 : Nat} (h0 : qIn K k0 2) : ∀ (n : Nat) (x1 x2 x3 x4 : Int32) (sg : qSt), qJ RX2 cX2_farthest 5 2 42 false (fun _ _ => True) b K 5 [some (.ref (b + k0)), some (.int x1), some (.int x2), some (.int x3), some (.int x4)] [] sg (fX2_farthest_5 k0 n x1 x2 x3 x4 sg) := by
  intro n
  induction n with
  | zero => intro x1 x2 x3 x4 sg; exact qJ_none
  | succ n ih =>
    intro x1 x2 x3 x4 sg
    unfold fX2_farthest_5
    refine q_iload (pc := 5) dX2_farthest_5 rfl ?_
    refine q_iload_n (pc := 7) dX2_farthest_7 rfl ?_
    refine q_icmp_ge (pc := 8) 47 dX2_farthest_8 (by decide) ?_ ?_
    · refine q_iload_n (pc := 47) dX2_farthest_47 rfl ?_
      exact q_ireturn (pc := 48) dX2_farthest_48
    refine q_iload (pc := 11) dX2_farthest_11 rfl ?_
    refine q_aload_n (pc := 13) dX2_farthest_13 rfl ?_
    refine qg_2_2 (pc := 14) dX2_farthest_14 h0 lf_X2_18 ?_
    refine q_icmp_ge (pc := 17) 47 dX2_farthest_17 (by decide) ?_ ?_
    · refine q_iload_n (pc := 47) dX2_farthest_47 rfl ?_
      exact q_ireturn (pc := 48) dX2_farthest_48
    refine q_aload_n (pc := 20) dX2_farthest_20 rfl ?_
    refine q_iload (pc := 21) dX2_farthest_21 rfl ?_
    refine q_callVi (pc := 23) [.int x4] dX2_farthest_23 lm_X2_34 yX2_rayOf_ok yX2_rayOf_in h0 (by decide) rfl (sX2_rayOf hK h0 x4 sg) rfl rfl (Nat.le_of_ble_eq_true rfl) ⟨by decide, by decide⟩ (fun r1 s2 => ?_)
    refine q_iload_n (pc := 26) dX2_farthest_26 rfl ?_
    refine q_icmp_ne (pc := 27) 41 dX2_farthest_27 (by decide) ?_ ?_
    · refine q_iinc (pc := 41) 1 dX2_farthest_41 rfl (by decide) (by decide) ?_
      refine q_goto (pc := 44) 5 dX2_farthest_44 (by decide) ?_
      exact ih x1 x2 x3 ((x4 + 1)) s2
    refine q_iload_n (pc := 30) dX2_farthest_30 rfl ?_
    refine q_aload_n (pc := 31) dX2_farthest_31 rfl ?_
    refine q_iload (pc := 32) dX2_farthest_32 rfl ?_
    refine q_callVi (pc := 34) [.int x4] dX2_farthest_34 lm_X2_38 yX2_stepsOf_ok yX2_stepsOf_in h0 (by decide) rfl (sX2_stepsOf hK h0 x4 s2) rfl rfl (Nat.le_of_ble_eq_true rfl) ⟨by decide, by decide⟩ (fun r3 s4 => ?_)
    refine q_mmax (pc := 37) dX2_farthest_37 lm_X2_48 qM_max1 qM_i qM_max3 (by decide) (Nat.le_of_ble_eq_true rfl) ?_
    refine q_istore_n (pc := 40) dX2_farthest_40 (by decide) ?_
    refine q_iinc (pc := 41) 1 dX2_farthest_41 rfl (by decide) (by decide) ?_
    refine q_goto (pc := 44) 5 dX2_farthest_44 (by decide) ?_
    exact ih x1 x2 ((if x3 < r3 then r3 else x3)) ((x4 + 1)) s4
def fX2_farthest (k0 : Nat) (x1 x2 : Int32) (sg : qSt) : qR :=
  fX2_farthest_5 k0 qfu x1 x2 0 0 sg
set_option maxRecDepth 20000 in
set_option maxHeartbeats 4000000 in
theorem sX2_farthest {b : Nat} {K : List Nat} (hK : qOk K) {k0 : Nat} (h0 : qIn K k0 2) (x1 x2 : Int32) (sg : qSt) : qS yX2_farthest cX2_farthest 5 (some .int) 2 42 b K [.ref (b + k0), .int x1, .int x2] sg (fX2_farthest k0 x1 x2 sg) := by
  refine qS_of (own := RX2) rfl (by decide) hK.1 (by simp [Value.category]) (Nat.le_of_ble_eq_true rfl) (fun z _ ty h => by cases h; exact vp_nar_int _) ?_
  show qJ RX2 cX2_farthest 5 2 42 false (fun _ _ => True) b K 0 [some (.ref (b + k0)), some (.int x1), some (.int x2), none, none] [] sg (fX2_farthest k0 x1 x2 sg)
  unfold fX2_farthest
  refine q_iconst (pc := 0) 0 dX2_farthest_0 (by decide) ?_
  refine q_istore_n (pc := 1) dX2_farthest_1 (by decide) ?_
  refine q_iconst (pc := 2) 0 dX2_farthest_2 (by decide) ?_
  refine q_istore (pc := 3) dX2_farthest_3 (by decide) ?_
  exact tX2_farthest_5 hK h0 qfu x1 x2 0 0 sg
