/-! ===== by program (gen.py): the walk of methods ===== -/
-- LineSearch.rays(II)I
def fX3_rays_41 (k0 : Nat) (x1 x2 : Int32) (sg : qSt) : qR :=
    qb (fX0_lay (k0 + 1) x1 x2 (qset sg k0 7 0)) fun r1 s2 =>
    qb (fX2_empty (k0 + 3) s2) fun r3 s4 =>
    some ((x1 * x2), s4)
set_option maxRecDepth 20000 in
set_option maxHeartbeats 4000000 in
theorem tX3_rays_41 {b : Nat} {K : List Nat} (hK : qOk K) {k0 : Nat} (h0 : qIn K k0 3) : ∀ (x1 x2 : Int32) (sg : qSt), qJ RX3 cX3_rays 3 2 44 false (fun _ _ => True) b K 41 [some (.ref (b + k0)), some (.int x1), some (.int x2)] [] sg (fX3_rays_41 k0 x1 x2 sg) := by
  intro x1 x2 sg
  unfold fX3_rays_41
  refine q_aload_n (pc := 41) dX3_rays_41 rfl ?_
  refine q_iconst (pc := 42) 0 dX3_rays_42 (by decide) ?_
  refine qp_3_7 (pc := 43) dX3_rays_43 h0 lf_X3_43 (by decide) (by decide) ?_
  refine q_aload_n (pc := 46) dX3_rays_46 rfl ?_
  refine qg_3_2 (pc := 47) dX3_rays_47 h0 lf_X3_19 ?_
  refine q_iload_n (pc := 50) dX3_rays_50 rfl ?_
  refine q_iload_n (pc := 51) dX3_rays_51 rfl ?_
  refine q_callVv (pc := 52) [.int x1, .int x2] dX3_rays_52 lm_X3_60 yX0_lay_ok yX0_lay_in (qch_3_2 hK h0) (by decide) rfl (sX0_lay hK (qch_3_2 hK h0) x1 x2 (qset sg k0 7 0)) rfl rfl (Nat.le_of_ble_eq_true rfl) ⟨by decide, by decide⟩ (fun r1 s2 => ?_)
  refine q_aload_n (pc := 55) dX3_rays_55 rfl ?_
  refine qg_3_3 (pc := 56) dX3_rays_56 h0 lf_X3_26 ?_
  refine q_callVv (pc := 59) [] dX3_rays_59 lm_X3_64 yX2_empty_ok yX2_empty_in (qch_3_3 hK h0) (by decide) rfl (sX2_empty hK (qch_3_3 hK h0) s2) rfl rfl (Nat.le_of_ble_eq_true rfl) ⟨by decide, by decide⟩ (fun r3 s4 => ?_)
  refine q_iload_n (pc := 62) dX3_rays_62 rfl ?_
  refine q_iload_n (pc := 63) dX3_rays_63 rfl ?_
  refine q_imul (pc := 64) dX3_rays_64 ?_
  exact q_ireturn (pc := 65) dX3_rays_65
def fX3_rays (k0 : Nat) (x1 x2 : Int32) (sg : qSt) : qR :=
  if x1 < 2 then
    some ((-2), sg)
  else
  if 3 < x1 then
    some ((-2), sg)
  else
  if x2 < 1 then
    some ((-2), sg)
  else
  if x2 ≤ 8 then
    qb (fX0_isOf (k0 + 1) x1 x2 sg) fun r1 s2 =>
    if r1 = 0 then
      fX3_rays_41 k0 x1 x2 (qset s2 k0 8 0)
    else
    fX3_rays_41 k0 x1 x2 s2
  else
  some ((-2), sg)
set_option maxRecDepth 20000 in
set_option maxHeartbeats 4000000 in
theorem sX3_rays {b : Nat} {K : List Nat} (hK : qOk K) {k0 : Nat} (h0 : qIn K k0 3) (x1 x2 : Int32) (sg : qSt) : qS yX3_rays cX3_rays 3 (some .int) 2 44 b K [.ref (b + k0), .int x1, .int x2] sg (fX3_rays k0 x1 x2 sg) := by
  refine qS_of (own := RX3) rfl (by decide) hK.1 (by simp [Value.category]) (Nat.le_of_ble_eq_true rfl) (fun z _ ty h => by cases h; exact vp_nar_int _) ?_
  show qJ RX3 cX3_rays 3 2 44 false (fun _ _ => True) b K 0 [some (.ref (b + k0)), some (.int x1), some (.int x2)] [] sg (fX3_rays k0 x1 x2 sg)
  unfold fX3_rays
  refine q_iload_n (pc := 0) dX3_rays_0 rfl ?_
  refine q_iconst (pc := 1) 2 dX3_rays_1 (by decide) ?_
  refine q_icmp_lt (pc := 2) 21 dX3_rays_2 (by decide) ?_ ?_
  · refine q_bipush (pc := 21) (-2) dX3_rays_21 (by decide) ?_
    exact q_ireturn (pc := 23) dX3_rays_23
  refine q_iload_n (pc := 5) dX3_rays_5 rfl ?_
  refine q_iconst (pc := 6) 3 dX3_rays_6 (by decide) ?_
  refine q_icmp_gt (pc := 7) 21 dX3_rays_7 (by decide) ?_ ?_
  · refine q_bipush (pc := 21) (-2) dX3_rays_21 (by decide) ?_
    exact q_ireturn (pc := 23) dX3_rays_23
  refine q_iload_n (pc := 10) dX3_rays_10 rfl ?_
  refine q_iconst (pc := 11) 1 dX3_rays_11 (by decide) ?_
  refine q_icmp_lt (pc := 12) 21 dX3_rays_12 (by decide) ?_ ?_
  · refine q_bipush (pc := 21) (-2) dX3_rays_21 (by decide) ?_
    exact q_ireturn (pc := 23) dX3_rays_23
  refine q_iload_n (pc := 15) dX3_rays_15 rfl ?_
  refine q_bipush (pc := 16) 8 dX3_rays_16 (by decide) ?_
  refine q_icmp_le (pc := 18) 24 dX3_rays_18 (by decide) ?_ ?_
  · refine q_aload_n (pc := 24) dX3_rays_24 rfl ?_
    refine qg_3_2 (pc := 25) dX3_rays_25 h0 lf_X3_19 ?_
    refine q_iload_n (pc := 28) dX3_rays_28 rfl ?_
    refine q_iload_n (pc := 29) dX3_rays_29 rfl ?_
    refine q_callVi (pc := 30) [.int x1, .int x2] dX3_rays_30 lm_X3_56 yX0_isOf_ok yX0_isOf_in (qch_3_2 hK h0) (by decide) rfl (sX0_isOf hK (qch_3_2 hK h0) x1 x2 sg) rfl rfl (Nat.le_of_ble_eq_true rfl) ⟨by decide, by decide⟩ (fun r1 s2 => ?_)
    refine q_if_ne (pc := 33) 41 dX3_rays_33 (by decide) ?_ ?_
    · exact tX3_rays_41 hK h0 x1 x2 s2
    refine q_aload_n (pc := 36) dX3_rays_36 rfl ?_
    refine q_iconst (pc := 37) 0 dX3_rays_37 (by decide) ?_
    refine qp_3_8 (pc := 38) dX3_rays_38 h0 lf_X3_47 (by decide) (by decide) ?_
    exact tX3_rays_41 hK h0 x1 x2 (qset s2 k0 8 0)
  refine q_bipush (pc := 21) (-2) dX3_rays_21 (by decide) ?_
  exact q_ireturn (pc := 23) dX3_rays_23
-- LineSearch.costs(II)I
def fX3_costs (k0 : Nat) (x1 x2 : Int32) (sg : qSt) : qR :=
  if x1 < 1 then
    some ((-2), sg)
  else
  if 9 < x1 then
    some ((-2), sg)
  else
  if x2 < 1 then
    some ((-2), sg)
  else
  if x2 ≤ 9 then
    some (1, qset (qset sg k0 0 x1) k0 1 x2)
  else
  some ((-2), sg)
set_option maxRecDepth 20000 in
set_option maxHeartbeats 4000000 in
theorem sX3_costs {b : Nat} {K : List Nat} (hK : qOk K) {k0 : Nat} (h0 : qIn K k0 3) (x1 x2 : Int32) (sg : qSt) : qS yX3_costs cX3_costs 3 (some .int) 0 0 b K [.ref (b + k0), .int x1, .int x2] sg (fX3_costs k0 x1 x2 sg) := by
  refine qS_of (own := RX3) rfl (by decide) hK.1 (by simp [Value.category]) (Nat.le_of_ble_eq_true rfl) (fun z _ ty h => by cases h; exact vp_nar_int _) ?_
  show qJ RX3 cX3_costs 3 0 0 false (fun _ _ => True) b K 0 [some (.ref (b + k0)), some (.int x1), some (.int x2)] [] sg (fX3_costs k0 x1 x2 sg)
  unfold fX3_costs
  refine q_iload_n (pc := 0) dX3_costs_0 rfl ?_
  refine q_iconst (pc := 1) 1 dX3_costs_1 (by decide) ?_
  refine q_icmp_lt (pc := 2) 22 dX3_costs_2 (by decide) ?_ ?_
  · refine q_bipush (pc := 22) (-2) dX3_costs_22 (by decide) ?_
    exact q_ireturn (pc := 24) dX3_costs_24
  refine q_iload_n (pc := 5) dX3_costs_5 rfl ?_
  refine q_bipush (pc := 6) 9 dX3_costs_6 (by decide) ?_
  refine q_icmp_gt (pc := 8) 22 dX3_costs_8 (by decide) ?_ ?_
  · refine q_bipush (pc := 22) (-2) dX3_costs_22 (by decide) ?_
    exact q_ireturn (pc := 24) dX3_costs_24
  refine q_iload_n (pc := 11) dX3_costs_11 rfl ?_
  refine q_iconst (pc := 12) 1 dX3_costs_12 (by decide) ?_
  refine q_icmp_lt (pc := 13) 22 dX3_costs_13 (by decide) ?_ ?_
  · refine q_bipush (pc := 22) (-2) dX3_costs_22 (by decide) ?_
    exact q_ireturn (pc := 24) dX3_costs_24
  refine q_iload_n (pc := 16) dX3_costs_16 rfl ?_
  refine q_bipush (pc := 17) 9 dX3_costs_17 (by decide) ?_
  refine q_icmp_le (pc := 19) 25 dX3_costs_19 (by decide) ?_ ?_
  · refine q_aload_n (pc := 25) dX3_costs_25 rfl ?_
    refine q_iload_n (pc := 26) dX3_costs_26 rfl ?_
    refine qp_3_0 (pc := 27) dX3_costs_27 h0 lf_X3_9 ?_
    refine q_aload_n (pc := 30) dX3_costs_30 rfl ?_
    refine q_iload_n (pc := 31) dX3_costs_31 rfl ?_
    refine qp_3_1 (pc := 32) dX3_costs_32 h0 lf_X3_13 ?_
    refine q_iconst (pc := 35) 1 dX3_costs_35 (by decide) ?_
    exact q_ireturn (pc := 36) dX3_costs_36
  refine q_bipush (pc := 22) (-2) dX3_costs_22 (by decide) ?_
  exact q_ireturn (pc := 24) dX3_costs_24
-- LineSearch.share(III)I
def fX3_share (k0 : Nat) (x1 x2 x3 : Int32) (sg : qSt) : qR :=
  qb (fX0_has (k0 + 1) x1 x2 sg) fun r1 s2 =>
  if r1 = 0 then
    some ((-1), s2)
  else
  if x3 < 0 then
    some ((-2), s2)
  else
  if x3 ≤ 100 then
    qb (fX0_shareAt (k0 + 1) x1 x2 s2) fun r3 s4 =>
    qb (fX0_setShare (k0 + 1) x1 x2 x3 s4) fun r5 s6 =>
    if x3 = r3 then
      some (r3, s6)
    else
    some (r3, qset s6 k0 7 0)
  else
  some ((-2), s2)
set_option maxRecDepth 20000 in
set_option maxHeartbeats 4000000 in
theorem sX3_share {b : Nat} {K : List Nat} (hK : qOk K) {k0 : Nat} (h0 : qIn K k0 3) (x1 x2 x3 : Int32) (sg : qSt) : qS yX3_share cX3_share 5 (some .int) 2 45 b K [.ref (b + k0), .int x1, .int x2, .int x3] sg (fX3_share k0 x1 x2 x3 sg) := by
  refine qS_of (own := RX3) rfl (by decide) hK.1 (by simp [Value.category]) (Nat.le_of_ble_eq_true rfl) (fun z _ ty h => by cases h; exact vp_nar_int _) ?_
  show qJ RX3 cX3_share 5 2 45 false (fun _ _ => True) b K 0 [some (.ref (b + k0)), some (.int x1), some (.int x2), some (.int x3), none] [] sg (fX3_share k0 x1 x2 x3 sg)
  unfold fX3_share
  refine q_aload_n (pc := 0) dX3_share_0 rfl ?_
  refine qg_3_2 (pc := 1) dX3_share_1 h0 lf_X3_19 ?_
  refine q_iload_n (pc := 4) dX3_share_4 rfl ?_
  refine q_iload_n (pc := 5) dX3_share_5 rfl ?_
  refine q_callVi (pc := 6) [.int x1, .int x2] dX3_share_6 lm_X3_67 yX0_has_ok yX0_has_in (qch_3_2 hK h0) (by decide) rfl (sX0_has hK (qch_3_2 hK h0) x1 x2 sg) rfl rfl (Nat.le_of_ble_eq_true rfl) ⟨by decide, by decide⟩ (fun r1 s2 => ?_)
  refine q_if_ne (pc := 9) 14 dX3_share_9 (by decide) ?_ ?_
  · refine q_iload_n (pc := 14) dX3_share_14 rfl ?_
    refine q_if_lt (pc := 15) 24 dX3_share_15 (by decide) ?_ ?_
    · refine q_bipush (pc := 24) (-2) dX3_share_24 (by decide) ?_
      exact q_ireturn (pc := 26) dX3_share_26
    refine q_iload_n (pc := 18) dX3_share_18 rfl ?_
    refine q_bipush (pc := 19) 100 dX3_share_19 (by decide) ?_
    refine q_icmp_le (pc := 21) 27 dX3_share_21 (by decide) ?_ ?_
    · refine q_aload_n (pc := 27) dX3_share_27 rfl ?_
      refine qg_3_2 (pc := 28) dX3_share_28 h0 lf_X3_19 ?_
      refine q_iload_n (pc := 31) dX3_share_31 rfl ?_
      refine q_iload_n (pc := 32) dX3_share_32 rfl ?_
      refine q_callVi (pc := 33) [.int x1, .int x2] dX3_share_33 lm_X3_70 yX0_shareAt_ok yX0_shareAt_in (qch_3_2 hK h0) (by decide) rfl (sX0_shareAt hK (qch_3_2 hK h0) x1 x2 s2) rfl rfl (Nat.le_of_ble_eq_true rfl) ⟨by decide, by decide⟩ (fun r3 s4 => ?_)
      refine q_istore (pc := 36) dX3_share_36 (by decide) ?_
      refine q_aload_n (pc := 38) dX3_share_38 rfl ?_
      refine qg_3_2 (pc := 39) dX3_share_39 h0 lf_X3_19 ?_
      refine q_iload_n (pc := 42) dX3_share_42 rfl ?_
      refine q_iload_n (pc := 43) dX3_share_43 rfl ?_
      refine q_iload_n (pc := 44) dX3_share_44 rfl ?_
      refine q_callVv (pc := 45) [.int x1, .int x2, .int x3] dX3_share_45 lm_X3_74 yX0_setShare_ok yX0_setShare_in (qch_3_2 hK h0) (by decide) rfl (sX0_setShare hK (qch_3_2 hK h0) x1 x2 x3 s4) rfl rfl (Nat.le_of_ble_eq_true rfl) ⟨by decide, by decide⟩ (fun r5 s6 => ?_)
      refine q_iload_n (pc := 48) dX3_share_48 rfl ?_
      refine q_iload (pc := 49) dX3_share_49 rfl ?_
      refine q_icmp_eq (pc := 51) 59 dX3_share_51 (by decide) ?_ ?_
      · refine q_iload (pc := 59) dX3_share_59 rfl ?_
        exact q_ireturn (pc := 61) dX3_share_61
      refine q_aload_n (pc := 54) dX3_share_54 rfl ?_
      refine q_iconst (pc := 55) 0 dX3_share_55 (by decide) ?_
      refine qp_3_7 (pc := 56) dX3_share_56 h0 lf_X3_43 (by decide) (by decide) ?_
      refine q_iload (pc := 59) dX3_share_59 rfl ?_
      exact q_ireturn (pc := 61) dX3_share_61
    refine q_bipush (pc := 24) (-2) dX3_share_24 (by decide) ?_
    exact q_ireturn (pc := 26) dX3_share_26
  refine q_iconst (pc := 12) (-1) dX3_share_12 (by decide) ?_
  exact q_ireturn (pc := 13) dX3_share_13
-- LineSearch.shareOf(II)I
def fX3_shareOf (k0 : Nat) (x1 x2 : Int32) (sg : qSt) : qR :=
  qb (fX0_has (k0 + 1) x1 x2 sg) fun r1 s2 =>
  if r1 = 0 then
    some ((-1), s2)
  else
  qb (fX0_shareAt (k0 + 1) x1 x2 s2) fun r3 s4 =>
  some (r3, s4)
set_option maxRecDepth 20000 in
set_option maxHeartbeats 4000000 in
theorem sX3_shareOf {b : Nat} {K : List Nat} (hK : qOk K) {k0 : Nat} (h0 : qIn K k0 3) (x1 x2 : Int32) (sg : qSt) : qS yX3_shareOf cX3_shareOf 3 (some .int) 2 44 b K [.ref (b + k0), .int x1, .int x2] sg (fX3_shareOf k0 x1 x2 sg) := by
  refine qS_of (own := RX3) rfl (by decide) hK.1 (by simp [Value.category]) (Nat.le_of_ble_eq_true rfl) (fun z _ ty h => by cases h; exact vp_nar_int _) ?_
  show qJ RX3 cX3_shareOf 3 2 44 false (fun _ _ => True) b K 0 [some (.ref (b + k0)), some (.int x1), some (.int x2)] [] sg (fX3_shareOf k0 x1 x2 sg)
  unfold fX3_shareOf
  refine q_aload_n (pc := 0) dX3_shareOf_0 rfl ?_
  refine qg_3_2 (pc := 1) dX3_shareOf_1 h0 lf_X3_19 ?_
  refine q_iload_n (pc := 4) dX3_shareOf_4 rfl ?_
  refine q_iload_n (pc := 5) dX3_shareOf_5 rfl ?_
  refine q_callVi (pc := 6) [.int x1, .int x2] dX3_shareOf_6 lm_X3_67 yX0_has_ok yX0_has_in (qch_3_2 hK h0) (by decide) rfl (sX0_has hK (qch_3_2 hK h0) x1 x2 sg) rfl rfl (Nat.le_of_ble_eq_true rfl) ⟨by decide, by decide⟩ (fun r1 s2 => ?_)
  refine q_if_eq (pc := 9) 24 dX3_shareOf_9 (by decide) ?_ ?_
  · refine q_iconst (pc := 24) (-1) dX3_shareOf_24 (by decide) ?_
    exact q_ireturn (pc := 25) dX3_shareOf_25
  refine q_aload_n (pc := 12) dX3_shareOf_12 rfl ?_
  refine qg_3_2 (pc := 13) dX3_shareOf_13 h0 lf_X3_19 ?_
  refine q_iload_n (pc := 16) dX3_shareOf_16 rfl ?_
  refine q_iload_n (pc := 17) dX3_shareOf_17 rfl ?_
  refine q_callVi (pc := 18) [.int x1, .int x2] dX3_shareOf_18 lm_X3_70 yX0_shareAt_ok yX0_shareAt_in (qch_3_2 hK h0) (by decide) rfl (sX0_shareAt hK (qch_3_2 hK h0) x1 x2 s2) rfl rfl (Nat.le_of_ble_eq_true rfl) ⟨by decide, by decide⟩ (fun r3 s4 => ?_)
  refine q_goto (pc := 21) 25 dX3_shareOf_21 (by decide) ?_
  exact q_ireturn (pc := 25) dX3_shareOf_25
-- LineSearch.trip(II)I
def fX3_trip (k0 : Nat) (x1 x2 : Int32) (sg : qSt) : qR :=
  qb (fX0_has (k0 + 1) x1 x2 sg) fun r1 s2 =>
  if r1 = 0 then
    some ((-1), s2)
  else
  qb (fX2_add (k0 + 3) x1 x2 s2) fun r3 s4 =>
  if r3 = 0 then
    some ((-4), s4)
  else
  some ((s2 (k0 + 3) 2), s4)
set_option maxRecDepth 20000 in
set_option maxHeartbeats 4000000 in
theorem sX3_trip {b : Nat} {K : List Nat} (hK : qOk K) {k0 : Nat} (h0 : qIn K k0 3) (x1 x2 : Int32) (sg : qSt) : qS yX3_trip cX3_trip 4 (some .int) 2 44 b K [.ref (b + k0), .int x1, .int x2] sg (fX3_trip k0 x1 x2 sg) := by
  refine qS_of (own := RX3) rfl (by decide) hK.1 (by simp [Value.category]) (Nat.le_of_ble_eq_true rfl) (fun z _ ty h => by cases h; exact vp_nar_int _) ?_
  show qJ RX3 cX3_trip 4 2 44 false (fun _ _ => True) b K 0 [some (.ref (b + k0)), some (.int x1), some (.int x2), none] [] sg (fX3_trip k0 x1 x2 sg)
  unfold fX3_trip
  refine q_aload_n (pc := 0) dX3_trip_0 rfl ?_
  refine qg_3_2 (pc := 1) dX3_trip_1 h0 lf_X3_19 ?_
  refine q_iload_n (pc := 4) dX3_trip_4 rfl ?_
  refine q_iload_n (pc := 5) dX3_trip_5 rfl ?_
  refine q_callVi (pc := 6) [.int x1, .int x2] dX3_trip_6 lm_X3_67 yX0_has_ok yX0_has_in (qch_3_2 hK h0) (by decide) rfl (sX0_has hK (qch_3_2 hK h0) x1 x2 sg) rfl rfl (Nat.le_of_ble_eq_true rfl) ⟨by decide, by decide⟩ (fun r1 s2 => ?_)
  refine q_if_ne (pc := 9) 14 dX3_trip_9 (by decide) ?_ ?_
  · refine q_aload_n (pc := 14) dX3_trip_14 rfl ?_
    refine qg_3_3 (pc := 15) dX3_trip_15 h0 lf_X3_26 ?_
    refine qg_2_2 (pc := 18) dX3_trip_18 (qch_3_3 hK h0) lf_X3_78 ?_
    refine q_istore_n (pc := 21) dX3_trip_21 (by decide) ?_
    refine q_aload_n (pc := 22) dX3_trip_22 rfl ?_
    refine qg_3_3 (pc := 23) dX3_trip_23 h0 lf_X3_26 ?_
    refine q_iload_n (pc := 26) dX3_trip_26 rfl ?_
    refine q_iload_n (pc := 27) dX3_trip_27 rfl ?_
    refine q_callVi (pc := 28) [.int x1, .int x2] dX3_trip_28 lm_X3_81 yX2_add_ok yX2_add_in (qch_3_3 hK h0) (by decide) rfl (sX2_add hK (qch_3_3 hK h0) x1 x2 s2) rfl rfl (Nat.le_of_ble_eq_true rfl) ⟨by decide, by decide⟩ (fun r3 s4 => ?_)
    refine q_if_eq (pc := 31) 38 dX3_trip_31 (by decide) ?_ ?_
    · refine q_bipush (pc := 38) (-4) dX3_trip_38 (by decide) ?_
      exact q_ireturn (pc := 40) dX3_trip_40
    refine q_iload_n (pc := 34) dX3_trip_34 rfl ?_
    refine q_goto (pc := 35) 40 dX3_trip_35 (by decide) ?_
    exact q_ireturn (pc := 40) dX3_trip_40
  refine q_iconst (pc := 12) (-1) dX3_trip_12 (by decide) ?_
  exact q_ireturn (pc := 13) dX3_trip_13
-- LineSearch.wholeTrips(I)I
def fX3_wholeTrips (k0 : Nat) (x1 : Int32) (sg : qSt) : qR :=
  some ((((sg k0 0) + (sg k0 1)) * x1), sg)
set_option maxRecDepth 20000 in
set_option maxHeartbeats 4000000 in
theorem sX3_wholeTrips {b : Nat} {K : List Nat} (hK : qOk K) {k0 : Nat} (h0 : qIn K k0 3) (x1 : Int32) (sg : qSt) : qS yX3_wholeTrips cX3_wholeTrips 2 (some .int) 0 0 b K [.ref (b + k0), .int x1] sg (fX3_wholeTrips k0 x1 sg) := by
  refine qS_of (own := RX3) rfl (by decide) hK.1 (by simp [Value.category]) (Nat.le_of_ble_eq_true rfl) (fun z _ ty h => by cases h; exact vp_nar_int _) ?_
  show qJ RX3 cX3_wholeTrips 2 0 0 false (fun _ _ => True) b K 0 [some (.ref (b + k0)), some (.int x1)] [] sg (fX3_wholeTrips k0 x1 sg)
  unfold fX3_wholeTrips
  refine q_aload_n (pc := 0) dX3_wholeTrips_0 rfl ?_
  refine qg_3_0 (pc := 1) dX3_wholeTrips_1 h0 lf_X3_9 ?_
  refine q_aload_n (pc := 4) dX3_wholeTrips_4 rfl ?_
  refine qg_3_1 (pc := 5) dX3_wholeTrips_5 h0 lf_X3_13 ?_
  refine q_iadd (pc := 8) dX3_wholeTrips_8 ?_
  refine q_iload_n (pc := 9) dX3_wholeTrips_9 rfl ?_
  refine q_imul (pc := 10) dX3_wholeTrips_10 ?_
  exact q_ireturn (pc := 11) dX3_wholeTrips_11
-- LineSearch.tripOf(II)I
def fX3_tripOf (k0 : Nat) (x1 x2 : Int32) (sg : qSt) : qR :=
  qb (fX2_has (k0 + 3) x1 sg) fun r1 s2 =>
  if r1 = 0 then
    some ((-1), s2)
  else
  if x2 = 0 then
    qb (fX2_rayOf (k0 + 3) x1 s2) fun r3 s4 =>
    some (r3, s4)
  else
  if x2 = 1 then
    qb (fX2_stepsOf (k0 + 3) x1 s2) fun r5 s6 =>
    some (r5, s6)
  else
  if x2 = 2 then
    qb (fX2_stepsAhead (k0 + 3) x1 (-1) s2) fun r7 s8 =>
    qb (fX3_wholeTrips k0 r7 s8) fun r9 s10 =>
    some (r9, s10)
  else
  some ((-2), s2)
set_option maxRecDepth 20000 in
set_option maxHeartbeats 4000000 in
theorem sX3_tripOf {b : Nat} {K : List Nat} (hK : qOk K) {k0 : Nat} (h0 : qIn K k0 3) (x1 x2 : Int32) (sg : qSt) : qS yX3_tripOf cX3_tripOf 3 (some .int) 3 66 b K [.ref (b + k0), .int x1, .int x2] sg (fX3_tripOf k0 x1 x2 sg) := by
  refine qS_of (own := RX3) rfl (by decide) hK.1 (by simp [Value.category]) (Nat.le_of_ble_eq_true rfl) (fun z _ ty h => by cases h; exact vp_nar_int _) ?_
  show qJ RX3 cX3_tripOf 3 3 66 false (fun _ _ => True) b K 0 [some (.ref (b + k0)), some (.int x1), some (.int x2)] [] sg (fX3_tripOf k0 x1 x2 sg)
  unfold fX3_tripOf
  refine q_aload_n (pc := 0) dX3_tripOf_0 rfl ?_
  refine qg_3_3 (pc := 1) dX3_tripOf_1 h0 lf_X3_26 ?_
  refine q_iload_n (pc := 4) dX3_tripOf_4 rfl ?_
  refine q_callVi (pc := 5) [.int x1] dX3_tripOf_5 lm_X3_84 yX2_has_ok yX2_has_in (qch_3_3 hK h0) (by decide) rfl (sX2_has hK (qch_3_3 hK h0) x1 sg) rfl rfl (Nat.le_of_ble_eq_true rfl) ⟨by decide, by decide⟩ (fun r1 s2 => ?_)
  refine q_if_ne (pc := 8) 13 dX3_tripOf_8 (by decide) ?_ ?_
  · refine q_iload_n (pc := 13) dX3_tripOf_13 rfl ?_
    refine q_sel (fun hx14_0 => ?_) (fun hx14_0 => ?_)
    · refine q_tabIn (pc := 14) 40 dX3_tripOf_14 (by rw [hx14_0]; decide) (by rw [hx14_0]; decide) (by rw [hx14_0]; rfl) (by decide) ?_
      refine q_aload_n (pc := 40) dX3_tripOf_40 rfl ?_
      refine qg_3_3 (pc := 41) dX3_tripOf_41 h0 lf_X3_26 ?_
      refine q_iload_n (pc := 44) dX3_tripOf_44 rfl ?_
      refine q_callVi (pc := 45) [.int x1] dX3_tripOf_45 lm_X3_87 yX2_rayOf_ok yX2_rayOf_in (qch_3_3 hK h0) (by decide) rfl (sX2_rayOf hK (qch_3_3 hK h0) x1 s2) rfl rfl (Nat.le_of_ble_eq_true rfl) ⟨by decide, by decide⟩ (fun r3 s4 => ?_)
      exact q_ireturn (pc := 48) dX3_tripOf_48
    refine q_sel (fun hx14_1 => ?_) (fun hx14_1 => ?_)
    · refine q_tabIn (pc := 14) 49 dX3_tripOf_14 (by rw [hx14_1]; decide) (by rw [hx14_1]; decide) (by rw [hx14_1]; rfl) (by decide) ?_
      refine q_aload_n (pc := 49) dX3_tripOf_49 rfl ?_
      refine qg_3_3 (pc := 50) dX3_tripOf_50 h0 lf_X3_26 ?_
      refine q_iload_n (pc := 53) dX3_tripOf_53 rfl ?_
      refine q_callVi (pc := 54) [.int x1] dX3_tripOf_54 lm_X3_91 yX2_stepsOf_ok yX2_stepsOf_in (qch_3_3 hK h0) (by decide) rfl (sX2_stepsOf hK (qch_3_3 hK h0) x1 s2) rfl rfl (Nat.le_of_ble_eq_true rfl) ⟨by decide, by decide⟩ (fun r5 s6 => ?_)
      exact q_ireturn (pc := 57) dX3_tripOf_57
    refine q_sel (fun hx14_2 => ?_) (fun hx14_2 => ?_)
    · refine q_tabIn (pc := 14) 58 dX3_tripOf_14 (by rw [hx14_2]; decide) (by rw [hx14_2]; decide) (by rw [hx14_2]; rfl) (by decide) ?_
      refine q_aload_n (pc := 58) dX3_tripOf_58 rfl ?_
      refine q_aload_n (pc := 59) dX3_tripOf_59 rfl ?_
      refine qg_3_3 (pc := 60) dX3_tripOf_60 h0 lf_X3_26 ?_
      refine q_iload_n (pc := 63) dX3_tripOf_63 rfl ?_
      refine q_iconst (pc := 64) (-1) dX3_tripOf_64 (by decide) ?_
      refine q_callVi (pc := 65) [.int x1, .int (-1)] dX3_tripOf_65 lm_X3_94 yX2_stepsAhead_ok yX2_stepsAhead_in (qch_3_3 hK h0) (by decide) rfl (sX2_stepsAhead hK (qch_3_3 hK h0) x1 (-1) s2) rfl rfl (Nat.le_of_ble_eq_true rfl) ⟨by decide, by decide⟩ (fun r7 s8 => ?_)
      refine q_callVi (pc := 68) [.int r7] dX3_tripOf_68 lm_X3_97 yX3_wholeTrips_ok yX3_wholeTrips_in h0 (by decide) rfl (sX3_wholeTrips hK h0 r7 s8) rfl rfl (Nat.le_of_ble_eq_true rfl) ⟨by decide, by decide⟩ (fun r9 s10 => ?_)
      exact q_ireturn (pc := 71) dX3_tripOf_71
    refine q_tabOut (pc := 14) 72 dX3_tripOf_14 (by have := qne 0 0 (by decide) hx14_0; have := qne 1 1 (by decide) hx14_1; have := qne 2 2 (by decide) hx14_2; omega) (by decide) ?_
    refine q_bipush (pc := 72) (-2) dX3_tripOf_72 (by decide) ?_
    exact q_ireturn (pc := 74) dX3_tripOf_74
  refine q_iconst (pc := 11) (-1) dX3_tripOf_11 (by decide) ?_
  exact q_ireturn (pc := 12) dX3_tripOf_12
-- LineSearch.drop()I
def fX3_drop (k0 : Nat) (sg : qSt) : qR :=
  qb (fX2_removeLast (k0 + 3) sg) fun r1 s2 =>
  if r1 = 0 then
    some ((-1), s2)
  else
  some ((s2 (k0 + 3) 2), s2)
set_option maxRecDepth 20000 in
set_option maxHeartbeats 4000000 in
theorem sX3_drop {b : Nat} {K : List Nat} (hK : qOk K) {k0 : Nat} (h0 : qIn K k0 3) (sg : qSt) : qS yX3_drop cX3_drop 1 (some .int) 1 20 b K [.ref (b + k0)] sg (fX3_drop k0 sg) := by
  refine qS_of (own := RX3) rfl (by decide) hK.1 (by simp [Value.category]) (Nat.le_of_ble_eq_true rfl) (fun z _ ty h => by cases h; exact vp_nar_int _) ?_
  show qJ RX3 cX3_drop 1 1 20 false (fun _ _ => True) b K 0 [some (.ref (b + k0))] [] sg (fX3_drop k0 sg)
  unfold fX3_drop
  refine q_aload_n (pc := 0) dX3_drop_0 rfl ?_
  refine qg_3_3 (pc := 1) dX3_drop_1 h0 lf_X3_26 ?_
  refine q_callVi (pc := 4) [] dX3_drop_4 lm_X3_100 yX2_removeLast_ok yX2_removeLast_in (qch_3_3 hK h0) (by decide) rfl (sX2_removeLast hK (qch_3_3 hK h0) sg) rfl rfl (Nat.le_of_ble_eq_true rfl) ⟨by decide, by decide⟩ (fun r1 s2 => ?_)
  refine q_if_eq (pc := 7) 20 dX3_drop_7 (by decide) ?_ ?_
  · refine q_iconst (pc := 20) (-1) dX3_drop_20 (by decide) ?_
    exact q_ireturn (pc := 21) dX3_drop_21
  refine q_aload_n (pc := 10) dX3_drop_10 rfl ?_
  refine qg_3_3 (pc := 11) dX3_drop_11 h0 lf_X3_26 ?_
  refine qg_2_2 (pc := 14) dX3_drop_14 (qch_3_3 hK h0) lf_X3_78 ?_
  refine q_goto (pc := 17) 21 dX3_drop_17 (by decide) ?_
  exact q_ireturn (pc := 21) dX3_drop_21
-- LineSearch.clear()I
def fX3_clear (k0 : Nat) (sg : qSt) : qR :=
  qb (fX2_empty (k0 + 3) sg) fun r1 s2 =>
  some ((sg (k0 + 3) 2), s2)
set_option maxRecDepth 20000 in
set_option maxHeartbeats 4000000 in
theorem sX3_clear {b : Nat} {K : List Nat} (hK : qOk K) {k0 : Nat} (h0 : qIn K k0 3) (sg : qSt) : qS yX3_clear cX3_clear 2 (some .int) 1 20 b K [.ref (b + k0)] sg (fX3_clear k0 sg) := by
  refine qS_of (own := RX3) rfl (by decide) hK.1 (by simp [Value.category]) (Nat.le_of_ble_eq_true rfl) (fun z _ ty h => by cases h; exact vp_nar_int _) ?_
  show qJ RX3 cX3_clear 2 1 20 false (fun _ _ => True) b K 0 [some (.ref (b + k0)), none] [] sg (fX3_clear k0 sg)
  unfold fX3_clear
  refine q_aload_n (pc := 0) dX3_clear_0 rfl ?_
  refine qg_3_3 (pc := 1) dX3_clear_1 h0 lf_X3_26 ?_
  refine qg_2_2 (pc := 4) dX3_clear_4 (qch_3_3 hK h0) lf_X3_78 ?_
  refine q_istore_n (pc := 7) dX3_clear_7 (by decide) ?_
  refine q_aload_n (pc := 8) dX3_clear_8 rfl ?_
  refine qg_3_3 (pc := 9) dX3_clear_9 h0 lf_X3_26 ?_
  refine q_callVv (pc := 12) [] dX3_clear_12 lm_X3_64 yX2_empty_ok yX2_empty_in (qch_3_3 hK h0) (by decide) rfl (sX2_empty hK (qch_3_3 hK h0) sg) rfl rfl (Nat.le_of_ble_eq_true rfl) ⟨by decide, by decide⟩ (fun r1 s2 => ?_)
  refine q_iload_n (pc := 15) dX3_clear_15 rfl ?_
  exact q_ireturn (pc := 16) dX3_clear_16
-- LineSearch.wayTo(II)I
def fX3_wayTo (k0 : Nat) (x1 x2 : Int32) (sg : qSt) : qR :=
  qb (fX2_firstTo (k0 + 3) x1 x2 (-1) sg) fun r1 s2 =>
  if 0 ≤ r1 then
    qb (fX2_stepsAhead (k0 + 3) r1 (-1) s2) fun r3 s4 =>
    qb (fX3_wholeTrips k0 r3 s4) fun r5 s6 =>
    some ((r5 + ((s6 k0 0) * x2)), s6)
  else
  some ((-6), s2)
set_option maxRecDepth 20000 in
set_option maxHeartbeats 4000000 in
theorem sX3_wayTo {b : Nat} {K : List Nat} (hK : qOk K) {k0 : Nat} (h0 : qIn K k0 3) (x1 x2 : Int32) (sg : qSt) : qS yX3_wayTo cX3_wayTo 4 (some .int) 3 66 b K [.ref (b + k0), .int x1, .int x2] sg (fX3_wayTo k0 x1 x2 sg) := by
  refine qS_of (own := RX3) rfl (by decide) hK.1 (by simp [Value.category]) (Nat.le_of_ble_eq_true rfl) (fun z _ ty h => by cases h; exact vp_nar_int _) ?_
  show qJ RX3 cX3_wayTo 4 3 66 false (fun _ _ => True) b K 0 [some (.ref (b + k0)), some (.int x1), some (.int x2), none] [] sg (fX3_wayTo k0 x1 x2 sg)
  unfold fX3_wayTo
  refine q_aload_n (pc := 0) dX3_wayTo_0 rfl ?_
  refine qg_3_3 (pc := 1) dX3_wayTo_1 h0 lf_X3_26 ?_
  refine q_iload_n (pc := 4) dX3_wayTo_4 rfl ?_
  refine q_iload_n (pc := 5) dX3_wayTo_5 rfl ?_
  refine q_iconst (pc := 6) (-1) dX3_wayTo_6 (by decide) ?_
  refine q_callVi (pc := 7) [.int x1, .int x2, .int (-1)] dX3_wayTo_7 lm_X3_158 yX2_firstTo_ok yX2_firstTo_in (qch_3_3 hK h0) (by decide) rfl (sX2_firstTo hK (qch_3_3 hK h0) x1 x2 (-1) sg) rfl rfl (Nat.le_of_ble_eq_true rfl) ⟨by decide, by decide⟩ (fun r1 s2 => ?_)
  refine q_istore_n (pc := 10) dX3_wayTo_10 (by decide) ?_
  refine q_iload_n (pc := 11) dX3_wayTo_11 rfl ?_
  refine q_if_ge (pc := 12) 20 dX3_wayTo_12 (by decide) ?_ ?_
  · refine q_aload_n (pc := 20) dX3_wayTo_20 rfl ?_
    refine q_aload_n (pc := 21) dX3_wayTo_21 rfl ?_
    refine qg_3_3 (pc := 22) dX3_wayTo_22 h0 lf_X3_26 ?_
    refine q_iload_n (pc := 25) dX3_wayTo_25 rfl ?_
    refine q_iconst (pc := 26) (-1) dX3_wayTo_26 (by decide) ?_
    refine q_callVi (pc := 27) [.int r1, .int (-1)] dX3_wayTo_27 lm_X3_94 yX2_stepsAhead_ok yX2_stepsAhead_in (qch_3_3 hK h0) (by decide) rfl (sX2_stepsAhead hK (qch_3_3 hK h0) r1 (-1) s2) rfl rfl (Nat.le_of_ble_eq_true rfl) ⟨by decide, by decide⟩ (fun r3 s4 => ?_)
    refine q_callVi (pc := 30) [.int r3] dX3_wayTo_30 lm_X3_97 yX3_wholeTrips_ok yX3_wholeTrips_in h0 (by decide) rfl (sX3_wholeTrips hK h0 r3 s4) rfl rfl (Nat.le_of_ble_eq_true rfl) ⟨by decide, by decide⟩ (fun r5 s6 => ?_)
    refine q_aload_n (pc := 33) dX3_wayTo_33 rfl ?_
    refine qg_3_0 (pc := 34) dX3_wayTo_34 h0 lf_X3_9 ?_
    refine q_iload_n (pc := 37) dX3_wayTo_37 rfl ?_
    refine q_imul (pc := 38) dX3_wayTo_38 ?_
    refine q_iadd (pc := 39) dX3_wayTo_39 ?_
    exact q_ireturn (pc := 40) dX3_wayTo_40
  refine q_bipush (pc := 15) (-6) dX3_wayTo_15 (by decide) ?_
  refine q_goto (pc := 17) 40 dX3_wayTo_17 (by decide) ?_
  exact q_ireturn (pc := 40) dX3_wayTo_40
-- LineSearch.way(II)I
def fX3_way (k0 : Nat) (x1 x2 : Int32) (sg : qSt) : qR :=
  qb (fX0_has (k0 + 1) x1 x2 sg) fun r1 s2 =>
  if r1 = 0 then
    some ((-1), s2)
  else
  qb (fX3_wayTo k0 x1 x2 s2) fun r3 s4 =>
  some (r3, s4)
set_option maxRecDepth 20000 in
set_option maxHeartbeats 4000000 in
theorem sX3_way {b : Nat} {K : List Nat} (hK : qOk K) {k0 : Nat} (h0 : qIn K k0 3) (x1 x2 : Int32) (sg : qSt) : qS yX3_way cX3_way 3 (some .int) 4 89 b K [.ref (b + k0), .int x1, .int x2] sg (fX3_way k0 x1 x2 sg) := by
  refine qS_of (own := RX3) rfl (by decide) hK.1 (by simp [Value.category]) (Nat.le_of_ble_eq_true rfl) (fun z _ ty h => by cases h; exact vp_nar_int _) ?_
  show qJ RX3 cX3_way 3 4 89 false (fun _ _ => True) b K 0 [some (.ref (b + k0)), some (.int x1), some (.int x2)] [] sg (fX3_way k0 x1 x2 sg)
  unfold fX3_way
  refine q_aload_n (pc := 0) dX3_way_0 rfl ?_
  refine qg_3_2 (pc := 1) dX3_way_1 h0 lf_X3_19 ?_
  refine q_iload_n (pc := 4) dX3_way_4 rfl ?_
  refine q_iload_n (pc := 5) dX3_way_5 rfl ?_
  refine q_callVi (pc := 6) [.int x1, .int x2] dX3_way_6 lm_X3_67 yX0_has_ok yX0_has_in (qch_3_2 hK h0) (by decide) rfl (sX0_has hK (qch_3_2 hK h0) x1 x2 sg) rfl rfl (Nat.le_of_ble_eq_true rfl) ⟨by decide, by decide⟩ (fun r1 s2 => ?_)
  refine q_if_eq (pc := 9) 21 dX3_way_9 (by decide) ?_ ?_
  · refine q_iconst (pc := 21) (-1) dX3_way_21 (by decide) ?_
    exact q_ireturn (pc := 22) dX3_way_22
  refine q_aload_n (pc := 12) dX3_way_12 rfl ?_
  refine q_iload_n (pc := 13) dX3_way_13 rfl ?_
  refine q_iload_n (pc := 14) dX3_way_14 rfl ?_
  refine q_callVi (pc := 15) [.int x1, .int x2] dX3_way_15 lm_X3_104 yX3_wayTo_ok yX3_wayTo_in h0 (by decide) rfl (sX3_wayTo hK h0 x1 x2 s2) rfl rfl (Nat.le_of_ble_eq_true rfl) ⟨by decide, by decide⟩ (fun r3 s4 => ?_)
  refine q_goto (pc := 18) 22 dX3_way_18 (by decide) ?_
  exact q_ireturn (pc := 22) dX3_way_22
-- LineSearch.commonDivisor(II)I
def fX3_commonDivisor_7 : Nat → Int32 → Int32 → Int32 → qSt → qR
  | 0, _, _, _, _ => none
  | n + 1, x2, x3, x4, sg =>
    if 64 ≤ x4 then
      some (x2, sg)
    else
    if x3 ≤ 0 then
      some (x2, sg)
    else
    if x3 = 0 then none else
    fX3_commonDivisor_7 n x3 ((x2 - x2 / x3 * x3)) ((x4 + 1)) sg
set_option maxRecDepth 20000 in
set_option maxHeartbeats 4000000 in
theorem tX3_commonDivisor_7 {b : Nat} {K : List Nat} (hK : qOk K) : ∀ (n : Nat) (x2 x3 x4 : Int32) (sg : qSt), qJ RX3 cX3_commonDivisor 6 0 0 false (fun _ _ => True) b K 7 [none, none, some (.int x2), some (.int x3), some (.int x4), none] [] sg (fX3_commonDivisor_7 n x2 x3 x4 sg) := by
  intro n
  induction n with
  | zero => intro x2 x3 x4 sg; exact qJ_none
  | succ n ih =>
    intro x2 x3 x4 sg
    unfold fX3_commonDivisor_7
    refine q_iload (pc := 7) dX3_commonDivisor_7 rfl ?_
    refine q_bipush (pc := 9) 64 dX3_commonDivisor_9 (by decide) ?_
    refine q_icmp_ge (pc := 11) 34 dX3_commonDivisor_11 (by decide) ?_ ?_
    · refine q_iload_n (pc := 34) dX3_commonDivisor_34 rfl ?_
      exact q_ireturn (pc := 35) dX3_commonDivisor_35
    refine q_iload_n (pc := 14) dX3_commonDivisor_14 rfl ?_
    refine q_if_le (pc := 15) 34 dX3_commonDivisor_15 (by decide) ?_ ?_
    · refine q_iload_n (pc := 34) dX3_commonDivisor_34 rfl ?_
      exact q_ireturn (pc := 35) dX3_commonDivisor_35
    refine q_iload_n (pc := 18) dX3_commonDivisor_18 rfl ?_
    refine q_iload_n (pc := 19) dX3_commonDivisor_19 rfl ?_
    refine q_irem (pc := 20) dX3_commonDivisor_20 ?_
    refine q_istore (pc := 21) dX3_commonDivisor_21 (by decide) ?_
    refine q_iload_n (pc := 23) dX3_commonDivisor_23 rfl ?_
    refine q_istore_n (pc := 24) dX3_commonDivisor_24 (by decide) ?_
    refine q_iload (pc := 25) dX3_commonDivisor_25 rfl ?_
    refine q_istore_n (pc := 27) dX3_commonDivisor_27 (by decide) ?_
    refine q_iinc (pc := 28) 1 dX3_commonDivisor_28 rfl (by decide) (by decide) ?_
    refine q_goto (pc := 31) 7 dX3_commonDivisor_31 (by decide) ?_
    refine qJ_weak [none, none, some (.int x3), some (.int ((x2 - x2 / x3 * x3))), some (.int ((x4 + 1))), none] ⟨rfl, rfl, rfl, trivial⟩ ?_
    exact ih x3 ((x2 - x2 / x3 * x3)) ((x4 + 1)) sg
def fX3_commonDivisor (x0 x1 : Int32) (sg : qSt) : qR :=
  fX3_commonDivisor_7 qfu x0 x1 0 sg
set_option maxRecDepth 20000 in
set_option maxHeartbeats 4000000 in
theorem sX3_commonDivisor {b : Nat} {K : List Nat} (hK : qOk K) (x0 x1 : Int32) (sg : qSt) : qS yX3_commonDivisor cX3_commonDivisor 6 (some .int) 0 0 b K [.int x0, .int x1] sg (fX3_commonDivisor x0 x1 sg) := by
  refine qS_of (own := RX3) rfl (by decide) hK.1 (by simp [Value.category]) (Nat.le_of_ble_eq_true rfl) (fun z _ ty h => by cases h; exact vp_nar_int _) ?_
  show qJ RX3 cX3_commonDivisor 6 0 0 false (fun _ _ => True) b K 0 [some (.int x0), some (.int x1), none, none, none, none] [] sg (fX3_commonDivisor x0 x1 sg)
  unfold fX3_commonDivisor
  refine q_iload_n (pc := 0) dX3_commonDivisor_0 rfl ?_
  refine q_istore_n (pc := 1) dX3_commonDivisor_1 (by decide) ?_
  refine q_iload_n (pc := 2) dX3_commonDivisor_2 rfl ?_
  refine q_istore_n (pc := 3) dX3_commonDivisor_3 (by decide) ?_
  refine q_iconst (pc := 4) 0 dX3_commonDivisor_4 (by decide) ?_
  refine q_istore (pc := 5) dX3_commonDivisor_5 (by decide) ?_
  refine qJ_weak [none, none, some (.int x0), some (.int x1), some (.int 0), none] ⟨rfl, rfl, rfl, trivial⟩ ?_
  exact tX3_commonDivisor_7 hK qfu x0 x1 0 sg
-- LineSearch.lowest(III)I
def fX3_lowest (x0 x1 x2 : Int32) (sg : qSt) : qR :=
  qb (fX3_commonDivisor x0 x1 sg) fun r1 s2 =>
  if 1 ≤ r1 then
    if x2 = 0 then
      if r1 = 0 then none else
      some ((x0 / r1), s2)
    else
    if r1 = 0 then none else
    some ((x1 / r1), s2)
  else
  if x2 = 0 then
    some (x0, s2)
  else
  some (x1, s2)
set_option maxRecDepth 20000 in
set_option maxHeartbeats 4000000 in
theorem sX3_lowest {b : Nat} {K : List Nat} (hK : qOk K) (x0 x1 x2 : Int32) (sg : qSt) : qS yX3_lowest cX3_lowest 4 (some .int) 1 25 b K [.int x0, .int x1, .int x2] sg (fX3_lowest x0 x1 x2 sg) := by
  refine qS_of (own := RX3) rfl (by decide) hK.1 (by simp [Value.category]) (Nat.le_of_ble_eq_true rfl) (fun z _ ty h => by cases h; exact vp_nar_int _) ?_
  show qJ RX3 cX3_lowest 4 1 25 false (fun _ _ => True) b K 0 [some (.int x0), some (.int x1), some (.int x2), none] [] sg (fX3_lowest x0 x1 x2 sg)
  unfold fX3_lowest
  refine q_iload_n (pc := 0) dX3_lowest_0 rfl ?_
  refine q_iload_n (pc := 1) dX3_lowest_1 rfl ?_
  refine q_callSi (pc := 2) [.int x0, .int x1] dX3_lowest_2 lm_X3_168 yX3_commonDivisor_ok yX3_commonDivisor_in (sX3_commonDivisor hK x0 x1 sg) rfl rfl (Nat.le_of_ble_eq_true rfl) ⟨by decide, by decide⟩ (fun r1 s2 => ?_)
  refine q_istore_n (pc := 5) dX3_lowest_5 (by decide) ?_
  refine q_iload_n (pc := 6) dX3_lowest_6 rfl ?_
  refine q_iconst (pc := 7) 1 dX3_lowest_7 (by decide) ?_
  refine q_icmp_ge (pc := 8) 21 dX3_lowest_8 (by decide) ?_ ?_
  · refine q_iload_n (pc := 21) dX3_lowest_21 rfl ?_
    refine q_if_ne (pc := 22) 31 dX3_lowest_22 (by decide) ?_ ?_
    · refine q_iload_n (pc := 31) dX3_lowest_31 rfl ?_
      refine q_iload_n (pc := 32) dX3_lowest_32 rfl ?_
      refine q_idiv (pc := 33) dX3_lowest_33 ?_
      exact q_ireturn (pc := 34) dX3_lowest_34
    refine q_iload_n (pc := 25) dX3_lowest_25 rfl ?_
    refine q_iload_n (pc := 26) dX3_lowest_26 rfl ?_
    refine q_idiv (pc := 27) dX3_lowest_27 ?_
    refine q_goto (pc := 28) 34 dX3_lowest_28 (by decide) ?_
    exact q_ireturn (pc := 34) dX3_lowest_34
  refine q_iload_n (pc := 11) dX3_lowest_11 rfl ?_
  refine q_if_ne (pc := 12) 19 dX3_lowest_12 (by decide) ?_ ?_
  · refine q_iload_n (pc := 19) dX3_lowest_19 rfl ?_
    exact q_ireturn (pc := 20) dX3_lowest_20
  refine q_iload_n (pc := 15) dX3_lowest_15 rfl ?_
  refine q_goto (pc := 16) 20 dX3_lowest_16 (by decide) ?_
  exact q_ireturn (pc := 20) dX3_lowest_20
-- LineSearch.late(III)I
def fX3_late (k0 : Nat) (x1 x2 x3 : Int32) (sg : qSt) : qR :=
  qb (fX0_has (k0 + 1) x1 x2 sg) fun r1 s2 =>
  if r1 = 0 then
    some ((-1), s2)
  else
  if x3 < 0 then
    some ((-2), s2)
  else
  if x3 ≤ 1 then
    qb (fX3_wayTo k0 x1 x2 s2) fun r3 s4 =>
    if r3 = (-6) then
      some ((-6), s4)
    else
    qb (fX3_lowest r3 ((s4 k0 0) * x2) x3 s4) fun r5 s6 =>
    some (r5, s6)
  else
  some ((-2), s2)
set_option maxRecDepth 20000 in
set_option maxHeartbeats 4000000 in
theorem sX3_late {b : Nat} {K : List Nat} (hK : qOk K) {k0 : Nat} (h0 : qIn K k0 3) (x1 x2 x3 : Int32) (sg : qSt) : qS yX3_late cX3_late 5 (some .int) 4 89 b K [.ref (b + k0), .int x1, .int x2, .int x3] sg (fX3_late k0 x1 x2 x3 sg) := by
  refine qS_of (own := RX3) rfl (by decide) hK.1 (by simp [Value.category]) (Nat.le_of_ble_eq_true rfl) (fun z _ ty h => by cases h; exact vp_nar_int _) ?_
  show qJ RX3 cX3_late 5 4 89 false (fun _ _ => True) b K 0 [some (.ref (b + k0)), some (.int x1), some (.int x2), some (.int x3), none] [] sg (fX3_late k0 x1 x2 x3 sg)
  unfold fX3_late
  refine q_aload_n (pc := 0) dX3_late_0 rfl ?_
  refine qg_3_2 (pc := 1) dX3_late_1 h0 lf_X3_19 ?_
  refine q_iload_n (pc := 4) dX3_late_4 rfl ?_
  refine q_iload_n (pc := 5) dX3_late_5 rfl ?_
  refine q_callVi (pc := 6) [.int x1, .int x2] dX3_late_6 lm_X3_67 yX0_has_ok yX0_has_in (qch_3_2 hK h0) (by decide) rfl (sX0_has hK (qch_3_2 hK h0) x1 x2 sg) rfl rfl (Nat.le_of_ble_eq_true rfl) ⟨by decide, by decide⟩ (fun r1 s2 => ?_)
  refine q_if_ne (pc := 9) 14 dX3_late_9 (by decide) ?_ ?_
  · refine q_iload_n (pc := 14) dX3_late_14 rfl ?_
    refine q_if_lt (pc := 15) 23 dX3_late_15 (by decide) ?_ ?_
    · refine q_bipush (pc := 23) (-2) dX3_late_23 (by decide) ?_
      exact q_ireturn (pc := 25) dX3_late_25
    refine q_iload_n (pc := 18) dX3_late_18 rfl ?_
    refine q_iconst (pc := 19) 1 dX3_late_19 (by decide) ?_
    refine q_icmp_le (pc := 20) 26 dX3_late_20 (by decide) ?_ ?_
    · refine q_aload_n (pc := 26) dX3_late_26 rfl ?_
      refine q_iload_n (pc := 27) dX3_late_27 rfl ?_
      refine q_iload_n (pc := 28) dX3_late_28 rfl ?_
      refine q_callVi (pc := 29) [.int x1, .int x2] dX3_late_29 lm_X3_104 yX3_wayTo_ok yX3_wayTo_in h0 (by decide) rfl (sX3_wayTo hK h0 x1 x2 s2) rfl rfl (Nat.le_of_ble_eq_true rfl) ⟨by decide, by decide⟩ (fun r3 s4 => ?_)
      refine q_istore (pc := 32) dX3_late_32 (by decide) ?_
      refine q_iload (pc := 34) dX3_late_34 rfl ?_
      refine q_bipush (pc := 36) (-6) dX3_late_36 (by decide) ?_
      refine q_icmp_ne (pc := 38) 46 dX3_late_38 (by decide) ?_ ?_
      · refine q_iload (pc := 46) dX3_late_46 rfl ?_
        refine q_aload_n (pc := 48) dX3_late_48 rfl ?_
        refine qg_3_0 (pc := 49) dX3_late_49 h0 lf_X3_9 ?_
        refine q_iload_n (pc := 52) dX3_late_52 rfl ?_
        refine q_imul (pc := 53) dX3_late_53 ?_
        refine q_iload_n (pc := 54) dX3_late_54 rfl ?_
        refine q_callSi (pc := 55) [.int r3, .int (((s4 k0 0) * x2)), .int x3] dX3_late_55 lm_X3_107 yX3_lowest_ok yX3_lowest_in (sX3_lowest hK r3 ((s4 k0 0) * x2) x3 s4) rfl rfl (Nat.le_of_ble_eq_true rfl) ⟨by decide, by decide⟩ (fun r5 s6 => ?_)
        exact q_ireturn (pc := 58) dX3_late_58
      refine q_bipush (pc := 41) (-6) dX3_late_41 (by decide) ?_
      refine q_goto (pc := 43) 58 dX3_late_43 (by decide) ?_
      exact q_ireturn (pc := 58) dX3_late_58
    refine q_bipush (pc := 23) (-2) dX3_late_23 (by decide) ?_
    exact q_ireturn (pc := 25) dX3_late_25
  refine q_iconst (pc := 12) (-1) dX3_late_12 (by decide) ?_
  exact q_ireturn (pc := 13) dX3_late_13
-- LineSearch.countMissed()I
def fX3_countMissed_4 (k0 : Nat) : Nat → Int32 → Int32 → qSt → qR
  | 0, _, _, _ => none
  | n + 1, x1, x2, sg =>
    if (sg (k0 + 1) 0) ≤ x2 then
      some (x1, sg)
    else
    qb (fX2_farthest (k0 + 3) x2 (sg (k0 + 3) 2) sg) fun r1 s2 =>
    fX3_countMissed_4 k0 n ((x1 + ((sg (k0 + 1) 1) - r1))) ((x2 + 1)) s2
set_option maxRecDepth 20000 in
set_option maxHeartbeats 4000000 in
theorem tX3_countMissed_4 {b : Nat} {K : List Nat} (hK : qOk K) {k0 : Nat} (h0 : qIn K k0 3) : ∀ (n : Nat) (x1 x2 : Int32) (sg : qSt), qJ RX3 cX3_countMissed 3 3 66 false (fun _ _ => True) b K 4 [some (.ref (b + k0)), some (.int x1), some (.int x2)] [] sg (fX3_countMissed_4 k0 n x1 x2 sg) := by
  intro n
  induction n with
  | zero => intro x1 x2 sg; exact qJ_none
  | succ n ih =>
    intro x1 x2 sg
    unfold fX3_countMissed_4
    refine q_iload_n (pc := 4) dX3_countMissed_4 rfl ?_
    refine q_aload_n (pc := 5) dX3_countMissed_5 rfl ?_
    refine qg_3_2 (pc := 6) dX3_countMissed_6 h0 lf_X3_19 ?_
    refine qg_0_0 (pc := 9) dX3_countMissed_9 (qch_3_2 hK h0) lf_X3_118 ?_
    refine q_icmp_ge (pc := 12) 47 dX3_countMissed_12 (by decide) ?_ ?_
    · refine q_iload_n (pc := 47) dX3_countMissed_47 rfl ?_
      exact q_ireturn (pc := 48) dX3_countMissed_48
    refine q_iload_n (pc := 15) dX3_countMissed_15 rfl ?_
    refine q_aload_n (pc := 16) dX3_countMissed_16 rfl ?_
    refine qg_3_2 (pc := 17) dX3_countMissed_17 h0 lf_X3_19 ?_
    refine qg_0_1 (pc := 20) dX3_countMissed_20 (qch_3_2 hK h0) lf_X3_121 ?_
    refine q_aload_n (pc := 23) dX3_countMissed_23 rfl ?_
    refine qg_3_3 (pc := 24) dX3_countMissed_24 h0 lf_X3_26 ?_
    refine q_iload_n (pc := 27) dX3_countMissed_27 rfl ?_
    refine q_aload_n (pc := 28) dX3_countMissed_28 rfl ?_
    refine qg_3_3 (pc := 29) dX3_countMissed_29 h0 lf_X3_26 ?_
    refine qg_2_2 (pc := 32) dX3_countMissed_32 (qch_3_3 hK h0) lf_X3_78 ?_
    refine q_callVi (pc := 35) [.int x2, .int ((sg (k0 + 3) 2))] dX3_countMissed_35 lm_X3_124 yX2_farthest_ok yX2_farthest_in (qch_3_3 hK h0) (by decide) rfl (sX2_farthest hK (qch_3_3 hK h0) x2 (sg (k0 + 3) 2) sg) rfl rfl (Nat.le_of_ble_eq_true rfl) ⟨by decide, by decide⟩ (fun r1 s2 => ?_)
    refine q_isub (pc := 38) dX3_countMissed_38 ?_
    refine q_iadd (pc := 39) dX3_countMissed_39 ?_
    refine q_istore_n (pc := 40) dX3_countMissed_40 (by decide) ?_
    refine q_iinc (pc := 41) 1 dX3_countMissed_41 rfl (by decide) (by decide) ?_
    refine q_goto (pc := 44) 4 dX3_countMissed_44 (by decide) ?_
    exact ih ((x1 + ((sg (k0 + 1) 1) - r1))) ((x2 + 1)) s2
def fX3_countMissed (k0 : Nat) (sg : qSt) : qR :=
  fX3_countMissed_4 k0 qfu 0 0 sg
set_option maxRecDepth 20000 in
set_option maxHeartbeats 4000000 in
theorem sX3_countMissed {b : Nat} {K : List Nat} (hK : qOk K) {k0 : Nat} (h0 : qIn K k0 3) (sg : qSt) : qS yX3_countMissed cX3_countMissed 3 (some .int) 3 66 b K [.ref (b + k0)] sg (fX3_countMissed k0 sg) := by
  refine qS_of (own := RX3) rfl (by decide) hK.1 (by simp [Value.category]) (Nat.le_of_ble_eq_true rfl) (fun z _ ty h => by cases h; exact vp_nar_int _) ?_
  show qJ RX3 cX3_countMissed 3 3 66 false (fun _ _ => True) b K 0 [some (.ref (b + k0)), none, none] [] sg (fX3_countMissed k0 sg)
  unfold fX3_countMissed
  refine q_iconst (pc := 0) 0 dX3_countMissed_0 (by decide) ?_
  refine q_istore_n (pc := 1) dX3_countMissed_1 (by decide) ?_
  refine q_iconst (pc := 2) 0 dX3_countMissed_2 (by decide) ?_
  refine q_istore_n (pc := 3) dX3_countMissed_3 (by decide) ?_
  exact tX3_countMissed_4 hK h0 qfu 0 0 sg
-- LineSearch.worstPlace()I
def fX3_worstPlace_29 (k0 : Nat) (c14 : Int32 → Int32 → Int32 → Int32 → qSt → qR) : Nat → Int32 → Int32 → Int32 → Int32 → Int32 → qSt → qR
  | 0, _, _, _, _, _, _ => none
  | n + 1, x1, x2, x3, x4, x5, sg =>
    if (sg (k0 + 1) 1) < x5 then
      c14 x1 x2 x3 ((x4 + 1)) sg
    else
    qb (fX3_wayTo k0 x4 x5 sg) fun r1 s2 =>
    if (r1 * x2) ≤ (x3 * x5) then
      fX3_worstPlace_29 k0 c14 n x1 x2 x3 x4 ((x5 + 1)) s2
    else
    fX3_worstPlace_29 k0 c14 n x4 x5 r1 x4 ((x5 + 1)) s2
set_option maxRecDepth 20000 in
set_option maxHeartbeats 4000000 in
theorem tX3_worstPlace_29 {b : Nat} {K : List Nat} (hK : qOk K) {k0 : Nat} {c14 : Int32 → Int32 → Int32 → Int32 → qSt → qR} (h0 : qIn K k0 3) (hc14 : ∀ (x1 x2 x3 x4 : Int32) (sg : qSt), qJ RX3 cX3_worstPlace 7 4 89 false (fun _ _ => True) b K 14 [some (.ref (b + k0)), some (.int x1), some (.int x2), some (.int x3), some (.int x4), none, none] [] sg (c14 x1 x2 x3 x4 sg)) : ∀ (n : Nat) (x1 x2 x3 x4 x5 : Int32) (sg : qSt), qJ RX3 cX3_worstPlace 7 4 89 false (fun _ _ => True) b K 29 [some (.ref (b + k0)), some (.int x1), some (.int x2), some (.int x3), some (.int x4), some (.int x5), none] [] sg (fX3_worstPlace_29 k0 c14 n x1 x2 x3 x4 x5 sg) := by
  intro n
  induction n with
  | zero => intro x1 x2 x3 x4 x5 sg; exact qJ_none
  | succ n ih =>
    intro x1 x2 x3 x4 x5 sg
    unfold fX3_worstPlace_29
    refine q_iload (pc := 29) dX3_worstPlace_29 rfl ?_
    refine q_aload_n (pc := 31) dX3_worstPlace_31 rfl ?_
    refine qg_3_2 (pc := 32) dX3_worstPlace_32 h0 lf_X3_19 ?_
    refine qg_0_1 (pc := 35) dX3_worstPlace_35 (qch_3_2 hK h0) lf_X3_121 ?_
    refine q_icmp_gt (pc := 38) 77 dX3_worstPlace_38 (by decide) ?_ ?_
    · refine q_iinc (pc := 77) 1 dX3_worstPlace_77 rfl (by decide) (by decide) ?_
      refine q_goto (pc := 80) 14 dX3_worstPlace_80 (by decide) ?_
      refine qJ_weak [some (.ref (b + k0)), some (.int x1), some (.int x2), some (.int x3), some (.int ((x4 + 1))), none, none] ⟨rfl, rfl, rfl, rfl, rfl, trivial⟩ ?_
      exact hc14 x1 x2 x3 ((x4 + 1)) sg
    refine q_aload_n (pc := 41) dX3_worstPlace_41 rfl ?_
    refine q_iload (pc := 42) dX3_worstPlace_42 rfl ?_
    refine q_iload (pc := 44) dX3_worstPlace_44 rfl ?_
    refine q_callVi (pc := 46) [.int x4, .int x5] dX3_worstPlace_46 lm_X3_104 yX3_wayTo_ok yX3_wayTo_in h0 (by decide) rfl (sX3_wayTo hK h0 x4 x5 sg) rfl rfl (Nat.le_of_ble_eq_true rfl) ⟨by decide, by decide⟩ (fun r1 s2 => ?_)
    refine q_istore (pc := 49) dX3_worstPlace_49 (by decide) ?_
    refine q_iload (pc := 51) dX3_worstPlace_51 rfl ?_
    refine q_iload_n (pc := 53) dX3_worstPlace_53 rfl ?_
    refine q_imul (pc := 54) dX3_worstPlace_54 ?_
    refine q_iload_n (pc := 55) dX3_worstPlace_55 rfl ?_
    refine q_iload (pc := 56) dX3_worstPlace_56 rfl ?_
    refine q_imul (pc := 58) dX3_worstPlace_58 ?_
    refine q_icmp_le (pc := 59) 71 dX3_worstPlace_59 (by decide) ?_ ?_
    · refine q_iinc (pc := 71) 1 dX3_worstPlace_71 rfl (by decide) (by decide) ?_
      refine q_goto (pc := 74) 29 dX3_worstPlace_74 (by decide) ?_
      refine qJ_weak [some (.ref (b + k0)), some (.int x1), some (.int x2), some (.int x3), some (.int x4), some (.int ((x5 + 1))), none] ⟨rfl, rfl, rfl, rfl, rfl, rfl, trivial⟩ ?_
      exact ih x1 x2 x3 x4 ((x5 + 1)) s2
    refine q_iload (pc := 62) dX3_worstPlace_62 rfl ?_
    refine q_istore_n (pc := 64) dX3_worstPlace_64 (by decide) ?_
    refine q_iload (pc := 65) dX3_worstPlace_65 rfl ?_
    refine q_istore_n (pc := 67) dX3_worstPlace_67 (by decide) ?_
    refine q_iload (pc := 68) dX3_worstPlace_68 rfl ?_
    refine q_istore_n (pc := 70) dX3_worstPlace_70 (by decide) ?_
    refine q_iinc (pc := 71) 1 dX3_worstPlace_71 rfl (by decide) (by decide) ?_
    refine q_goto (pc := 74) 29 dX3_worstPlace_74 (by decide) ?_
    refine qJ_weak [some (.ref (b + k0)), some (.int x4), some (.int x5), some (.int r1), some (.int x4), some (.int ((x5 + 1))), none] ⟨rfl, rfl, rfl, rfl, rfl, rfl, trivial⟩ ?_
    exact ih x4 x5 r1 x4 ((x5 + 1)) s2
def fX3_worstPlace_14 (k0 : Nat) : Nat → Int32 → Int32 → Int32 → Int32 → qSt → qR
  | 0, _, _, _, _, _ => none
  | n + 1, x1, x2, x3, x4, sg =>
    if (sg (k0 + 1) 0) ≤ x4 then
      some (((10 * x1) + x2), sg)
    else
    fX3_worstPlace_29 k0 (fun z1 z2 z3 z4 sg => fX3_worstPlace_14 k0 n z1 z2 z3 z4 sg) qfu x1 x2 x3 x4 1 sg
set_option maxRecDepth 20000 in
set_option maxHeartbeats 4000000 in
theorem tX3_worstPlace_14 {b : Nat} {K : List Nat} (hK : qOk K) {k0 : Nat} (h0 : qIn K k0 3) : ∀ (n : Nat) (x1 x2 x3 x4 : Int32) (sg : qSt), qJ RX3 cX3_worstPlace 7 4 89 false (fun _ _ => True) b K 14 [some (.ref (b + k0)), some (.int x1), some (.int x2), some (.int x3), some (.int x4), none, none] [] sg (fX3_worstPlace_14 k0 n x1 x2 x3 x4 sg) := by
  intro n
  induction n with
  | zero => intro x1 x2 x3 x4 sg; exact qJ_none
  | succ n ih =>
    intro x1 x2 x3 x4 sg
    unfold fX3_worstPlace_14
    refine q_iload (pc := 14) dX3_worstPlace_14 rfl ?_
    refine q_aload_n (pc := 16) dX3_worstPlace_16 rfl ?_
    refine qg_3_2 (pc := 17) dX3_worstPlace_17 h0 lf_X3_19 ?_
    refine qg_0_0 (pc := 20) dX3_worstPlace_20 (qch_3_2 hK h0) lf_X3_118 ?_
    refine q_icmp_ge (pc := 23) 83 dX3_worstPlace_23 (by decide) ?_ ?_
    · refine q_bipush (pc := 83) 10 dX3_worstPlace_83 (by decide) ?_
      refine q_iload_n (pc := 85) dX3_worstPlace_85 rfl ?_
      refine q_imul (pc := 86) dX3_worstPlace_86 ?_
      refine q_iload_n (pc := 87) dX3_worstPlace_87 rfl ?_
      refine q_iadd (pc := 88) dX3_worstPlace_88 ?_
      exact q_ireturn (pc := 89) dX3_worstPlace_89
    refine q_iconst (pc := 26) 1 dX3_worstPlace_26 (by decide) ?_
    refine q_istore (pc := 27) dX3_worstPlace_27 (by decide) ?_
    exact tX3_worstPlace_29 hK h0 (fun z1 z2 z3 z4 sg => ih z1 z2 z3 z4 sg) qfu x1 x2 x3 x4 1 sg
def fX3_worstPlace (k0 : Nat) (sg : qSt) : qR :=
  qb (fX3_wayTo k0 0 1 sg) fun r1 s2 =>
  fX3_worstPlace_14 k0 qfu 0 1 r1 0 s2
set_option maxRecDepth 20000 in
set_option maxHeartbeats 4000000 in
theorem sX3_worstPlace {b : Nat} {K : List Nat} (hK : qOk K) {k0 : Nat} (h0 : qIn K k0 3) (sg : qSt) : qS yX3_worstPlace cX3_worstPlace 7 (some .int) 4 89 b K [.ref (b + k0)] sg (fX3_worstPlace k0 sg) := by
  refine qS_of (own := RX3) rfl (by decide) hK.1 (by simp [Value.category]) (Nat.le_of_ble_eq_true rfl) (fun z _ ty h => by cases h; exact vp_nar_int _) ?_
  show qJ RX3 cX3_worstPlace 7 4 89 false (fun _ _ => True) b K 0 [some (.ref (b + k0)), none, none, none, none, none, none] [] sg (fX3_worstPlace k0 sg)
  unfold fX3_worstPlace
  refine q_iconst (pc := 0) 0 dX3_worstPlace_0 (by decide) ?_
  refine q_istore_n (pc := 1) dX3_worstPlace_1 (by decide) ?_
  refine q_iconst (pc := 2) 1 dX3_worstPlace_2 (by decide) ?_
  refine q_istore_n (pc := 3) dX3_worstPlace_3 (by decide) ?_
  refine q_aload_n (pc := 4) dX3_worstPlace_4 rfl ?_
  refine q_iconst (pc := 5) 0 dX3_worstPlace_5 (by decide) ?_
  refine q_iconst (pc := 6) 1 dX3_worstPlace_6 (by decide) ?_
  refine q_callVi (pc := 7) [.int 0, .int 1] dX3_worstPlace_7 lm_X3_104 yX3_wayTo_ok yX3_wayTo_in h0 (by decide) rfl (sX3_wayTo hK h0 0 1 sg) rfl rfl (Nat.le_of_ble_eq_true rfl) ⟨by decide, by decide⟩ (fun r1 s2 => ?_)
  refine q_istore_n (pc := 10) dX3_worstPlace_10 (by decide) ?_
  refine q_iconst (pc := 11) 0 dX3_worstPlace_11 (by decide) ?_
  refine q_istore (pc := 12) dX3_worstPlace_12 (by decide) ?_
  exact tX3_worstPlace_14 hK h0 qfu 0 1 r1 0 s2
-- LineSearch.worst(I)I
def fX3_worst (k0 : Nat) (x1 : Int32) (sg : qSt) : qR :=
  if x1 < 0 then
    some ((-2), sg)
  else
  if x1 ≤ 3 then
    qb (fX3_countMissed k0 sg) fun r1 s2 =>
    if r1 ≤ 0 then
      qb (fX3_worstPlace k0 s2) fun r3 s4 =>
      if x1 = 2 then
        some ((r3 / 10), s4)
      else
      if x1 = 3 then
        some ((r3 - r3 / 10 * 10), s4)
      else
      qb (fX3_wayTo k0 (r3 / 10) (r3 - r3 / 10 * 10) s4) fun r5 s6 =>
      qb (fX3_lowest r5 ((s6 k0 0) * (r3 - r3 / 10 * 10)) x1 s6) fun r7 s8 =>
      some (r7, s8)
    else
    some ((-3), s2)
  else
  some ((-2), sg)
set_option maxRecDepth 20000 in
set_option maxHeartbeats 4000000 in
theorem sX3_worst {b : Nat} {K : List Nat} (hK : qOk K) {k0 : Nat} (h0 : qIn K k0 3) (x1 : Int32) (sg : qSt) : qS yX3_worst cX3_worst 5 (some .int) 5 115 b K [.ref (b + k0), .int x1] sg (fX3_worst k0 x1 sg) := by
  refine qS_of (own := RX3) rfl (by decide) hK.1 (by simp [Value.category]) (Nat.le_of_ble_eq_true rfl) (fun z _ ty h => by cases h; exact vp_nar_int _) ?_
  show qJ RX3 cX3_worst 5 5 115 false (fun _ _ => True) b K 0 [some (.ref (b + k0)), some (.int x1), none, none, none] [] sg (fX3_worst k0 x1 sg)
  unfold fX3_worst
  refine q_iload_n (pc := 0) dX3_worst_0 rfl ?_
  refine q_if_lt (pc := 1) 9 dX3_worst_1 (by decide) ?_ ?_
  · refine q_bipush (pc := 9) (-2) dX3_worst_9 (by decide) ?_
    exact q_ireturn (pc := 11) dX3_worst_11
  refine q_iload_n (pc := 4) dX3_worst_4 rfl ?_
  refine q_iconst (pc := 5) 3 dX3_worst_5 (by decide) ?_
  refine q_icmp_le (pc := 6) 12 dX3_worst_6 (by decide) ?_ ?_
  · refine q_aload_n (pc := 12) dX3_worst_12 rfl ?_
    refine q_callVi (pc := 13) [] dX3_worst_13 lm_X3_111 yX3_countMissed_ok yX3_countMissed_in h0 (by decide) rfl (sX3_countMissed hK h0 sg) rfl rfl (Nat.le_of_ble_eq_true rfl) ⟨by decide, by decide⟩ (fun r1 s2 => ?_)
    refine q_if_le (pc := 16) 22 dX3_worst_16 (by decide) ?_ ?_
    · refine q_aload_n (pc := 22) dX3_worst_22 rfl ?_
      refine q_callVi (pc := 23) [] dX3_worst_23 lm_X3_115 yX3_worstPlace_ok yX3_worstPlace_in h0 (by decide) rfl (sX3_worstPlace hK h0 s2) rfl rfl (Nat.le_of_ble_eq_true rfl) ⟨by decide, by decide⟩ (fun r3 s4 => ?_)
      refine q_istore_n (pc := 26) dX3_worst_26 (by decide) ?_
      refine q_iload_n (pc := 27) dX3_worst_27 rfl ?_
      refine q_bipush (pc := 28) 10 dX3_worst_28 (by decide) ?_
      refine q_idivc (pc := 30) dX3_worst_30 (by decide) ?_
      refine q_istore_n (pc := 31) dX3_worst_31 (by decide) ?_
      refine q_iload_n (pc := 32) dX3_worst_32 rfl ?_
      refine q_bipush (pc := 33) 10 dX3_worst_33 (by decide) ?_
      refine q_iremc (pc := 35) dX3_worst_35 (by decide) ?_
      refine q_istore (pc := 36) dX3_worst_36 (by decide) ?_
      refine q_iload_n (pc := 38) dX3_worst_38 rfl ?_
      refine q_iconst (pc := 39) 2 dX3_worst_39 (by decide) ?_
      refine q_icmp_ne (pc := 40) 45 dX3_worst_40 (by decide) ?_ ?_
      · refine q_iload_n (pc := 45) dX3_worst_45 rfl ?_
        refine q_iconst (pc := 46) 3 dX3_worst_46 (by decide) ?_
        refine q_icmp_ne (pc := 47) 53 dX3_worst_47 (by decide) ?_ ?_
        · refine q_aload_n (pc := 53) dX3_worst_53 rfl ?_
          refine q_iload_n (pc := 54) dX3_worst_54 rfl ?_
          refine q_iload (pc := 55) dX3_worst_55 rfl ?_
          refine q_callVi (pc := 57) [.int ((r3 / 10)), .int ((r3 - r3 / 10 * 10))] dX3_worst_57 lm_X3_104 yX3_wayTo_ok yX3_wayTo_in h0 (by decide) rfl (sX3_wayTo hK h0 (r3 / 10) (r3 - r3 / 10 * 10) s4) rfl rfl (Nat.le_of_ble_eq_true rfl) ⟨by decide, by decide⟩ (fun r5 s6 => ?_)
          refine q_aload_n (pc := 60) dX3_worst_60 rfl ?_
          refine qg_3_0 (pc := 61) dX3_worst_61 h0 lf_X3_9 ?_
          refine q_iload (pc := 64) dX3_worst_64 rfl ?_
          refine q_imul (pc := 66) dX3_worst_66 ?_
          refine q_iload_n (pc := 67) dX3_worst_67 rfl ?_
          refine q_callSi (pc := 68) [.int r5, .int (((s6 k0 0) * (r3 - r3 / 10 * 10))), .int x1] dX3_worst_68 lm_X3_107 yX3_lowest_ok yX3_lowest_in (sX3_lowest hK r5 ((s6 k0 0) * (r3 - r3 / 10 * 10)) x1 s6) rfl rfl (Nat.le_of_ble_eq_true rfl) ⟨by decide, by decide⟩ (fun r7 s8 => ?_)
          exact q_ireturn (pc := 71) dX3_worst_71
        refine q_iload (pc := 50) dX3_worst_50 rfl ?_
        exact q_ireturn (pc := 52) dX3_worst_52
      refine q_iload_n (pc := 43) dX3_worst_43 rfl ?_
      exact q_ireturn (pc := 44) dX3_worst_44
    refine q_bipush (pc := 19) (-3) dX3_worst_19 (by decide) ?_
    exact q_ireturn (pc := 21) dX3_worst_21
  refine q_bipush (pc := 9) (-2) dX3_worst_9 (by decide) ?_
  exact q_ireturn (pc := 11) dX3_worst_11
-- LineSearch.mean()I
def fX3_mean_27 (k0 : Nat) (c14 : Int32 → Int32 → qSt → qR) : Nat → Int32 → Int32 → Int32 → qSt → qR
  | 0, _, _, _, _ => none
  | n + 1, x1, x2, x3, sg =>
    if (sg (k0 + 1) 1) < x3 then
      c14 x1 ((x2 + 1)) sg
    else
    qb (fX0_shareAt (k0 + 1) x2 x3 sg) fun r1 s2 =>
    qb (fX3_wayTo k0 x2 x3 s2) fun r3 s4 =>
    fX3_mean_27 k0 c14 n ((x1 + (r1 * r3))) x2 ((x3 + 1)) s4
set_option maxRecDepth 20000 in
set_option maxHeartbeats 4000000 in
theorem tX3_mean_27 {b : Nat} {K : List Nat} (hK : qOk K) {k0 : Nat} {c14 : Int32 → Int32 → qSt → qR} (h0 : qIn K k0 3) (hc14 : ∀ (x1 x2 : Int32) (sg : qSt), qJ RX3 cX3_mean 4 4 89 false (fun _ _ => True) b K 14 [some (.ref (b + k0)), some (.int x1), some (.int x2), none] [] sg (c14 x1 x2 sg)) : ∀ (n : Nat) (x1 x2 x3 : Int32) (sg : qSt), qJ RX3 cX3_mean 4 4 89 false (fun _ _ => True) b K 27 [some (.ref (b + k0)), some (.int x1), some (.int x2), some (.int x3)] [] sg (fX3_mean_27 k0 c14 n x1 x2 x3 sg) := by
  intro n
  induction n with
  | zero => intro x1 x2 x3 sg; exact qJ_none
  | succ n ih =>
    intro x1 x2 x3 sg
    unfold fX3_mean_27
    refine q_iload_n (pc := 27) dX3_mean_27 rfl ?_
    refine q_aload_n (pc := 28) dX3_mean_28 rfl ?_
    refine qg_3_2 (pc := 29) dX3_mean_29 h0 lf_X3_19 ?_
    refine qg_0_1 (pc := 32) dX3_mean_32 (qch_3_2 hK h0) lf_X3_121 ?_
    refine q_icmp_gt (pc := 35) 63 dX3_mean_35 (by decide) ?_ ?_
    · refine q_iinc (pc := 63) 1 dX3_mean_63 rfl (by decide) (by decide) ?_
      refine q_goto (pc := 66) 14 dX3_mean_66 (by decide) ?_
      refine qJ_weak [some (.ref (b + k0)), some (.int x1), some (.int ((x2 + 1))), none] ⟨rfl, rfl, rfl, trivial⟩ ?_
      exact hc14 x1 ((x2 + 1)) sg
    refine q_iload_n (pc := 38) dX3_mean_38 rfl ?_
    refine q_aload_n (pc := 39) dX3_mean_39 rfl ?_
    refine qg_3_2 (pc := 40) dX3_mean_40 h0 lf_X3_19 ?_
    refine q_iload_n (pc := 43) dX3_mean_43 rfl ?_
    refine q_iload_n (pc := 44) dX3_mean_44 rfl ?_
    refine q_callVi (pc := 45) [.int x2, .int x3] dX3_mean_45 lm_X3_70 yX0_shareAt_ok yX0_shareAt_in (qch_3_2 hK h0) (by decide) rfl (sX0_shareAt hK (qch_3_2 hK h0) x2 x3 sg) rfl rfl (Nat.le_of_ble_eq_true rfl) ⟨by decide, by decide⟩ (fun r1 s2 => ?_)
    refine q_aload_n (pc := 48) dX3_mean_48 rfl ?_
    refine q_iload_n (pc := 49) dX3_mean_49 rfl ?_
    refine q_iload_n (pc := 50) dX3_mean_50 rfl ?_
    refine q_callVi (pc := 51) [.int x2, .int x3] dX3_mean_51 lm_X3_104 yX3_wayTo_ok yX3_wayTo_in h0 (by decide) rfl (sX3_wayTo hK h0 x2 x3 s2) rfl rfl (Nat.le_of_ble_eq_true rfl) ⟨by decide, by decide⟩ (fun r3 s4 => ?_)
    refine q_imul (pc := 54) dX3_mean_54 ?_
    refine q_iadd (pc := 55) dX3_mean_55 ?_
    refine q_istore_n (pc := 56) dX3_mean_56 (by decide) ?_
    refine q_iinc (pc := 57) 1 dX3_mean_57 rfl (by decide) (by decide) ?_
    refine q_goto (pc := 60) 27 dX3_mean_60 (by decide) ?_
    exact ih ((x1 + (r1 * r3))) x2 ((x3 + 1)) s4
def fX3_mean_14 (k0 : Nat) : Nat → Int32 → Int32 → qSt → qR
  | 0, _, _, _ => none
  | n + 1, x1, x2, sg =>
    if (sg (k0 + 1) 0) ≤ x2 then
      some (x1, sg)
    else
    fX3_mean_27 k0 (fun z1 z2 sg => fX3_mean_14 k0 n z1 z2 sg) qfu x1 x2 1 sg
set_option maxRecDepth 20000 in
set_option maxHeartbeats 4000000 in
theorem tX3_mean_14 {b : Nat} {K : List Nat} (hK : qOk K) {k0 : Nat} (h0 : qIn K k0 3) : ∀ (n : Nat) (x1 x2 : Int32) (sg : qSt), qJ RX3 cX3_mean 4 4 89 false (fun _ _ => True) b K 14 [some (.ref (b + k0)), some (.int x1), some (.int x2), none] [] sg (fX3_mean_14 k0 n x1 x2 sg) := by
  intro n
  induction n with
  | zero => intro x1 x2 sg; exact qJ_none
  | succ n ih =>
    intro x1 x2 sg
    unfold fX3_mean_14
    refine q_iload_n (pc := 14) dX3_mean_14 rfl ?_
    refine q_aload_n (pc := 15) dX3_mean_15 rfl ?_
    refine qg_3_2 (pc := 16) dX3_mean_16 h0 lf_X3_19 ?_
    refine qg_0_0 (pc := 19) dX3_mean_19 (qch_3_2 hK h0) lf_X3_118 ?_
    refine q_icmp_ge (pc := 22) 69 dX3_mean_22 (by decide) ?_ ?_
    · refine q_iload_n (pc := 69) dX3_mean_69 rfl ?_
      exact q_ireturn (pc := 70) dX3_mean_70
    refine q_iconst (pc := 25) 1 dX3_mean_25 (by decide) ?_
    refine q_istore_n (pc := 26) dX3_mean_26 (by decide) ?_
    exact tX3_mean_27 hK h0 (fun z1 z2 sg => ih z1 z2 sg) qfu x1 x2 1 sg
def fX3_mean (k0 : Nat) (sg : qSt) : qR :=
  qb (fX3_countMissed k0 sg) fun r1 s2 =>
  if r1 ≤ 0 then
    fX3_mean_14 k0 qfu 0 0 s2
  else
  some ((-3), s2)
set_option maxRecDepth 20000 in
set_option maxHeartbeats 4000000 in
theorem sX3_mean {b : Nat} {K : List Nat} (hK : qOk K) {k0 : Nat} (h0 : qIn K k0 3) (sg : qSt) : qS yX3_mean cX3_mean 4 (some .int) 4 89 b K [.ref (b + k0)] sg (fX3_mean k0 sg) := by
  refine qS_of (own := RX3) rfl (by decide) hK.1 (by simp [Value.category]) (Nat.le_of_ble_eq_true rfl) (fun z _ ty h => by cases h; exact vp_nar_int _) ?_
  show qJ RX3 cX3_mean 4 4 89 false (fun _ _ => True) b K 0 [some (.ref (b + k0)), none, none, none] [] sg (fX3_mean k0 sg)
  unfold fX3_mean
  refine q_aload_n (pc := 0) dX3_mean_0 rfl ?_
  refine q_callVi (pc := 1) [] dX3_mean_1 lm_X3_111 yX3_countMissed_ok yX3_countMissed_in h0 (by decide) rfl (sX3_countMissed hK h0 sg) rfl rfl (Nat.le_of_ble_eq_true rfl) ⟨by decide, by decide⟩ (fun r1 s2 => ?_)
  refine q_if_le (pc := 4) 10 dX3_mean_4 (by decide) ?_ ?_
  · refine q_iconst (pc := 10) 0 dX3_mean_10 (by decide) ?_
    refine q_istore_n (pc := 11) dX3_mean_11 (by decide) ?_
    refine q_iconst (pc := 12) 0 dX3_mean_12 (by decide) ?_
    refine q_istore_n (pc := 13) dX3_mean_13 (by decide) ?_
    exact tX3_mean_14 hK h0 qfu 0 0 s2
  refine q_bipush (pc := 7) (-3) dX3_mean_7 (by decide) ?_
  exact q_ireturn (pc := 9) dX3_mean_9
-- LineSearch.missed(I)I
def fX3_missed_44 (k0 : Nat) (c14 : Int32 → Int32 → qSt → qR) : Nat → Int32 → Int32 → Int32 → qSt → qR
  | 0, _, _, _, _ => none
  | n + 1, x2, x3, x4, sg =>
    if (sg (k0 + 1) 1) < x4 then
      c14 x2 ((x3 + 1)) sg
    else
    if x2 = 0 then
      some (((10 * x3) + x4), sg)
    else
    fX3_missed_44 k0 c14 n ((x2 + (-1))) x3 ((x4 + 1)) sg
set_option maxRecDepth 20000 in
set_option maxHeartbeats 4000000 in
theorem tX3_missed_44 {b : Nat} {K : List Nat} (hK : qOk K) {k0 : Nat} {c14 : Int32 → Int32 → qSt → qR} (h0 : qIn K k0 3) (hc14 : ∀ (x2 x3 : Int32) (sg : qSt), qJ RX3 cX3_missed 5 4 88 false (fun _ _ => True) b K 14 [some (.ref (b + k0)), none, some (.int x2), some (.int x3), none] [] sg (c14 x2 x3 sg)) : ∀ (n : Nat) (x2 x3 x4 : Int32) (sg : qSt), qJ RX3 cX3_missed 5 4 88 false (fun _ _ => True) b K 44 [some (.ref (b + k0)), none, some (.int x2), some (.int x3), some (.int x4)] [] sg (fX3_missed_44 k0 c14 n x2 x3 x4 sg) := by
  intro n
  induction n with
  | zero => intro x2 x3 x4 sg; exact qJ_none
  | succ n ih =>
    intro x2 x3 x4 sg
    unfold fX3_missed_44
    refine q_iload (pc := 44) dX3_missed_44 rfl ?_
    refine q_aload_n (pc := 46) dX3_missed_46 rfl ?_
    refine qg_3_2 (pc := 47) dX3_missed_47 h0 lf_X3_19 ?_
    refine qg_0_1 (pc := 50) dX3_missed_50 (qch_3_2 hK h0) lf_X3_121 ?_
    refine q_icmp_gt (pc := 53) 77 dX3_missed_53 (by decide) ?_ ?_
    · refine q_iinc (pc := 77) 1 dX3_missed_77 rfl (by decide) (by decide) ?_
      refine q_goto (pc := 80) 14 dX3_missed_80 (by decide) ?_
      refine qJ_weak [some (.ref (b + k0)), none, some (.int x2), some (.int ((x3 + 1))), none] ⟨rfl, rfl, rfl, trivial⟩ ?_
      exact hc14 x2 ((x3 + 1)) sg
    refine q_iload_n (pc := 56) dX3_missed_56 rfl ?_
    refine q_if_ne (pc := 57) 68 dX3_missed_57 (by decide) ?_ ?_
    · refine q_iinc (pc := 68) (-1) dX3_missed_68 rfl (by decide) (by decide) ?_
      refine q_iinc (pc := 71) 1 dX3_missed_71 rfl (by decide) (by decide) ?_
      refine q_goto (pc := 74) 44 dX3_missed_74 (by decide) ?_
      exact ih ((x2 + (-1))) x3 ((x4 + 1)) sg
    refine q_bipush (pc := 60) 10 dX3_missed_60 (by decide) ?_
    refine q_iload_n (pc := 62) dX3_missed_62 rfl ?_
    refine q_imul (pc := 63) dX3_missed_63 ?_
    refine q_iload (pc := 64) dX3_missed_64 rfl ?_
    refine q_iadd (pc := 66) dX3_missed_66 ?_
    exact q_ireturn (pc := 67) dX3_missed_67
def fX3_missed_14 (k0 : Nat) : Nat → Int32 → Int32 → qSt → qR
  | 0, _, _, _ => none
  | n + 1, x2, x3, sg =>
    if (sg (k0 + 1) 0) ≤ x3 then
      some ((-6), sg)
    else
    qb (fX2_farthest (k0 + 3) x3 (sg (k0 + 3) 2) sg) fun r1 s2 =>
    fX3_missed_44 k0 (fun z2 z3 sg => fX3_missed_14 k0 n z2 z3 sg) qfu x2 x3 ((r1 + 1)) s2
set_option maxRecDepth 20000 in
set_option maxHeartbeats 4000000 in
theorem tX3_missed_14 {b : Nat} {K : List Nat} (hK : qOk K) {k0 : Nat} (h0 : qIn K k0 3) : ∀ (n : Nat) (x2 x3 : Int32) (sg : qSt), qJ RX3 cX3_missed 5 4 88 false (fun _ _ => True) b K 14 [some (.ref (b + k0)), none, some (.int x2), some (.int x3), none] [] sg (fX3_missed_14 k0 n x2 x3 sg) := by
  intro n
  induction n with
  | zero => intro x2 x3 sg; exact qJ_none
  | succ n ih =>
    intro x2 x3 sg
    unfold fX3_missed_14
    refine q_iload_n (pc := 14) dX3_missed_14 rfl ?_
    refine q_aload_n (pc := 15) dX3_missed_15 rfl ?_
    refine qg_3_2 (pc := 16) dX3_missed_16 h0 lf_X3_19 ?_
    refine qg_0_0 (pc := 19) dX3_missed_19 (qch_3_2 hK h0) lf_X3_118 ?_
    refine q_icmp_ge (pc := 22) 83 dX3_missed_22 (by decide) ?_ ?_
    · refine q_bipush (pc := 83) (-6) dX3_missed_83 (by decide) ?_
      exact q_ireturn (pc := 85) dX3_missed_85
    refine q_aload_n (pc := 25) dX3_missed_25 rfl ?_
    refine qg_3_3 (pc := 26) dX3_missed_26 h0 lf_X3_26 ?_
    refine q_iload_n (pc := 29) dX3_missed_29 rfl ?_
    refine q_aload_n (pc := 30) dX3_missed_30 rfl ?_
    refine qg_3_3 (pc := 31) dX3_missed_31 h0 lf_X3_26 ?_
    refine qg_2_2 (pc := 34) dX3_missed_34 (qch_3_3 hK h0) lf_X3_78 ?_
    refine q_callVi (pc := 37) [.int x3, .int ((sg (k0 + 3) 2))] dX3_missed_37 lm_X3_124 yX2_farthest_ok yX2_farthest_in (qch_3_3 hK h0) (by decide) rfl (sX2_farthest hK (qch_3_3 hK h0) x3 (sg (k0 + 3) 2) sg) rfl rfl (Nat.le_of_ble_eq_true rfl) ⟨by decide, by decide⟩ (fun r1 s2 => ?_)
    refine q_iconst (pc := 40) 1 dX3_missed_40 (by decide) ?_
    refine q_iadd (pc := 41) dX3_missed_41 ?_
    refine q_istore (pc := 42) dX3_missed_42 (by decide) ?_
    exact tX3_missed_44 hK h0 (fun z2 z3 sg => ih z2 z3 sg) qfu x2 x3 ((r1 + 1)) s2
def fX3_missed (k0 : Nat) (x1 : Int32) (sg : qSt) : qR :=
  if x1 = (-1) then
    qb (fX3_countMissed k0 sg) fun r1 s2 =>
    some (r1, s2)
  else
  fX3_missed_14 k0 qfu x1 0 sg
set_option maxRecDepth 20000 in
set_option maxHeartbeats 4000000 in
theorem sX3_missed {b : Nat} {K : List Nat} (hK : qOk K) {k0 : Nat} (h0 : qIn K k0 3) (x1 : Int32) (sg : qSt) : qS yX3_missed cX3_missed 5 (some .int) 4 88 b K [.ref (b + k0), .int x1] sg (fX3_missed k0 x1 sg) := by
  refine qS_of (own := RX3) rfl (by decide) hK.1 (by simp [Value.category]) (Nat.le_of_ble_eq_true rfl) (fun z _ ty h => by cases h; exact vp_nar_int _) ?_
  show qJ RX3 cX3_missed 5 4 88 false (fun _ _ => True) b K 0 [some (.ref (b + k0)), some (.int x1), none, none, none] [] sg (fX3_missed k0 x1 sg)
  unfold fX3_missed
  refine q_iload_n (pc := 0) dX3_missed_0 rfl ?_
  refine q_iconst (pc := 1) (-1) dX3_missed_1 (by decide) ?_
  refine q_icmp_ne (pc := 2) 10 dX3_missed_2 (by decide) ?_ ?_
  · refine q_iload_n (pc := 10) dX3_missed_10 rfl ?_
    refine q_istore_n (pc := 11) dX3_missed_11 (by decide) ?_
    refine q_iconst (pc := 12) 0 dX3_missed_12 (by decide) ?_
    refine q_istore_n (pc := 13) dX3_missed_13 (by decide) ?_
    refine qJ_weak [some (.ref (b + k0)), none, some (.int x1), some (.int 0), none] ⟨rfl, rfl, rfl, trivial⟩ ?_
    exact tX3_missed_14 hK h0 qfu x1 0 sg
  refine q_aload_n (pc := 5) dX3_missed_5 rfl ?_
  refine q_callVi (pc := 6) [] dX3_missed_6 lm_X3_111 yX3_countMissed_ok yX3_countMissed_in h0 (by decide) rfl (sX3_countMissed hK h0 sg) rfl rfl (Nat.le_of_ble_eq_true rfl) ⟨by decide, by decide⟩ (fun r1 s2 => ?_)
  exact q_ireturn (pc := 9) dX3_missed_9
-- LineSearch.finds(I)I
def fX3_finds (k0 : Nat) (x1 : Int32) (sg : qSt) : qR :=
  qb (fX2_has (k0 + 3) x1 sg) fun r1 s2 =>
  if r1 = 0 then
    some ((-1), s2)
  else
  qb (fX2_rayOf (k0 + 3) x1 s2) fun r3 s4 =>
  qb (fX2_farthest (k0 + 3) r3 x1 s4) fun r5 s6 =>
  qb (fX2_stepsOf (k0 + 3) x1 s6) fun r7 s8 =>
  if r7 ≤ r5 then
    some ((-6), s8)
  else
  some ((((10 * r3) + r5) + 1), s8)
set_option maxRecDepth 20000 in
set_option maxHeartbeats 4000000 in
theorem sX3_finds {b : Nat} {K : List Nat} (hK : qOk K) {k0 : Nat} (h0 : qIn K k0 3) (x1 : Int32) (sg : qSt) : qS yX3_finds cX3_finds 4 (some .int) 3 66 b K [.ref (b + k0), .int x1] sg (fX3_finds k0 x1 sg) := by
  refine qS_of (own := RX3) rfl (by decide) hK.1 (by simp [Value.category]) (Nat.le_of_ble_eq_true rfl) (fun z _ ty h => by cases h; exact vp_nar_int _) ?_
  show qJ RX3 cX3_finds 4 3 66 false (fun _ _ => True) b K 0 [some (.ref (b + k0)), some (.int x1), none, none] [] sg (fX3_finds k0 x1 sg)
  unfold fX3_finds
  refine q_aload_n (pc := 0) dX3_finds_0 rfl ?_
  refine qg_3_3 (pc := 1) dX3_finds_1 h0 lf_X3_26 ?_
  refine q_iload_n (pc := 4) dX3_finds_4 rfl ?_
  refine q_callVi (pc := 5) [.int x1] dX3_finds_5 lm_X3_84 yX2_has_ok yX2_has_in (qch_3_3 hK h0) (by decide) rfl (sX2_has hK (qch_3_3 hK h0) x1 sg) rfl rfl (Nat.le_of_ble_eq_true rfl) ⟨by decide, by decide⟩ (fun r1 s2 => ?_)
  refine q_if_ne (pc := 8) 13 dX3_finds_8 (by decide) ?_ ?_
  · refine q_aload_n (pc := 13) dX3_finds_13 rfl ?_
    refine qg_3_3 (pc := 14) dX3_finds_14 h0 lf_X3_26 ?_
    refine q_iload_n (pc := 17) dX3_finds_17 rfl ?_
    refine q_callVi (pc := 18) [.int x1] dX3_finds_18 lm_X3_87 yX2_rayOf_ok yX2_rayOf_in (qch_3_3 hK h0) (by decide) rfl (sX2_rayOf hK (qch_3_3 hK h0) x1 s2) rfl rfl (Nat.le_of_ble_eq_true rfl) ⟨by decide, by decide⟩ (fun r3 s4 => ?_)
    refine q_istore_n (pc := 21) dX3_finds_21 (by decide) ?_
    refine q_aload_n (pc := 22) dX3_finds_22 rfl ?_
    refine qg_3_3 (pc := 23) dX3_finds_23 h0 lf_X3_26 ?_
    refine q_iload_n (pc := 26) dX3_finds_26 rfl ?_
    refine q_iload_n (pc := 27) dX3_finds_27 rfl ?_
    refine q_callVi (pc := 28) [.int r3, .int x1] dX3_finds_28 lm_X3_124 yX2_farthest_ok yX2_farthest_in (qch_3_3 hK h0) (by decide) rfl (sX2_farthest hK (qch_3_3 hK h0) r3 x1 s4) rfl rfl (Nat.le_of_ble_eq_true rfl) ⟨by decide, by decide⟩ (fun r5 s6 => ?_)
    refine q_istore_n (pc := 31) dX3_finds_31 (by decide) ?_
    refine q_aload_n (pc := 32) dX3_finds_32 rfl ?_
    refine qg_3_3 (pc := 33) dX3_finds_33 h0 lf_X3_26 ?_
    refine q_iload_n (pc := 36) dX3_finds_36 rfl ?_
    refine q_callVi (pc := 37) [.int x1] dX3_finds_37 lm_X3_91 yX2_stepsOf_ok yX2_stepsOf_in (qch_3_3 hK h0) (by decide) rfl (sX2_stepsOf hK (qch_3_3 hK h0) x1 s6) rfl rfl (Nat.le_of_ble_eq_true rfl) ⟨by decide, by decide⟩ (fun r7 s8 => ?_)
    refine q_iload_n (pc := 40) dX3_finds_40 rfl ?_
    refine q_icmp_le (pc := 41) 55 dX3_finds_41 (by decide) ?_ ?_
    · refine q_bipush (pc := 55) (-6) dX3_finds_55 (by decide) ?_
      exact q_ireturn (pc := 57) dX3_finds_57
    refine q_bipush (pc := 44) 10 dX3_finds_44 (by decide) ?_
    refine q_iload_n (pc := 46) dX3_finds_46 rfl ?_
    refine q_imul (pc := 47) dX3_finds_47 ?_
    refine q_iload_n (pc := 48) dX3_finds_48 rfl ?_
    refine q_iadd (pc := 49) dX3_finds_49 ?_
    refine q_iconst (pc := 50) 1 dX3_finds_50 (by decide) ?_
    refine q_iadd (pc := 51) dX3_finds_51 ?_
    refine q_goto (pc := 52) 57 dX3_finds_52 (by decide) ?_
    exact q_ireturn (pc := 57) dX3_finds_57
  refine q_iconst (pc := 11) (-1) dX3_finds_11 (by decide) ?_
  exact q_ireturn (pc := 12) dX3_finds_12
-- LineSearch.findMean()V
def fX3_findMean (k0 : Nat) (sg : qSt) : qR :=
  if (sg k0 7) = 0 then
    qb (fX1_planMean (k0 + 6) (k0 + 1) (k0 + 12) sg) fun r1 s2 =>
    some (0, qset (qset s2 k0 9 r1) k0 7 1)
  else
  some (0, sg)
set_option maxRecDepth 20000 in
set_option maxHeartbeats 4000000 in
theorem sX3_findMean {b : Nat} {K : List Nat} (hK : qOk K) {k0 : Nat} (h0 : qIn K k0 3) (sg : qSt) : qS yX3_findMean cX3_findMean 1 none 5 123 b K [.ref (b + k0)] sg (fX3_findMean k0 sg) := by
  refine qS_of (own := RX3) rfl (by decide) hK.1 (by simp [Value.category]) (Nat.le_of_ble_eq_true rfl) (fun z _ ty h => by cases h) ?_
  show qJ RX3 cX3_findMean 1 5 123 true (fun _ _ => True) b K 0 [some (.ref (b + k0))] [] sg (fX3_findMean k0 sg)
  unfold fX3_findMean
  refine q_aload_n (pc := 0) dX3_findMean_0 rfl ?_
  refine qg_3_7 (pc := 1) dX3_findMean_1 h0 lf_X3_43 ?_
  refine q_if_ne (pc := 4) 31 dX3_findMean_4 (by decide) ?_ ?_
  · exact q_return (pc := 31) dX3_findMean_31
  refine q_aload_n (pc := 7) dX3_findMean_7 rfl ?_
  refine q_aload_n (pc := 8) dX3_findMean_8 rfl ?_
  refine qg_3_4 (pc := 9) dX3_findMean_9 h0 lf_X3_33 ?_
  refine q_aload_n (pc := 12) dX3_findMean_12 rfl ?_
  refine qg_3_2 (pc := 13) dX3_findMean_13 h0 lf_X3_19 ?_
  refine q_aload_n (pc := 16) dX3_findMean_16 rfl ?_
  refine qg_3_5 (pc := 17) dX3_findMean_17 h0 lf_X3_37 ?_
  refine q_callVi (pc := 20) [.ref (b + ((k0 + 1))), .ref (b + ((k0 + 12)))] dX3_findMean_20 lm_X3_161 yX1_planMean_ok yX1_planMean_in (qch_3_4 hK h0) (by decide) rfl (sX1_planMean hK (qch_3_4 hK h0) (qch_3_2 hK h0) (qch_3_5 hK h0) sg) rfl rfl (Nat.le_of_ble_eq_true rfl) ⟨by decide, by decide⟩ (fun r1 s2 => ?_)
  refine qp_3_9 (pc := 23) dX3_findMean_23 h0 lf_X3_50 ?_
  refine q_aload_n (pc := 26) dX3_findMean_26 rfl ?_
  refine q_iconst (pc := 27) 1 dX3_findMean_27 (by decide) ?_
  refine qp_3_7 (pc := 28) dX3_findMean_28 h0 lf_X3_43 (by decide) (by decide) ?_
  exact q_return (pc := 31) dX3_findMean_31
-- LineSearch.leastMean()I
def fX3_leastMean (k0 : Nat) (sg : qSt) : qR :=
  qb (fX3_findMean k0 sg) fun r1 s2 =>
  qb (fX0_sharedSteps (k0 + 1) s2) fun r3 s4 =>
  qb (fX3_wholeTrips k0 (s4 k0 9) s4) fun r5 s6 =>
  some ((((s2 k0 0) * r3) + r5), s6)
set_option maxRecDepth 20000 in
set_option maxHeartbeats 4000000 in
theorem sX3_leastMean {b : Nat} {K : List Nat} (hK : qOk K) {k0 : Nat} (h0 : qIn K k0 3) (sg : qSt) : qS yX3_leastMean cX3_leastMean 1 (some .int) 6 143 b K [.ref (b + k0)] sg (fX3_leastMean k0 sg) := by
  refine qS_of (own := RX3) rfl (by decide) hK.1 (by simp [Value.category]) (Nat.le_of_ble_eq_true rfl) (fun z _ ty h => by cases h; exact vp_nar_int _) ?_
  show qJ RX3 cX3_leastMean 1 6 143 false (fun _ _ => True) b K 0 [some (.ref (b + k0))] [] sg (fX3_leastMean k0 sg)
  unfold fX3_leastMean
  refine q_aload_n (pc := 0) dX3_leastMean_0 rfl ?_
  refine q_callVv (pc := 1) [] dX3_leastMean_1 lm_X3_127 yX3_findMean_ok yX3_findMean_in h0 (by decide) rfl (sX3_findMean hK h0 sg) rfl rfl (Nat.le_of_ble_eq_true rfl) ⟨by decide, by decide⟩ (fun r1 s2 => ?_)
  refine q_aload_n (pc := 4) dX3_leastMean_4 rfl ?_
  refine qg_3_0 (pc := 5) dX3_leastMean_5 h0 lf_X3_9 ?_
  refine q_aload_n (pc := 8) dX3_leastMean_8 rfl ?_
  refine qg_3_2 (pc := 9) dX3_leastMean_9 h0 lf_X3_19 ?_
  refine q_callVi (pc := 12) [] dX3_leastMean_12 lm_X3_130 yX0_sharedSteps_ok yX0_sharedSteps_in (qch_3_2 hK h0) (by decide) rfl (sX0_sharedSteps hK (qch_3_2 hK h0) s2) rfl rfl (Nat.le_of_ble_eq_true rfl) ⟨by decide, by decide⟩ (fun r3 s4 => ?_)
  refine q_imul (pc := 15) dX3_leastMean_15 ?_
  refine q_aload_n (pc := 16) dX3_leastMean_16 rfl ?_
  refine q_aload_n (pc := 17) dX3_leastMean_17 rfl ?_
  refine qg_3_9 (pc := 18) dX3_leastMean_18 h0 lf_X3_50 ?_
  refine q_callVi (pc := 21) [.int ((s4 k0 9))] dX3_leastMean_21 lm_X3_97 yX3_wholeTrips_ok yX3_wholeTrips_in h0 (by decide) rfl (sX3_wholeTrips hK h0 (s4 k0 9) s4) rfl rfl (Nat.le_of_ble_eq_true rfl) ⟨by decide, by decide⟩ (fun r5 s6 => ?_)
  refine q_iadd (pc := 24) dX3_leastMean_24 ?_
  exact q_ireturn (pc := 25) dX3_leastMean_25
-- LineSearch.placeOf(LLineSearch$Plan;I)I
def fX3_placeOf (k0 : Nat) (x1 : Int32) (sg : qSt) : qR :=
  qb (fX2_has k0 x1 sg) fun r1 s2 =>
  if r1 = 0 then
    some ((-6), s2)
  else
  qb (fX2_rayOf k0 x1 s2) fun r3 s4 =>
  qb (fX2_stepsOf k0 x1 s4) fun r5 s6 =>
  some (((10 * r3) + r5), s6)
set_option maxRecDepth 20000 in
set_option maxHeartbeats 4000000 in
theorem sX3_placeOf {b : Nat} {K : List Nat} (hK : qOk K) {k0 : Nat} (h0 : qIn K k0 2) (x1 : Int32) (sg : qSt) : qS yX3_placeOf cX3_placeOf 2 (some .int) 2 42 b K [.ref (b + k0), .int x1] sg (fX3_placeOf k0 x1 sg) := by
  refine qS_of (own := RX3) rfl (by decide) hK.1 (by simp [Value.category]) (Nat.le_of_ble_eq_true rfl) (fun z _ ty h => by cases h; exact vp_nar_int _) ?_
  show qJ RX3 cX3_placeOf 2 2 42 false (fun _ _ => True) b K 0 [some (.ref (b + k0)), some (.int x1)] [] sg (fX3_placeOf k0 x1 sg)
  unfold fX3_placeOf
  refine q_aload_n (pc := 0) dX3_placeOf_0 rfl ?_
  refine q_iload_n (pc := 1) dX3_placeOf_1 rfl ?_
  refine q_callVi (pc := 2) [.int x1] dX3_placeOf_2 lm_X3_84 yX2_has_ok yX2_has_in h0 (by decide) rfl (sX2_has hK h0 x1 sg) rfl rfl (Nat.le_of_ble_eq_true rfl) ⟨by decide, by decide⟩ (fun r1 s2 => ?_)
  refine q_if_eq (pc := 5) 25 dX3_placeOf_5 (by decide) ?_ ?_
  · refine q_bipush (pc := 25) (-6) dX3_placeOf_25 (by decide) ?_
    exact q_ireturn (pc := 27) dX3_placeOf_27
  refine q_bipush (pc := 8) 10 dX3_placeOf_8 (by decide) ?_
  refine q_aload_n (pc := 10) dX3_placeOf_10 rfl ?_
  refine q_iload_n (pc := 11) dX3_placeOf_11 rfl ?_
  refine q_callVi (pc := 12) [.int x1] dX3_placeOf_12 lm_X3_87 yX2_rayOf_ok yX2_rayOf_in h0 (by decide) rfl (sX2_rayOf hK h0 x1 s2) rfl rfl (Nat.le_of_ble_eq_true rfl) ⟨by decide, by decide⟩ (fun r3 s4 => ?_)
  refine q_imul (pc := 15) dX3_placeOf_15 ?_
  refine q_aload_n (pc := 16) dX3_placeOf_16 rfl ?_
  refine q_iload_n (pc := 17) dX3_placeOf_17 rfl ?_
  refine q_callVi (pc := 18) [.int x1] dX3_placeOf_18 lm_X3_91 yX2_stepsOf_ok yX2_stepsOf_in h0 (by decide) rfl (sX2_stepsOf hK h0 x1 s4) rfl rfl (Nat.le_of_ble_eq_true rfl) ⟨by decide, by decide⟩ (fun r5 s6 => ?_)
  refine q_iadd (pc := 21) dX3_placeOf_21 ?_
  refine q_goto (pc := 22) 27 dX3_placeOf_22 (by decide) ?_
  exact q_ireturn (pc := 27) dX3_placeOf_27
-- LineSearch.meanTrip(I)I
def fX3_meanTrip (k0 : Nat) (x1 : Int32) (sg : qSt) : qR :=
  qb (fX3_findMean k0 sg) fun r1 s2 =>
  qb (fX3_placeOf (k0 + 12) x1 s2) fun r3 s4 =>
  some (r3, s4)
set_option maxRecDepth 20000 in
set_option maxHeartbeats 4000000 in
theorem sX3_meanTrip {b : Nat} {K : List Nat} (hK : qOk K) {k0 : Nat} (h0 : qIn K k0 3) (x1 : Int32) (sg : qSt) : qS yX3_meanTrip cX3_meanTrip 2 (some .int) 6 143 b K [.ref (b + k0), .int x1] sg (fX3_meanTrip k0 x1 sg) := by
  refine qS_of (own := RX3) rfl (by decide) hK.1 (by simp [Value.category]) (Nat.le_of_ble_eq_true rfl) (fun z _ ty h => by cases h; exact vp_nar_int _) ?_
  show qJ RX3 cX3_meanTrip 2 6 143 false (fun _ _ => True) b K 0 [some (.ref (b + k0)), some (.int x1)] [] sg (fX3_meanTrip k0 x1 sg)
  unfold fX3_meanTrip
  refine q_aload_n (pc := 0) dX3_meanTrip_0 rfl ?_
  refine q_callVv (pc := 1) [] dX3_meanTrip_1 lm_X3_127 yX3_findMean_ok yX3_findMean_in h0 (by decide) rfl (sX3_findMean hK h0 sg) rfl rfl (Nat.le_of_ble_eq_true rfl) ⟨by decide, by decide⟩ (fun r1 s2 => ?_)
  refine q_aload_n (pc := 4) dX3_meanTrip_4 rfl ?_
  refine qg_3_5 (pc := 5) dX3_meanTrip_5 h0 lf_X3_37 ?_
  refine q_iload_n (pc := 8) dX3_meanTrip_8 rfl ?_
  refine q_callSi (pc := 9) [.ref (b + ((k0 + 12))), .int x1] dX3_meanTrip_9 lm_X3_133 yX3_placeOf_ok yX3_placeOf_in (sX3_placeOf hK (qch_3_5 hK h0) x1 s2) rfl rfl (Nat.le_of_ble_eq_true rfl) ⟨by decide, by decide⟩ (fun r3 s4 => ?_)
  exact q_ireturn (pc := 12) dX3_meanTrip_12
-- LineSearch.findWorst()V
def fX3_findWorst (k0 : Nat) (sg : qSt) : qR :=
  if (sg k0 8) = 0 then
    qb (fX1_planWorst (k0 + 6) (k0 + 1) (k0 + 15) sg) fun r1 s2 =>
    some (0, qset (qset s2 k0 10 r1) k0 8 1)
  else
  some (0, sg)
set_option maxRecDepth 20000 in
set_option maxHeartbeats 4000000 in
theorem sX3_findWorst {b : Nat} {K : List Nat} (hK : qOk K) {k0 : Nat} (h0 : qIn K k0 3) (sg : qSt) : qS yX3_findWorst cX3_findWorst 1 none 5 124 b K [.ref (b + k0)] sg (fX3_findWorst k0 sg) := by
  refine qS_of (own := RX3) rfl (by decide) hK.1 (by simp [Value.category]) (Nat.le_of_ble_eq_true rfl) (fun z _ ty h => by cases h) ?_
  show qJ RX3 cX3_findWorst 1 5 124 true (fun _ _ => True) b K 0 [some (.ref (b + k0))] [] sg (fX3_findWorst k0 sg)
  unfold fX3_findWorst
  refine q_aload_n (pc := 0) dX3_findWorst_0 rfl ?_
  refine qg_3_8 (pc := 1) dX3_findWorst_1 h0 lf_X3_47 ?_
  refine q_if_ne (pc := 4) 31 dX3_findWorst_4 (by decide) ?_ ?_
  · exact q_return (pc := 31) dX3_findWorst_31
  refine q_aload_n (pc := 7) dX3_findWorst_7 rfl ?_
  refine q_aload_n (pc := 8) dX3_findWorst_8 rfl ?_
  refine qg_3_4 (pc := 9) dX3_findWorst_9 h0 lf_X3_33 ?_
  refine q_aload_n (pc := 12) dX3_findWorst_12 rfl ?_
  refine qg_3_2 (pc := 13) dX3_findWorst_13 h0 lf_X3_19 ?_
  refine q_aload_n (pc := 16) dX3_findWorst_16 rfl ?_
  refine qg_3_6 (pc := 17) dX3_findWorst_17 h0 lf_X3_40 ?_
  refine q_callVi (pc := 20) [.ref (b + ((k0 + 1))), .ref (b + ((k0 + 15)))] dX3_findWorst_20 lm_X3_165 yX1_planWorst_ok yX1_planWorst_in (qch_3_4 hK h0) (by decide) rfl (sX1_planWorst hK (qch_3_4 hK h0) (qch_3_2 hK h0) (qch_3_6 hK h0) sg) rfl rfl (Nat.le_of_ble_eq_true rfl) ⟨by decide, by decide⟩ (fun r1 s2 => ?_)
  refine qp_3_10 (pc := 23) dX3_findWorst_23 h0 lf_X3_53 ?_
  refine q_aload_n (pc := 26) dX3_findWorst_26 rfl ?_
  refine q_iconst (pc := 27) 1 dX3_findWorst_27 (by decide) ?_
  refine qp_3_8 (pc := 28) dX3_findWorst_28 h0 lf_X3_47 (by decide) (by decide) ?_
  exact q_return (pc := 31) dX3_findWorst_31
-- LineSearch.worstUpper()I
def fX3_worstUpper (k0 : Nat) (sg : qSt) : qR :=
  qb (fX3_wholeTrips k0 (sg k0 10) sg) fun r1 s2 =>
  some ((((sg k0 0) * 840) + r1), s2)
set_option maxRecDepth 20000 in
set_option maxHeartbeats 4000000 in
theorem sX3_worstUpper {b : Nat} {K : List Nat} (hK : qOk K) {k0 : Nat} (h0 : qIn K k0 3) (sg : qSt) : qS yX3_worstUpper cX3_worstUpper 1 (some .int) 1 21 b K [.ref (b + k0)] sg (fX3_worstUpper k0 sg) := by
  refine qS_of (own := RX3) rfl (by decide) hK.1 (by simp [Value.category]) (Nat.le_of_ble_eq_true rfl) (fun z _ ty h => by cases h; exact vp_nar_int _) ?_
  show qJ RX3 cX3_worstUpper 1 1 21 false (fun _ _ => True) b K 0 [some (.ref (b + k0))] [] sg (fX3_worstUpper k0 sg)
  unfold fX3_worstUpper
  refine q_aload_n (pc := 0) dX3_worstUpper_0 rfl ?_
  refine qg_3_0 (pc := 1) dX3_worstUpper_1 h0 lf_X3_9 ?_
  refine q_sipush (pc := 4) 840 dX3_worstUpper_4 (by decide) ?_
  refine q_imul (pc := 7) dX3_worstUpper_7 ?_
  refine q_aload_n (pc := 8) dX3_worstUpper_8 rfl ?_
  refine q_aload_n (pc := 9) dX3_worstUpper_9 rfl ?_
  refine qg_3_10 (pc := 10) dX3_worstUpper_10 h0 lf_X3_53 ?_
  refine q_callVi (pc := 13) [.int ((sg k0 10))] dX3_worstUpper_13 lm_X3_97 yX3_wholeTrips_ok yX3_wholeTrips_in h0 (by decide) rfl (sX3_wholeTrips hK h0 (sg k0 10) sg) rfl rfl (Nat.le_of_ble_eq_true rfl) ⟨by decide, by decide⟩ (fun r1 s2 => ?_)
  refine q_iadd (pc := 16) dX3_worstUpper_16 ?_
  exact q_ireturn (pc := 17) dX3_worstUpper_17
-- LineSearch.leastWorst(I)I
def fX3_leastWorst (k0 : Nat) (x1 : Int32) (sg : qSt) : qR :=
  if x1 < 0 then
    some ((-2), sg)
  else
  if x1 ≤ 1 then
    qb (fX3_findWorst k0 sg) fun r1 s2 =>
    qb (fX3_worstUpper k0 s2) fun r3 s4 =>
    qb (fX3_lowest r3 ((s4 k0 0) * 840) x1 s4) fun r5 s6 =>
    some (r5, s6)
  else
  some ((-2), sg)
set_option maxRecDepth 20000 in
set_option maxHeartbeats 4000000 in
theorem sX3_leastWorst {b : Nat} {K : List Nat} (hK : qOk K) {k0 : Nat} (h0 : qIn K k0 3) (x1 : Int32) (sg : qSt) : qS yX3_leastWorst cX3_leastWorst 2 (some .int) 6 144 b K [.ref (b + k0), .int x1] sg (fX3_leastWorst k0 x1 sg) := by
  refine qS_of (own := RX3) rfl (by decide) hK.1 (by simp [Value.category]) (Nat.le_of_ble_eq_true rfl) (fun z _ ty h => by cases h; exact vp_nar_int _) ?_
  show qJ RX3 cX3_leastWorst 2 6 144 false (fun _ _ => True) b K 0 [some (.ref (b + k0)), some (.int x1)] [] sg (fX3_leastWorst k0 x1 sg)
  unfold fX3_leastWorst
  refine q_iload_n (pc := 0) dX3_leastWorst_0 rfl ?_
  refine q_if_lt (pc := 1) 9 dX3_leastWorst_1 (by decide) ?_ ?_
  · refine q_bipush (pc := 9) (-2) dX3_leastWorst_9 (by decide) ?_
    exact q_ireturn (pc := 11) dX3_leastWorst_11
  refine q_iload_n (pc := 4) dX3_leastWorst_4 rfl ?_
  refine q_iconst (pc := 5) 1 dX3_leastWorst_5 (by decide) ?_
  refine q_icmp_le (pc := 6) 12 dX3_leastWorst_6 (by decide) ?_ ?_
  · refine q_aload_n (pc := 12) dX3_leastWorst_12 rfl ?_
    refine q_callVv (pc := 13) [] dX3_leastWorst_13 lm_X3_137 yX3_findWorst_ok yX3_findWorst_in h0 (by decide) rfl (sX3_findWorst hK h0 sg) rfl rfl (Nat.le_of_ble_eq_true rfl) ⟨by decide, by decide⟩ (fun r1 s2 => ?_)
    refine q_aload_n (pc := 16) dX3_leastWorst_16 rfl ?_
    refine q_callVi (pc := 17) [] dX3_leastWorst_17 lm_X3_140 yX3_worstUpper_ok yX3_worstUpper_in h0 (by decide) rfl (sX3_worstUpper hK h0 s2) rfl rfl (Nat.le_of_ble_eq_true rfl) ⟨by decide, by decide⟩ (fun r3 s4 => ?_)
    refine q_aload_n (pc := 20) dX3_leastWorst_20 rfl ?_
    refine qg_3_0 (pc := 21) dX3_leastWorst_21 h0 lf_X3_9 ?_
    refine q_sipush (pc := 24) 840 dX3_leastWorst_24 (by decide) ?_
    refine q_imul (pc := 27) dX3_leastWorst_27 ?_
    refine q_iload_n (pc := 28) dX3_leastWorst_28 rfl ?_
    refine q_callSi (pc := 29) [.int r3, .int (((s4 k0 0) * 840)), .int x1] dX3_leastWorst_29 lm_X3_107 yX3_lowest_ok yX3_lowest_in (sX3_lowest hK r3 ((s4 k0 0) * 840) x1 s4) rfl rfl (Nat.le_of_ble_eq_true rfl) ⟨by decide, by decide⟩ (fun r5 s6 => ?_)
    exact q_ireturn (pc := 32) dX3_leastWorst_32
  refine q_bipush (pc := 9) (-2) dX3_leastWorst_9 (by decide) ?_
  exact q_ireturn (pc := 11) dX3_leastWorst_11
-- LineSearch.worstTrip(I)I
def fX3_worstTrip (k0 : Nat) (x1 : Int32) (sg : qSt) : qR :=
  qb (fX3_findWorst k0 sg) fun r1 s2 =>
  qb (fX3_placeOf (k0 + 15) x1 s2) fun r3 s4 =>
  some (r3, s4)
set_option maxRecDepth 20000 in
set_option maxHeartbeats 4000000 in
theorem sX3_worstTrip {b : Nat} {K : List Nat} (hK : qOk K) {k0 : Nat} (h0 : qIn K k0 3) (x1 : Int32) (sg : qSt) : qS yX3_worstTrip cX3_worstTrip 2 (some .int) 6 144 b K [.ref (b + k0), .int x1] sg (fX3_worstTrip k0 x1 sg) := by
  refine qS_of (own := RX3) rfl (by decide) hK.1 (by simp [Value.category]) (Nat.le_of_ble_eq_true rfl) (fun z _ ty h => by cases h; exact vp_nar_int _) ?_
  show qJ RX3 cX3_worstTrip 2 6 144 false (fun _ _ => True) b K 0 [some (.ref (b + k0)), some (.int x1)] [] sg (fX3_worstTrip k0 x1 sg)
  unfold fX3_worstTrip
  refine q_aload_n (pc := 0) dX3_worstTrip_0 rfl ?_
  refine q_callVv (pc := 1) [] dX3_worstTrip_1 lm_X3_137 yX3_findWorst_ok yX3_findWorst_in h0 (by decide) rfl (sX3_findWorst hK h0 sg) rfl rfl (Nat.le_of_ble_eq_true rfl) ⟨by decide, by decide⟩ (fun r1 s2 => ?_)
  refine q_aload_n (pc := 4) dX3_worstTrip_4 rfl ?_
  refine qg_3_6 (pc := 5) dX3_worstTrip_5 h0 lf_X3_40 ?_
  refine q_iload_n (pc := 8) dX3_worstTrip_8 rfl ?_
  refine q_callSi (pc := 9) [.ref (b + ((k0 + 15))), .int x1] dX3_worstTrip_9 lm_X3_133 yX3_placeOf_ok yX3_placeOf_in (sX3_placeOf hK (qch_3_6 hK h0) x1 s2) rfl rfl (Nat.le_of_ble_eq_true rfl) ⟨by decide, by decide⟩ (fun r3 s4 => ?_)
  exact q_ireturn (pc := 12) dX3_worstTrip_12
-- LineSearch.within(II)I
def fX3_within (k0 : Nat) (x1 x2 : Int32) (sg : qSt) : qR :=
  if x1 < 1 then
    some ((-2), sg)
  else
  if 10000 < x1 then
    some ((-2), sg)
  else
  if x2 < 1 then
    some ((-2), sg)
  else
  if x2 ≤ 10000 then
    qb (fX3_findWorst k0 sg) fun r1 s2 =>
    qb (fX3_worstUpper k0 s2) fun r3 s4 =>
    if 0 < (lg_cmp ((r3).toInt64 * (x2).toInt64) ((x1).toInt64 * (((s4 k0 0) * 840)).toInt64)) then
      some (0, s4)
    else
    some (1, s4)
  else
  some ((-2), sg)
set_option maxRecDepth 20000 in
set_option maxHeartbeats 4000000 in
theorem sX3_within {b : Nat} {K : List Nat} (hK : qOk K) {k0 : Nat} (h0 : qIn K k0 3) (x1 x2 : Int32) (sg : qSt) : qS yX3_within cX3_within 3 (some .int) 6 144 b K [.ref (b + k0), .int x1, .int x2] sg (fX3_within k0 x1 x2 sg) := by
  refine qS_of (own := RX3) rfl (by decide) hK.1 (by simp [Value.category]) (Nat.le_of_ble_eq_true rfl) (fun z _ ty h => by cases h; exact vp_nar_int _) ?_
  show qJ RX3 cX3_within 3 6 144 false (fun _ _ => True) b K 0 [some (.ref (b + k0)), some (.int x1), some (.int x2)] [] sg (fX3_within k0 x1 x2 sg)
  unfold fX3_within
  refine q_iload_n (pc := 0) dX3_within_0 rfl ?_
  refine q_iconst (pc := 1) 1 dX3_within_1 (by decide) ?_
  refine q_icmp_lt (pc := 2) 24 dX3_within_2 (by decide) ?_ ?_
  · refine q_bipush (pc := 24) (-2) dX3_within_24 (by decide) ?_
    exact q_ireturn (pc := 26) dX3_within_26
  refine q_iload_n (pc := 5) dX3_within_5 rfl ?_
  refine q_sipush (pc := 6) 10000 dX3_within_6 (by decide) ?_
  refine q_icmp_gt (pc := 9) 24 dX3_within_9 (by decide) ?_ ?_
  · refine q_bipush (pc := 24) (-2) dX3_within_24 (by decide) ?_
    exact q_ireturn (pc := 26) dX3_within_26
  refine q_iload_n (pc := 12) dX3_within_12 rfl ?_
  refine q_iconst (pc := 13) 1 dX3_within_13 (by decide) ?_
  refine q_icmp_lt (pc := 14) 24 dX3_within_14 (by decide) ?_ ?_
  · refine q_bipush (pc := 24) (-2) dX3_within_24 (by decide) ?_
    exact q_ireturn (pc := 26) dX3_within_26
  refine q_iload_n (pc := 17) dX3_within_17 rfl ?_
  refine q_sipush (pc := 18) 10000 dX3_within_18 (by decide) ?_
  refine q_icmp_le (pc := 21) 27 dX3_within_21 (by decide) ?_ ?_
  · refine q_aload_n (pc := 27) dX3_within_27 rfl ?_
    refine q_callVv (pc := 28) [] dX3_within_28 lm_X3_137 yX3_findWorst_ok yX3_findWorst_in h0 (by decide) rfl (sX3_findWorst hK h0 sg) rfl rfl (Nat.le_of_ble_eq_true rfl) ⟨by decide, by decide⟩ (fun r1 s2 => ?_)
    refine q_aload_n (pc := 31) dX3_within_31 rfl ?_
    refine q_callVi (pc := 32) [] dX3_within_32 lm_X3_140 yX3_worstUpper_ok yX3_worstUpper_in h0 (by decide) rfl (sX3_worstUpper hK h0 s2) rfl rfl (Nat.le_of_ble_eq_true rfl) ⟨by decide, by decide⟩ (fun r3 s4 => ?_)
    refine q_i2l (pc := 35) dX3_within_35 ?_
    refine q_iload_n (pc := 36) dX3_within_36 rfl ?_
    refine q_i2l (pc := 37) dX3_within_37 ?_
    refine q_lmul (pc := 38) dX3_within_38 ?_
    refine q_iload_n (pc := 39) dX3_within_39 rfl ?_
    refine q_i2l (pc := 40) dX3_within_40 ?_
    refine q_aload_n (pc := 41) dX3_within_41 rfl ?_
    refine qg_3_0 (pc := 42) dX3_within_42 h0 lf_X3_9 ?_
    refine q_sipush (pc := 45) 840 dX3_within_45 (by decide) ?_
    refine q_imul (pc := 48) dX3_within_48 ?_
    refine q_i2l (pc := 49) dX3_within_49 ?_
    refine q_lmul (pc := 50) dX3_within_50 ?_
    refine q_lcmp (pc := 51) dX3_within_51 ?_
    refine q_if_gt (pc := 52) 59 dX3_within_52 (by decide) ?_ ?_
    · refine q_iconst (pc := 59) 0 dX3_within_59 (by decide) ?_
      exact q_ireturn (pc := 60) dX3_within_60
    refine q_iconst (pc := 55) 1 dX3_within_55 (by decide) ?_
    refine q_goto (pc := 56) 60 dX3_within_56 (by decide) ?_
    exact q_ireturn (pc := 60) dX3_within_60
  refine q_bipush (pc := 24) (-2) dX3_within_24 (by decide) ?_
  exact q_ireturn (pc := 26) dX3_within_26
-- LineSearch.take(I)I
def fX3_take (k0 : Nat) (x1 : Int32) (sg : qSt) : qR :=
  if x1 < 0 then
    some ((-2), sg)
  else
  if x1 ≤ 1 then
    if x1 = 0 then
      qb (fX3_findMean k0 sg) fun r5 s6 =>
      qb (fX2_copy (k0 + 3) (k0 + 12) s6) fun r7 s8 =>
      some ((s8 (k0 + 3) 2), s8)
    else
    qb (fX3_findWorst k0 sg) fun r1 s2 =>
    qb (fX2_copy (k0 + 3) (k0 + 15) s2) fun r3 s4 =>
    some ((s4 (k0 + 3) 2), s4)
  else
  some ((-2), sg)
set_option maxRecDepth 20000 in
set_option maxHeartbeats 4000000 in
theorem sX3_take {b : Nat} {K : List Nat} (hK : qOk K) {k0 : Nat} (h0 : qIn K k0 3) (x1 : Int32) (sg : qSt) : qS yX3_take cX3_take 2 (some .int) 6 144 b K [.ref (b + k0), .int x1] sg (fX3_take k0 x1 sg) := by
  refine qS_of (own := RX3) rfl (by decide) hK.1 (by simp [Value.category]) (Nat.le_of_ble_eq_true rfl) (fun z _ ty h => by cases h; exact vp_nar_int _) ?_
  show qJ RX3 cX3_take 2 6 144 false (fun _ _ => True) b K 0 [some (.ref (b + k0)), some (.int x1)] [] sg (fX3_take k0 x1 sg)
  unfold fX3_take
  refine q_iload_n (pc := 0) dX3_take_0 rfl ?_
  refine q_if_lt (pc := 1) 9 dX3_take_1 (by decide) ?_ ?_
  · refine q_bipush (pc := 9) (-2) dX3_take_9 (by decide) ?_
    exact q_ireturn (pc := 11) dX3_take_11
  refine q_iload_n (pc := 4) dX3_take_4 rfl ?_
  refine q_iconst (pc := 5) 1 dX3_take_5 (by decide) ?_
  refine q_icmp_le (pc := 6) 12 dX3_take_6 (by decide) ?_ ?_
  · refine q_iload_n (pc := 12) dX3_take_12 rfl ?_
    refine q_if_ne (pc := 13) 34 dX3_take_13 (by decide) ?_ ?_
    · refine q_aload_n (pc := 34) dX3_take_34 rfl ?_
      refine q_callVv (pc := 35) [] dX3_take_35 lm_X3_137 yX3_findWorst_ok yX3_findWorst_in h0 (by decide) rfl (sX3_findWorst hK h0 sg) rfl rfl (Nat.le_of_ble_eq_true rfl) ⟨by decide, by decide⟩ (fun r1 s2 => ?_)
      refine q_aload_n (pc := 38) dX3_take_38 rfl ?_
      refine qg_3_3 (pc := 39) dX3_take_39 h0 lf_X3_26 ?_
      refine q_aload_n (pc := 42) dX3_take_42 rfl ?_
      refine qg_3_6 (pc := 43) dX3_take_43 h0 lf_X3_40 ?_
      refine q_callVv (pc := 46) [.ref (b + ((k0 + 15)))] dX3_take_46 lm_X3_143 yX2_copy_ok yX2_copy_in (qch_3_3 hK h0) (by decide) rfl (sX2_copy hK (qch_3_3 hK h0) (qch_3_6 hK h0) s2) rfl rfl (Nat.le_of_ble_eq_true rfl) ⟨by decide, by decide⟩ (fun r3 s4 => ?_)
      refine q_aload_n (pc := 49) dX3_take_49 rfl ?_
      refine qg_3_3 (pc := 50) dX3_take_50 h0 lf_X3_26 ?_
      refine qg_2_2 (pc := 53) dX3_take_53 (qch_3_3 hK h0) lf_X3_78 ?_
      exact q_ireturn (pc := 56) dX3_take_56
    refine q_aload_n (pc := 16) dX3_take_16 rfl ?_
    refine q_callVv (pc := 17) [] dX3_take_17 lm_X3_127 yX3_findMean_ok yX3_findMean_in h0 (by decide) rfl (sX3_findMean hK h0 sg) rfl rfl (Nat.le_of_ble_eq_true rfl) ⟨by decide, by decide⟩ (fun r5 s6 => ?_)
    refine q_aload_n (pc := 20) dX3_take_20 rfl ?_
    refine qg_3_3 (pc := 21) dX3_take_21 h0 lf_X3_26 ?_
    refine q_aload_n (pc := 24) dX3_take_24 rfl ?_
    refine qg_3_5 (pc := 25) dX3_take_25 h0 lf_X3_37 ?_
    refine q_callVv (pc := 28) [.ref (b + ((k0 + 12)))] dX3_take_28 lm_X3_143 yX2_copy_ok yX2_copy_in (qch_3_3 hK h0) (by decide) rfl (sX2_copy hK (qch_3_3 hK h0) (qch_3_5 hK h0) s6) rfl rfl (Nat.le_of_ble_eq_true rfl) ⟨by decide, by decide⟩ (fun r7 s8 => ?_)
    refine q_goto (pc := 31) 49 dX3_take_31 (by decide) ?_
    refine q_aload_n (pc := 49) dX3_take_49 rfl ?_
    refine qg_3_3 (pc := 50) dX3_take_50 h0 lf_X3_26 ?_
    refine qg_2_2 (pc := 53) dX3_take_53 (qch_3_3 hK h0) lf_X3_78 ?_
    exact q_ireturn (pc := 56) dX3_take_56
  refine q_bipush (pc := 9) (-2) dX3_take_9 (by decide) ?_
  exact q_ireturn (pc := 11) dX3_take_11
-- LineSearch.tripThatMeets(II)I
def fX3_tripThatMeets (k0 : Nat) (x1 x2 : Int32) (sg : qSt) : qR :=
  qb (fX2_firstTo (k0 + 3) x1 x2 0 sg) fun r1 s2 =>
  qb (fX2_firstTo (k0 + 3) x1 x2 1 s2) fun r3 s4 =>
  if 0 ≤ r1 then
    if 0 ≤ r3 then
      qb (fX2_stepsAhead (k0 + 3) r3 1 s4) fun r5 s6 =>
      qb (fX2_stepsAhead (k0 + 3) r1 0 s6) fun r7 s8 =>
      if r7 ≤ r5 then
        some (r1, s8)
      else
      some (r3, s8)
    else
    some (r1, s4)
  else
  some (r3, s4)
set_option maxRecDepth 20000 in
set_option maxHeartbeats 4000000 in
theorem sX3_tripThatMeets {b : Nat} {K : List Nat} (hK : qOk K) {k0 : Nat} (h0 : qIn K k0 3) (x1 x2 : Int32) (sg : qSt) : qS yX3_tripThatMeets cX3_tripThatMeets 5 (some .int) 3 66 b K [.ref (b + k0), .int x1, .int x2] sg (fX3_tripThatMeets k0 x1 x2 sg) := by
  refine qS_of (own := RX3) rfl (by decide) hK.1 (by simp [Value.category]) (Nat.le_of_ble_eq_true rfl) (fun z _ ty h => by cases h; exact vp_nar_int _) ?_
  show qJ RX3 cX3_tripThatMeets 5 3 66 false (fun _ _ => True) b K 0 [some (.ref (b + k0)), some (.int x1), some (.int x2), none, none] [] sg (fX3_tripThatMeets k0 x1 x2 sg)
  unfold fX3_tripThatMeets
  refine q_aload_n (pc := 0) dX3_tripThatMeets_0 rfl ?_
  refine qg_3_3 (pc := 1) dX3_tripThatMeets_1 h0 lf_X3_26 ?_
  refine q_iload_n (pc := 4) dX3_tripThatMeets_4 rfl ?_
  refine q_iload_n (pc := 5) dX3_tripThatMeets_5 rfl ?_
  refine q_iconst (pc := 6) 0 dX3_tripThatMeets_6 (by decide) ?_
  refine q_callVi (pc := 7) [.int x1, .int x2, .int 0] dX3_tripThatMeets_7 lm_X3_158 yX2_firstTo_ok yX2_firstTo_in (qch_3_3 hK h0) (by decide) rfl (sX2_firstTo hK (qch_3_3 hK h0) x1 x2 0 sg) rfl rfl (Nat.le_of_ble_eq_true rfl) ⟨by decide, by decide⟩ (fun r1 s2 => ?_)
  refine q_istore_n (pc := 10) dX3_tripThatMeets_10 (by decide) ?_
  refine q_aload_n (pc := 11) dX3_tripThatMeets_11 rfl ?_
  refine qg_3_3 (pc := 12) dX3_tripThatMeets_12 h0 lf_X3_26 ?_
  refine q_iload_n (pc := 15) dX3_tripThatMeets_15 rfl ?_
  refine q_iload_n (pc := 16) dX3_tripThatMeets_16 rfl ?_
  refine q_iconst (pc := 17) 1 dX3_tripThatMeets_17 (by decide) ?_
  refine q_callVi (pc := 18) [.int x1, .int x2, .int 1] dX3_tripThatMeets_18 lm_X3_158 yX2_firstTo_ok yX2_firstTo_in (qch_3_3 hK h0) (by decide) rfl (sX2_firstTo hK (qch_3_3 hK h0) x1 x2 1 s2) rfl rfl (Nat.le_of_ble_eq_true rfl) ⟨by decide, by decide⟩ (fun r3 s4 => ?_)
  refine q_istore (pc := 21) dX3_tripThatMeets_21 (by decide) ?_
  refine q_iload_n (pc := 23) dX3_tripThatMeets_23 rfl ?_
  refine q_if_ge (pc := 24) 30 dX3_tripThatMeets_24 (by decide) ?_ ?_
  · refine q_iload (pc := 30) dX3_tripThatMeets_30 rfl ?_
    refine q_if_ge (pc := 32) 37 dX3_tripThatMeets_32 (by decide) ?_ ?_
    · refine q_aload_n (pc := 37) dX3_tripThatMeets_37 rfl ?_
      refine qg_3_3 (pc := 38) dX3_tripThatMeets_38 h0 lf_X3_26 ?_
      refine q_iload (pc := 41) dX3_tripThatMeets_41 rfl ?_
      refine q_iconst (pc := 43) 1 dX3_tripThatMeets_43 (by decide) ?_
      refine q_callVi (pc := 44) [.int r3, .int 1] dX3_tripThatMeets_44 lm_X3_94 yX2_stepsAhead_ok yX2_stepsAhead_in (qch_3_3 hK h0) (by decide) rfl (sX2_stepsAhead hK (qch_3_3 hK h0) r3 1 s4) rfl rfl (Nat.le_of_ble_eq_true rfl) ⟨by decide, by decide⟩ (fun r5 s6 => ?_)
      refine q_aload_n (pc := 47) dX3_tripThatMeets_47 rfl ?_
      refine qg_3_3 (pc := 48) dX3_tripThatMeets_48 h0 lf_X3_26 ?_
      refine q_iload_n (pc := 51) dX3_tripThatMeets_51 rfl ?_
      refine q_iconst (pc := 52) 0 dX3_tripThatMeets_52 (by decide) ?_
      refine q_callVi (pc := 53) [.int r1, .int 0] dX3_tripThatMeets_53 lm_X3_94 yX2_stepsAhead_ok yX2_stepsAhead_in (qch_3_3 hK h0) (by decide) rfl (sX2_stepsAhead hK (qch_3_3 hK h0) r1 0 s6) rfl rfl (Nat.le_of_ble_eq_true rfl) ⟨by decide, by decide⟩ (fun r7 s8 => ?_)
      refine q_icmp_ge (pc := 56) 64 dX3_tripThatMeets_56 (by decide) ?_ ?_
      · refine q_iload_n (pc := 64) dX3_tripThatMeets_64 rfl ?_
        exact q_ireturn (pc := 65) dX3_tripThatMeets_65
      refine q_iload (pc := 59) dX3_tripThatMeets_59 rfl ?_
      refine q_goto (pc := 61) 65 dX3_tripThatMeets_61 (by decide) ?_
      exact q_ireturn (pc := 65) dX3_tripThatMeets_65
    refine q_iload_n (pc := 35) dX3_tripThatMeets_35 rfl ?_
    exact q_ireturn (pc := 36) dX3_tripThatMeets_36
  refine q_iload (pc := 27) dX3_tripThatMeets_27 rfl ?_
  exact q_ireturn (pc := 29) dX3_tripThatMeets_29
-- LineSearch.both(III)I
def fX3_both (k0 : Nat) (x1 x2 x3 : Int32) (sg : qSt) : qR :=
  qb (fX0_has (k0 + 1) x1 x2 sg) fun r1 s2 =>
  if r1 = 0 then
    some ((-1), s2)
  else
  if x3 < 0 then
    some ((-2), s2)
  else
  if x3 ≤ 4 then
    qb (fX3_tripThatMeets k0 x1 x2 s2) fun r3 s4 =>
    qb (fX2_has (k0 + 3) r3 s4) fun r5 s6 =>
    if r5 = 0 then
      some ((-6), s6)
    else
    qb (fX2_stepsAhead (k0 + 3) r3 (r3 - r3 / 2 * 2) s6) fun r7 s8 =>
    qb (fX3_wholeTrips k0 r7 s8) fun r9 s10 =>
    if x3 = 0 then
      some ((r9 + ((s10 k0 0) * x2)), s10)
    else
    if x3 = 1 then
      qb (fX2_stepsOf (k0 + 3) r3 s10) fun r11 s12 =>
      qb (fX3_wholeTrips k0 (r7 + r11) s12) fun r13 s14 =>
      some (r13, s14)
    else
    if x3 = 2 then
      some ((r3 - r3 / 2 * 2), s10)
    else
    qb (fX3_lowest (r9 + ((s10 k0 0) * x2)) ((s10 k0 0) * x2) (x3 - 3) s10) fun r15 s16 =>
    some (r15, s16)
  else
  some ((-2), s2)
set_option maxRecDepth 20000 in
set_option maxHeartbeats 4000000 in
theorem sX3_both {b : Nat} {K : List Nat} (hK : qOk K) {k0 : Nat} (h0 : qIn K k0 3) (x1 x2 x3 : Int32) (sg : qSt) : qS yX3_both cX3_both 8 (some .int) 4 90 b K [.ref (b + k0), .int x1, .int x2, .int x3] sg (fX3_both k0 x1 x2 x3 sg) := by
  refine qS_of (own := RX3) rfl (by decide) hK.1 (by simp [Value.category]) (Nat.le_of_ble_eq_true rfl) (fun z _ ty h => by cases h; exact vp_nar_int _) ?_
  show qJ RX3 cX3_both 8 4 90 false (fun _ _ => True) b K 0 [some (.ref (b + k0)), some (.int x1), some (.int x2), some (.int x3), none, none, none, none] [] sg (fX3_both k0 x1 x2 x3 sg)
  unfold fX3_both
  refine q_aload_n (pc := 0) dX3_both_0 rfl ?_
  refine qg_3_2 (pc := 1) dX3_both_1 h0 lf_X3_19 ?_
  refine q_iload_n (pc := 4) dX3_both_4 rfl ?_
  refine q_iload_n (pc := 5) dX3_both_5 rfl ?_
  refine q_callVi (pc := 6) [.int x1, .int x2] dX3_both_6 lm_X3_67 yX0_has_ok yX0_has_in (qch_3_2 hK h0) (by decide) rfl (sX0_has hK (qch_3_2 hK h0) x1 x2 sg) rfl rfl (Nat.le_of_ble_eq_true rfl) ⟨by decide, by decide⟩ (fun r1 s2 => ?_)
  refine q_if_ne (pc := 9) 14 dX3_both_9 (by decide) ?_ ?_
  · refine q_iload_n (pc := 14) dX3_both_14 rfl ?_
    refine q_if_lt (pc := 15) 23 dX3_both_15 (by decide) ?_ ?_
    · refine q_bipush (pc := 23) (-2) dX3_both_23 (by decide) ?_
      exact q_ireturn (pc := 25) dX3_both_25
    refine q_iload_n (pc := 18) dX3_both_18 rfl ?_
    refine q_iconst (pc := 19) 4 dX3_both_19 (by decide) ?_
    refine q_icmp_le (pc := 20) 26 dX3_both_20 (by decide) ?_ ?_
    · refine q_aload_n (pc := 26) dX3_both_26 rfl ?_
      refine q_iload_n (pc := 27) dX3_both_27 rfl ?_
      refine q_iload_n (pc := 28) dX3_both_28 rfl ?_
      refine q_callVi (pc := 29) [.int x1, .int x2] dX3_both_29 lm_X3_147 yX3_tripThatMeets_ok yX3_tripThatMeets_in h0 (by decide) rfl (sX3_tripThatMeets hK h0 x1 x2 s2) rfl rfl (Nat.le_of_ble_eq_true rfl) ⟨by decide, by decide⟩ (fun r3 s4 => ?_)
      refine q_istore (pc := 32) dX3_both_32 (by decide) ?_
      refine q_aload_n (pc := 34) dX3_both_34 rfl ?_
      refine qg_3_3 (pc := 35) dX3_both_35 h0 lf_X3_26 ?_
      refine q_iload (pc := 38) dX3_both_38 rfl ?_
      refine q_callVi (pc := 40) [.int r3] dX3_both_40 lm_X3_84 yX2_has_ok yX2_has_in (qch_3_3 hK h0) (by decide) rfl (sX2_has hK (qch_3_3 hK h0) r3 s4) rfl rfl (Nat.le_of_ble_eq_true rfl) ⟨by decide, by decide⟩ (fun r5 s6 => ?_)
      refine q_if_ne (pc := 43) 49 dX3_both_43 (by decide) ?_ ?_
      · refine q_iload (pc := 49) dX3_both_49 rfl ?_
        refine q_iconst (pc := 51) 2 dX3_both_51 (by decide) ?_
        refine q_iremc (pc := 52) dX3_both_52 (by decide) ?_
        refine q_istore (pc := 53) dX3_both_53 (by decide) ?_
        refine q_aload_n (pc := 55) dX3_both_55 rfl ?_
        refine qg_3_3 (pc := 56) dX3_both_56 h0 lf_X3_26 ?_
        refine q_iload (pc := 59) dX3_both_59 rfl ?_
        refine q_iload (pc := 61) dX3_both_61 rfl ?_
        refine q_callVi (pc := 63) [.int r3, .int ((r3 - r3 / 2 * 2))] dX3_both_63 lm_X3_94 yX2_stepsAhead_ok yX2_stepsAhead_in (qch_3_3 hK h0) (by decide) rfl (sX2_stepsAhead hK (qch_3_3 hK h0) r3 (r3 - r3 / 2 * 2) s6) rfl rfl (Nat.le_of_ble_eq_true rfl) ⟨by decide, by decide⟩ (fun r7 s8 => ?_)
        refine q_istore (pc := 66) dX3_both_66 (by decide) ?_
        refine q_aload_n (pc := 68) dX3_both_68 rfl ?_
        refine q_iload (pc := 69) dX3_both_69 rfl ?_
        refine q_callVi (pc := 71) [.int r7] dX3_both_71 lm_X3_97 yX3_wholeTrips_ok yX3_wholeTrips_in h0 (by decide) rfl (sX3_wholeTrips hK h0 r7 s8) rfl rfl (Nat.le_of_ble_eq_true rfl) ⟨by decide, by decide⟩ (fun r9 s10 => ?_)
        refine q_aload_n (pc := 74) dX3_both_74 rfl ?_
        refine qg_3_0 (pc := 75) dX3_both_75 h0 lf_X3_9 ?_
        refine q_iload_n (pc := 78) dX3_both_78 rfl ?_
        refine q_imul (pc := 79) dX3_both_79 ?_
        refine q_iadd (pc := 80) dX3_both_80 ?_
        refine q_istore (pc := 81) dX3_both_81 (by decide) ?_
        refine q_iload_n (pc := 83) dX3_both_83 rfl ?_
        refine q_sel (fun hx84_0 => ?_) (fun hx84_0 => ?_)
        · refine q_tabIn (pc := 84) 112 dX3_both_84 (by rw [hx84_0]; decide) (by rw [hx84_0]; decide) (by rw [hx84_0]; rfl) (by decide) ?_
          refine q_iload (pc := 112) dX3_both_112 rfl ?_
          exact q_ireturn (pc := 114) dX3_both_114
        refine q_sel (fun hx84_1 => ?_) (fun hx84_1 => ?_)
        · refine q_tabIn (pc := 84) 115 dX3_both_84 (by rw [hx84_1]; decide) (by rw [hx84_1]; decide) (by rw [hx84_1]; rfl) (by decide) ?_
          refine q_aload_n (pc := 115) dX3_both_115 rfl ?_
          refine q_iload (pc := 116) dX3_both_116 rfl ?_
          refine q_aload_n (pc := 118) dX3_both_118 rfl ?_
          refine qg_3_3 (pc := 119) dX3_both_119 h0 lf_X3_26 ?_
          refine q_iload (pc := 122) dX3_both_122 rfl ?_
          refine q_callVi (pc := 124) [.int r3] dX3_both_124 lm_X3_91 yX2_stepsOf_ok yX2_stepsOf_in (qch_3_3 hK h0) (by decide) rfl (sX2_stepsOf hK (qch_3_3 hK h0) r3 s10) rfl rfl (Nat.le_of_ble_eq_true rfl) ⟨by decide, by decide⟩ (fun r11 s12 => ?_)
          refine q_iadd (pc := 127) dX3_both_127 ?_
          refine q_callVi (pc := 128) [.int ((r7 + r11))] dX3_both_128 lm_X3_97 yX3_wholeTrips_ok yX3_wholeTrips_in h0 (by decide) rfl (sX3_wholeTrips hK h0 (r7 + r11) s12) rfl rfl (Nat.le_of_ble_eq_true rfl) ⟨by decide, by decide⟩ (fun r13 s14 => ?_)
          exact q_ireturn (pc := 131) dX3_both_131
        refine q_sel (fun hx84_2 => ?_) (fun hx84_2 => ?_)
        · refine q_tabIn (pc := 84) 132 dX3_both_84 (by rw [hx84_2]; decide) (by rw [hx84_2]; decide) (by rw [hx84_2]; rfl) (by decide) ?_
          refine q_iload (pc := 132) dX3_both_132 rfl ?_
          exact q_ireturn (pc := 134) dX3_both_134
        refine q_tabOut (pc := 84) 135 dX3_both_84 (by have := qne 0 0 (by decide) hx84_0; have := qne 1 1 (by decide) hx84_1; have := qne 2 2 (by decide) hx84_2; omega) (by decide) ?_
        refine q_iload (pc := 135) dX3_both_135 rfl ?_
        refine q_aload_n (pc := 137) dX3_both_137 rfl ?_
        refine qg_3_0 (pc := 138) dX3_both_138 h0 lf_X3_9 ?_
        refine q_iload_n (pc := 141) dX3_both_141 rfl ?_
        refine q_imul (pc := 142) dX3_both_142 ?_
        refine q_iload_n (pc := 143) dX3_both_143 rfl ?_
        refine q_iconst (pc := 144) 3 dX3_both_144 (by decide) ?_
        refine q_isub (pc := 145) dX3_both_145 ?_
        refine q_callSi (pc := 146) [.int ((r9 + ((s10 k0 0) * x2))), .int (((s10 k0 0) * x2)), .int ((x3 - 3))] dX3_both_146 lm_X3_107 yX3_lowest_ok yX3_lowest_in (sX3_lowest hK (r9 + ((s10 k0 0) * x2)) ((s10 k0 0) * x2) (x3 - 3) s10) rfl rfl (Nat.le_of_ble_eq_true rfl) ⟨by decide, by decide⟩ (fun r15 s16 => ?_)
        exact q_ireturn (pc := 149) dX3_both_149
      refine q_bipush (pc := 46) (-6) dX3_both_46 (by decide) ?_
      exact q_ireturn (pc := 48) dX3_both_48
    refine q_bipush (pc := 23) (-2) dX3_both_23 (by decide) ?_
    exact q_ireturn (pc := 25) dX3_both_25
  refine q_iconst (pc := 12) (-1) dX3_both_12 (by decide) ?_
  exact q_ireturn (pc := 13) dX3_both_13
-- LineSearch.end()I
def fX3_end (k0 : Nat) (sg : qSt) : qR :=
  qb (fX2_stepsAhead (k0 + 3) (sg (k0 + 3) 2) 0 sg) fun r1 s2 =>
  qb (fX2_stepsAhead (k0 + 3) (sg (k0 + 3) 2) 1 s2) fun r3 s4 =>
  qb (fX3_wholeTrips k0 (if r1 < r3 then r3 else r1) s4) fun r5 s6 =>
  some (r5, s6)
set_option maxRecDepth 20000 in
set_option maxHeartbeats 4000000 in
theorem sX3_end {b : Nat} {K : List Nat} (hK : qOk K) {k0 : Nat} (h0 : qIn K k0 3) (sg : qSt) : qS yX3_end cX3_end 2 (some .int) 3 66 b K [.ref (b + k0)] sg (fX3_end k0 sg) := by
  refine qS_of (own := RX3) rfl (by decide) hK.1 (by simp [Value.category]) (Nat.le_of_ble_eq_true rfl) (fun z _ ty h => by cases h; exact vp_nar_int _) ?_
  show qJ RX3 cX3_end 2 3 66 false (fun _ _ => True) b K 0 [some (.ref (b + k0)), none] [] sg (fX3_end k0 sg)
  unfold fX3_end
  refine q_aload_n (pc := 0) dX3_end_0 rfl ?_
  refine qg_3_3 (pc := 1) dX3_end_1 h0 lf_X3_26 ?_
  refine qg_2_2 (pc := 4) dX3_end_4 (qch_3_3 hK h0) lf_X3_78 ?_
  refine q_istore_n (pc := 7) dX3_end_7 (by decide) ?_
  refine q_aload_n (pc := 8) dX3_end_8 rfl ?_
  refine q_aload_n (pc := 9) dX3_end_9 rfl ?_
  refine qg_3_3 (pc := 10) dX3_end_10 h0 lf_X3_26 ?_
  refine q_iload_n (pc := 13) dX3_end_13 rfl ?_
  refine q_iconst (pc := 14) 0 dX3_end_14 (by decide) ?_
  refine q_callVi (pc := 15) [.int ((sg (k0 + 3) 2)), .int 0] dX3_end_15 lm_X3_94 yX2_stepsAhead_ok yX2_stepsAhead_in (qch_3_3 hK h0) (by decide) rfl (sX2_stepsAhead hK (qch_3_3 hK h0) (sg (k0 + 3) 2) 0 sg) rfl rfl (Nat.le_of_ble_eq_true rfl) ⟨by decide, by decide⟩ (fun r1 s2 => ?_)
  refine q_aload_n (pc := 18) dX3_end_18 rfl ?_
  refine qg_3_3 (pc := 19) dX3_end_19 h0 lf_X3_26 ?_
  refine q_iload_n (pc := 22) dX3_end_22 rfl ?_
  refine q_iconst (pc := 23) 1 dX3_end_23 (by decide) ?_
  refine q_callVi (pc := 24) [.int ((sg (k0 + 3) 2)), .int 1] dX3_end_24 lm_X3_94 yX2_stepsAhead_ok yX2_stepsAhead_in (qch_3_3 hK h0) (by decide) rfl (sX2_stepsAhead hK (qch_3_3 hK h0) (sg (k0 + 3) 2) 1 s2) rfl rfl (Nat.le_of_ble_eq_true rfl) ⟨by decide, by decide⟩ (fun r3 s4 => ?_)
  refine q_mmax (pc := 27) dX3_end_27 lm_X3_150 qM_max1 qM_i qM_max3 (by decide) (Nat.le_of_ble_eq_true rfl) ?_
  refine q_callVi (pc := 30) [.int ((if r1 < r3 then r3 else r1))] dX3_end_30 lm_X3_97 yX3_wholeTrips_ok yX3_wholeTrips_in h0 (by decide) rfl (sX3_wholeTrips hK h0 (if r1 < r3 then r3 else r1) s4) rfl rfl (Nat.le_of_ble_eq_true rfl) ⟨by decide, by decide⟩ (fun r5 s6 => ?_)
  exact q_ireturn (pc := 33) dX3_end_33
-- LineSearch.told(I)I
def fX3_told (k0 : Nat) (x1 : Int32) (sg : qSt) : qR :=
  if x1 = 0 then
    some ((sg (k0 + 1) 0), sg)
  else
  if x1 = 1 then
    some ((sg (k0 + 1) 1), sg)
  else
  if x1 = 2 then
    some ((sg k0 0), sg)
  else
  if x1 = 3 then
    some ((sg k0 1), sg)
  else
  if x1 = 4 then
    some ((sg (k0 + 3) 2), sg)
  else
  if x1 = 5 then
    qb (fX0_allShares (k0 + 1) sg) fun r1 s2 =>
    some (r1, s2)
  else
  if x1 = 6 then
    qb (fX2_stepsAhead (k0 + 3) (sg (k0 + 3) 2) (-1) sg) fun r3 s4 =>
    qb (fX3_wholeTrips k0 r3 s4) fun r5 s6 =>
    some (r5, s6)
  else
  some ((-2), sg)
set_option maxRecDepth 20000 in
set_option maxHeartbeats 4000000 in
theorem sX3_told {b : Nat} {K : List Nat} (hK : qOk K) {k0 : Nat} (h0 : qIn K k0 3) (x1 : Int32) (sg : qSt) : qS yX3_told cX3_told 2 (some .int) 3 67 b K [.ref (b + k0), .int x1] sg (fX3_told k0 x1 sg) := by
  refine qS_of (own := RX3) rfl (by decide) hK.1 (by simp [Value.category]) (Nat.le_of_ble_eq_true rfl) (fun z _ ty h => by cases h; exact vp_nar_int _) ?_
  show qJ RX3 cX3_told 2 3 67 false (fun _ _ => True) b K 0 [some (.ref (b + k0)), some (.int x1)] [] sg (fX3_told k0 x1 sg)
  unfold fX3_told
  refine q_iload_n (pc := 0) dX3_told_0 rfl ?_
  refine q_sel (fun hx1_0 => ?_) (fun hx1_0 => ?_)
  · refine q_tabIn (pc := 1) 44 dX3_told_1 (by rw [hx1_0]; decide) (by rw [hx1_0]; decide) (by rw [hx1_0]; rfl) (by decide) ?_
    refine q_aload_n (pc := 44) dX3_told_44 rfl ?_
    refine qg_3_2 (pc := 45) dX3_told_45 h0 lf_X3_19 ?_
    refine qg_0_0 (pc := 48) dX3_told_48 (qch_3_2 hK h0) lf_X3_118 ?_
    exact q_ireturn (pc := 51) dX3_told_51
  refine q_sel (fun hx1_1 => ?_) (fun hx1_1 => ?_)
  · refine q_tabIn (pc := 1) 52 dX3_told_1 (by rw [hx1_1]; decide) (by rw [hx1_1]; decide) (by rw [hx1_1]; rfl) (by decide) ?_
    refine q_aload_n (pc := 52) dX3_told_52 rfl ?_
    refine qg_3_2 (pc := 53) dX3_told_53 h0 lf_X3_19 ?_
    refine qg_0_1 (pc := 56) dX3_told_56 (qch_3_2 hK h0) lf_X3_121 ?_
    exact q_ireturn (pc := 59) dX3_told_59
  refine q_sel (fun hx1_2 => ?_) (fun hx1_2 => ?_)
  · refine q_tabIn (pc := 1) 60 dX3_told_1 (by rw [hx1_2]; decide) (by rw [hx1_2]; decide) (by rw [hx1_2]; rfl) (by decide) ?_
    refine q_aload_n (pc := 60) dX3_told_60 rfl ?_
    refine qg_3_0 (pc := 61) dX3_told_61 h0 lf_X3_9 ?_
    exact q_ireturn (pc := 64) dX3_told_64
  refine q_sel (fun hx1_3 => ?_) (fun hx1_3 => ?_)
  · refine q_tabIn (pc := 1) 65 dX3_told_1 (by rw [hx1_3]; decide) (by rw [hx1_3]; decide) (by rw [hx1_3]; rfl) (by decide) ?_
    refine q_aload_n (pc := 65) dX3_told_65 rfl ?_
    refine qg_3_1 (pc := 66) dX3_told_66 h0 lf_X3_13 ?_
    exact q_ireturn (pc := 69) dX3_told_69
  refine q_sel (fun hx1_4 => ?_) (fun hx1_4 => ?_)
  · refine q_tabIn (pc := 1) 70 dX3_told_1 (by rw [hx1_4]; decide) (by rw [hx1_4]; decide) (by rw [hx1_4]; rfl) (by decide) ?_
    refine q_aload_n (pc := 70) dX3_told_70 rfl ?_
    refine qg_3_3 (pc := 71) dX3_told_71 h0 lf_X3_26 ?_
    refine qg_2_2 (pc := 74) dX3_told_74 (qch_3_3 hK h0) lf_X3_78 ?_
    exact q_ireturn (pc := 77) dX3_told_77
  refine q_sel (fun hx1_5 => ?_) (fun hx1_5 => ?_)
  · refine q_tabIn (pc := 1) 78 dX3_told_1 (by rw [hx1_5]; decide) (by rw [hx1_5]; decide) (by rw [hx1_5]; rfl) (by decide) ?_
    refine q_aload_n (pc := 78) dX3_told_78 rfl ?_
    refine qg_3_2 (pc := 79) dX3_told_79 h0 lf_X3_19 ?_
    refine q_callVi (pc := 82) [] dX3_told_82 lm_X3_155 yX0_allShares_ok yX0_allShares_in (qch_3_2 hK h0) (by decide) rfl (sX0_allShares hK (qch_3_2 hK h0) sg) rfl rfl (Nat.le_of_ble_eq_true rfl) ⟨by decide, by decide⟩ (fun r1 s2 => ?_)
    exact q_ireturn (pc := 85) dX3_told_85
  refine q_sel (fun hx1_6 => ?_) (fun hx1_6 => ?_)
  · refine q_tabIn (pc := 1) 86 dX3_told_1 (by rw [hx1_6]; decide) (by rw [hx1_6]; decide) (by rw [hx1_6]; rfl) (by decide) ?_
    refine q_aload_n (pc := 86) dX3_told_86 rfl ?_
    refine q_aload_n (pc := 87) dX3_told_87 rfl ?_
    refine qg_3_3 (pc := 88) dX3_told_88 h0 lf_X3_26 ?_
    refine q_aload_n (pc := 91) dX3_told_91 rfl ?_
    refine qg_3_3 (pc := 92) dX3_told_92 h0 lf_X3_26 ?_
    refine qg_2_2 (pc := 95) dX3_told_95 (qch_3_3 hK h0) lf_X3_78 ?_
    refine q_iconst (pc := 98) (-1) dX3_told_98 (by decide) ?_
    refine q_callVi (pc := 99) [.int ((sg (k0 + 3) 2)), .int (-1)] dX3_told_99 lm_X3_94 yX2_stepsAhead_ok yX2_stepsAhead_in (qch_3_3 hK h0) (by decide) rfl (sX2_stepsAhead hK (qch_3_3 hK h0) (sg (k0 + 3) 2) (-1) sg) rfl rfl (Nat.le_of_ble_eq_true rfl) ⟨by decide, by decide⟩ (fun r3 s4 => ?_)
    refine q_callVi (pc := 102) [.int r3] dX3_told_102 lm_X3_97 yX3_wholeTrips_ok yX3_wholeTrips_in h0 (by decide) rfl (sX3_wholeTrips hK h0 r3 s4) rfl rfl (Nat.le_of_ble_eq_true rfl) ⟨by decide, by decide⟩ (fun r5 s6 => ?_)
    exact q_ireturn (pc := 105) dX3_told_105
  refine q_tabOut (pc := 1) 106 dX3_told_1 (by have := qne 0 0 (by decide) hx1_0; have := qne 1 1 (by decide) hx1_1; have := qne 2 2 (by decide) hx1_2; have := qne 3 3 (by decide) hx1_3; have := qne 4 4 (by decide) hx1_4; have := qne 5 5 (by decide) hx1_5; have := qne 6 6 (by decide) hx1_6; omega) (by decide) ?_
  refine q_bipush (pc := 106) (-2) dX3_told_106 (by decide) ?_
  exact q_ireturn (pc := 108) dX3_told_108
