/-! ===== by program (gen.py): the walk of methods ===== -/
-- LineSearch$Outlook.lengthOf(I)I
def fX1_lengthOf (k0 : Nat) (x1 : Int32) (sg : qSt) : qR :=
  if (sg k0 0) ≤ x1 then
    some (0, sg)
  else
  some ((sg k0 1), sg)
set_option maxRecDepth 20000 in
set_option maxHeartbeats 4000000 in
theorem sX1_lengthOf {b : Nat} {K : List Nat} (hK : qOk K) {k0 : Nat} (h0 : qIn K k0 1) (x1 : Int32) (sg : qSt) : qS yX1_lengthOf cX1_lengthOf 2 (some .int) 0 0 b K [.ref (b + k0), .int x1] sg (fX1_lengthOf k0 x1 sg) := by
  refine qS_of (own := RX1) rfl (by decide) hK.1 (by simp [Value.category]) (Nat.le_of_ble_eq_true rfl) (fun z _ ty h => by cases h; exact vp_nar_int _) ?_
  show qJ RX1 cX1_lengthOf 2 0 0 false (fun _ _ => True) b K 0 [some (.ref (b + k0)), some (.int x1)] [] sg (fX1_lengthOf k0 x1 sg)
  unfold fX1_lengthOf
  refine q_iload_n (pc := 0) dX1_lengthOf_0 rfl ?_
  refine q_aload_n (pc := 1) dX1_lengthOf_1 rfl ?_
  refine qg_1_0 (pc := 2) dX1_lengthOf_2 h0 lf_X1_9 ?_
  refine q_icmp_ge (pc := 5) 15 dX1_lengthOf_5 (by decide) ?_ ?_
  · refine q_iconst (pc := 15) 0 dX1_lengthOf_15 (by decide) ?_
    exact q_ireturn (pc := 16) dX1_lengthOf_16
  refine q_aload_n (pc := 8) dX1_lengthOf_8 rfl ?_
  refine qg_1_1 (pc := 9) dX1_lengthOf_9 h0 lf_X1_15 ?_
  refine q_goto (pc := 12) 16 dX1_lengthOf_12 (by decide) ?_
  exact q_ireturn (pc := 16) dX1_lengthOf_16
-- LineSearch$Outlook.through(III)I
def fX1_through (k0 : Nat) (x1 x2 x3 : Int32) (sg : qSt) : qR :=
  qb (fX1_lengthOf k0 x1 sg) fun r1 s2 =>
  if r1 ≤ x2 then
    some ((-10000000), s2)
  else
  qb (fX3_at (k0 + 1) (x2 + 1) s2) fun r3 s4 =>
  qb (fX3_at (k0 + 4) x3 s4) fun r5 s6 =>
  some ((if r5 < r3 then r5 else r3), s6)
set_option maxRecDepth 20000 in
set_option maxHeartbeats 4000000 in
theorem sX1_through {b : Nat} {K : List Nat} (hK : qOk K) {k0 : Nat} (h0 : qIn K k0 1) (x1 x2 x3 : Int32) (sg : qSt) : qS yX1_through cX1_through 4 (some .int) 1 21 b K [.ref (b + k0), .int x1, .int x2, .int x3] sg (fX1_through k0 x1 x2 x3 sg) := by
  refine qS_of (own := RX1) rfl (by decide) hK.1 (by simp [Value.category]) (Nat.le_of_ble_eq_true rfl) (fun z _ ty h => by cases h; exact vp_nar_int _) ?_
  show qJ RX1 cX1_through 4 1 21 false (fun _ _ => True) b K 0 [some (.ref (b + k0)), some (.int x1), some (.int x2), some (.int x3)] [] sg (fX1_through k0 x1 x2 x3 sg)
  unfold fX1_through
  refine q_iload_n (pc := 0) dX1_through_0 rfl ?_
  refine q_aload_n (pc := 1) dX1_through_1 rfl ?_
  refine q_iload_n (pc := 2) dX1_through_2 rfl ?_
  refine q_callVi (pc := 3) [.int x1] dX1_through_3 lm_X1_69 yX1_lengthOf_ok yX1_lengthOf_in h0 (by decide) rfl (sX1_lengthOf hK h0 x1 sg) rfl rfl (Nat.le_of_ble_eq_true rfl) ⟨by decide, by decide⟩ (fun r1 s2 => ?_)
  refine q_icmp_ge (pc := 6) 33 dX1_through_6 (by decide) ?_ ?_
  · refine q_ldc (pc := 33) (-10000000) dX1_through_33 lc_X1_93 ?_
    exact q_ireturn (pc := 35) dX1_through_35
  refine q_aload_n (pc := 9) dX1_through_9 rfl ?_
  refine qg_1_2 (pc := 10) dX1_through_10 h0 lf_X1_18 ?_
  refine q_iload_n (pc := 13) dX1_through_13 rfl ?_
  refine q_iconst (pc := 14) 1 dX1_through_14 (by decide) ?_
  refine q_iadd (pc := 15) dX1_through_15 ?_
  refine q_callSNi (pc := 16) [.ref (b + ((k0 + 1))), .int ((x2 + 1))] dX1_through_16 (by decide) yX3_at_ok yX3_at_in (sX3_at hK (qch_1_2 hK h0) (x2 + 1) s2) rfl rfl (Nat.le_of_ble_eq_true rfl) ⟨by decide, by decide⟩ (fun r3 s4 => ?_)
  refine q_aload_n (pc := 19) dX1_through_19 rfl ?_
  refine qg_1_6 (pc := 20) dX1_through_20 h0 lf_X1_31 ?_
  refine q_iload_n (pc := 23) dX1_through_23 rfl ?_
  refine q_callSNi (pc := 24) [.ref (b + ((k0 + 4))), .int x3] dX1_through_24 (by decide) yX3_at_ok yX3_at_in (sX3_at hK (qch_1_6 hK h0) x3 s4) rfl rfl (Nat.le_of_ble_eq_true rfl) ⟨by decide, by decide⟩ (fun r5 s6 => ?_)
  refine q_mmin (pc := 27) dX1_through_27 lm_X1_90 qM_min1 qM_i qM_min3 (by decide) (Nat.le_of_ble_eq_true rfl) ?_
  refine q_goto (pc := 30) 35 dX1_through_30 (by decide) ?_
  exact q_ireturn (pc := 35) dX1_through_35
-- LineSearch$Outlook.offer(IIII)V
def fX1_offer_44 (w0 : Nat) (y1 y2 : Int32) (sg : qSt) : qR :=
    qb (fX3_put w0 y1 y2 sg) fun r1 s2 =>
    some (0, s2)
set_option maxRecDepth 20000 in
set_option maxHeartbeats 4000000 in
theorem tX1_offer_44 {b : Nat} {K : List Nat} (hK : qOk K) : ∀ (w0 : Nat) (y1 y2 : Int32) (sg : qSt), qIn K w0 5 → qJ RX1 cX1_offer 6 1 22 true (fun _ _ => True) b K 44 [none, none, none, none, none, none] [.int y2, .int y1, .ref (b + w0)] sg (fX1_offer_44 w0 y1 y2 sg) := by
  intro w0 y1 y2 sg g0
  unfold fX1_offer_44
  refine q_callSNv (pc := 44) [.ref (b + w0), .int y1, .int y2] dX1_offer_44 (by decide) yX3_put_ok yX3_put_in (sX3_put hK g0 y1 y2 sg) rfl rfl (Nat.le_of_ble_eq_true rfl) ⟨by decide, by decide⟩ (fun r1 s2 => ?_)
  exact q_return (pc := 47) dX1_offer_47
def fX1_offer_14 (k0 : Nat) (x3 x4 y0 : Int32) (sg : qSt) : qR :=
    if y0 = 0 then
      qb (fX3_at (k0 + 4) x3 sg) fun r1 s2 =>
      fX1_offer_44 ((k0 + 4)) x3 ((if x4 < r1 then r1 else x4)) s2
    else
    fX1_offer_44 ((k0 + 4)) x3 x4 sg
set_option maxRecDepth 20000 in
set_option maxHeartbeats 4000000 in
theorem tX1_offer_14 {b : Nat} {K : List Nat} (hK : qOk K) {k0 : Nat} (h0 : qIn K k0 1) : ∀ (x3 x4 y0 : Int32) (sg : qSt), qJ RX1 cX1_offer 6 1 22 true (fun _ _ => True) b K 14 [some (.ref (b + k0)), none, none, some (.int x3), some (.int x4), none] [.int y0] sg (fX1_offer_14 k0 x3 x4 y0 sg) := by
  intro x3 x4 y0 sg
  unfold fX1_offer_14
  refine q_istore (pc := 14) dX1_offer_14 (by decide) ?_
  refine q_aload_n (pc := 16) dX1_offer_16 rfl ?_
  refine qg_1_6 (pc := 17) dX1_offer_17 h0 lf_X1_31 ?_
  refine q_iload_n (pc := 20) dX1_offer_20 rfl ?_
  refine q_iload (pc := 21) dX1_offer_21 rfl ?_
  refine q_if_eq (pc := 23) 31 dX1_offer_23 (by decide) ?_ ?_
  · refine q_iload (pc := 31) dX1_offer_31 rfl ?_
    refine q_aload_n (pc := 33) dX1_offer_33 rfl ?_
    refine qg_1_6 (pc := 34) dX1_offer_34 h0 lf_X1_31 ?_
    refine q_iload_n (pc := 37) dX1_offer_37 rfl ?_
    refine q_callSNi (pc := 38) [.ref (b + ((k0 + 4))), .int x3] dX1_offer_38 (by decide) yX3_at_ok yX3_at_in (sX3_at hK (qch_1_6 hK h0) x3 sg) rfl rfl (Nat.le_of_ble_eq_true rfl) ⟨by decide, by decide⟩ (fun r1 s2 => ?_)
    refine q_mmax (pc := 41) dX1_offer_41 lm_X1_81 qM_max1 qM_i qM_max3 (by decide) (Nat.le_of_ble_eq_true rfl) ?_
    refine qJ_weak [none, none, none, none, none, none] trivial ?_
    exact tX1_offer_44 hK ((k0 + 4)) x3 ((if x4 < r1 then r1 else x4)) s2 (qch_1_6 hK h0)
  refine q_iload (pc := 26) dX1_offer_26 rfl ?_
  refine q_goto (pc := 28) 44 dX1_offer_28 (by decide) ?_
  refine qJ_weak [none, none, none, none, none, none] trivial ?_
  exact tX1_offer_44 hK ((k0 + 4)) x3 x4 sg (qch_1_6 hK h0)
def fX1_offer (k0 : Nat) (x1 x2 x3 x4 : Int32) (sg : qSt) : qR :=
  qb (fX1_lengthOf k0 x1 sg) fun r1 s2 =>
  if x2 = r1 then
    fX1_offer_14 k0 x3 x4 1 s2
  else
  fX1_offer_14 k0 x3 x4 0 s2
set_option maxRecDepth 20000 in
set_option maxHeartbeats 4000000 in
theorem sX1_offer {b : Nat} {K : List Nat} (hK : qOk K) {k0 : Nat} (h0 : qIn K k0 1) (x1 x2 x3 x4 : Int32) (sg : qSt) : qS yX1_offer cX1_offer 6 none 1 22 b K [.ref (b + k0), .int x1, .int x2, .int x3, .int x4] sg (fX1_offer k0 x1 x2 x3 x4 sg) := by
  refine qS_of (own := RX1) rfl (by decide) hK.1 (by simp [Value.category]) (Nat.le_of_ble_eq_true rfl) (fun z _ ty h => by cases h) ?_
  show qJ RX1 cX1_offer 6 1 22 true (fun _ _ => True) b K 0 [some (.ref (b + k0)), some (.int x1), some (.int x2), some (.int x3), some (.int x4), none] [] sg (fX1_offer k0 x1 x2 x3 x4 sg)
  unfold fX1_offer
  refine q_iload_n (pc := 0) dX1_offer_0 rfl ?_
  refine q_aload_n (pc := 1) dX1_offer_1 rfl ?_
  refine q_iload_n (pc := 2) dX1_offer_2 rfl ?_
  refine q_callVi (pc := 3) [.int x1] dX1_offer_3 lm_X1_69 yX1_lengthOf_ok yX1_lengthOf_in h0 (by decide) rfl (sX1_lengthOf hK h0 x1 sg) rfl rfl (Nat.le_of_ble_eq_true rfl) ⟨by decide, by decide⟩ (fun r1 s2 => ?_)
  refine q_icmp_ne (pc := 6) 13 dX1_offer_6 (by decide) ?_ ?_
  · refine q_iconst (pc := 13) 0 dX1_offer_13 (by decide) ?_
    refine qJ_weak [some (.ref (b + k0)), none, none, some (.int x3), some (.int x4), none] ⟨rfl, rfl, rfl, trivial⟩ ?_
    exact tX1_offer_14 hK h0 x3 x4 0 s2
  refine q_iconst (pc := 9) 1 dX1_offer_9 (by decide) ?_
  refine q_goto (pc := 10) 14 dX1_offer_10 (by decide) ?_
  refine qJ_weak [some (.ref (b + k0)), none, none, some (.int x3), some (.int x4), none] ⟨rfl, rfl, rfl, trivial⟩ ?_
  exact tX1_offer_14 hK h0 x3 x4 1 s2
-- LineSearch$Outlook.settle(III)V
def fX1_settle_94 (k0 : Nat) (x1 x2 x3 x4 x5 x6 x7 : Int32) (sg : qSt) : qR :=
    qb (fX3_put (k0 + 3) ((((x1 * 9) + x2) * 9) + x3) x7 sg) fun r1 s2 =>
    qb (fX3_at (k0 + 2) x1 s2) fun r3 s4 =>
    qb (fX3_at (k0 + 2) (9 + x2) s4) fun r5 s6 =>
    qb (fX3_at (k0 + 2) (18 + x3) s6) fun r7 s8 =>
    qb (fX1_offer k0 0 x1 x4 (x7 - (x1 * ((((s2 k0 4) + r3) + r5) + r7))) s8) fun r9 s10 =>
    qb (fX1_offer k0 1 x2 x5 (x7 - (x2 * ((((s2 k0 4) + r3) + r5) + r7))) s10) fun r11 s12 =>
    qb (fX1_offer k0 2 x3 x6 (x7 - (x3 * ((((s2 k0 4) + r3) + r5) + r7))) s12) fun r13 s14 =>
    some (0, s14)
set_option maxRecDepth 20000 in
set_option maxHeartbeats 4000000 in
theorem tX1_settle_94 {b : Nat} {K : List Nat} (hK : qOk K) {k0 : Nat} (h0 : qIn K k0 1) : ∀ (x1 x2 x3 x4 x5 x6 x7 : Int32) (sg : qSt), qJ RX1 cX1_settle 9 2 47 true (fun _ _ => True) b K 94 [some (.ref (b + k0)), some (.int x1), some (.int x2), some (.int x3), some (.int x4), some (.int x5), some (.int x6), some (.int x7), none] [] sg (fX1_settle_94 k0 x1 x2 x3 x4 x5 x6 x7 sg) := by
  intro x1 x2 x3 x4 x5 x6 x7 sg
  unfold fX1_settle_94
  refine q_aload_n (pc := 94) dX1_settle_94 rfl ?_
  refine qg_1_5 (pc := 95) dX1_settle_95 h0 lf_X1_28 ?_
  refine q_iload_n (pc := 98) dX1_settle_98 rfl ?_
  refine q_bipush (pc := 99) 9 dX1_settle_99 (by decide) ?_
  refine q_imul (pc := 101) dX1_settle_101 ?_
  refine q_iload_n (pc := 102) dX1_settle_102 rfl ?_
  refine q_iadd (pc := 103) dX1_settle_103 ?_
  refine q_bipush (pc := 104) 9 dX1_settle_104 (by decide) ?_
  refine q_imul (pc := 106) dX1_settle_106 ?_
  refine q_iload_n (pc := 107) dX1_settle_107 rfl ?_
  refine q_iadd (pc := 108) dX1_settle_108 ?_
  refine q_iload (pc := 109) dX1_settle_109 rfl ?_
  refine q_callSNv (pc := 111) [.ref (b + ((k0 + 3))), .int (((((x1 * 9) + x2) * 9) + x3)), .int x7] dX1_settle_111 (by decide) yX3_put_ok yX3_put_in (sX3_put hK (qch_1_5 hK h0) ((((x1 * 9) + x2) * 9) + x3) x7 sg) rfl rfl (Nat.le_of_ble_eq_true rfl) ⟨by decide, by decide⟩ (fun r1 s2 => ?_)
  refine q_aload_n (pc := 114) dX1_settle_114 rfl ?_
  refine qg_1_4 (pc := 115) dX1_settle_115 h0 lf_X1_25 ?_
  refine q_aload_n (pc := 118) dX1_settle_118 rfl ?_
  refine qg_1_3 (pc := 119) dX1_settle_119 h0 lf_X1_22 ?_
  refine q_iload_n (pc := 122) dX1_settle_122 rfl ?_
  refine q_callSNi (pc := 123) [.ref (b + ((k0 + 2))), .int x1] dX1_settle_123 (by decide) yX3_at_ok yX3_at_in (sX3_at hK (qch_1_3 hK h0) x1 s2) rfl rfl (Nat.le_of_ble_eq_true rfl) ⟨by decide, by decide⟩ (fun r3 s4 => ?_)
  refine q_iadd (pc := 126) dX1_settle_126 ?_
  refine q_aload_n (pc := 127) dX1_settle_127 rfl ?_
  refine qg_1_3 (pc := 128) dX1_settle_128 h0 lf_X1_22 ?_
  refine q_bipush (pc := 131) 9 dX1_settle_131 (by decide) ?_
  refine q_iload_n (pc := 133) dX1_settle_133 rfl ?_
  refine q_iadd (pc := 134) dX1_settle_134 ?_
  refine q_callSNi (pc := 135) [.ref (b + ((k0 + 2))), .int ((9 + x2))] dX1_settle_135 (by decide) yX3_at_ok yX3_at_in (sX3_at hK (qch_1_3 hK h0) (9 + x2) s4) rfl rfl (Nat.le_of_ble_eq_true rfl) ⟨by decide, by decide⟩ (fun r5 s6 => ?_)
  refine q_iadd (pc := 138) dX1_settle_138 ?_
  refine q_aload_n (pc := 139) dX1_settle_139 rfl ?_
  refine qg_1_3 (pc := 140) dX1_settle_140 h0 lf_X1_22 ?_
  refine q_bipush (pc := 143) 18 dX1_settle_143 (by decide) ?_
  refine q_iload_n (pc := 145) dX1_settle_145 rfl ?_
  refine q_iadd (pc := 146) dX1_settle_146 ?_
  refine q_callSNi (pc := 147) [.ref (b + ((k0 + 2))), .int ((18 + x3))] dX1_settle_147 (by decide) yX3_at_ok yX3_at_in (sX3_at hK (qch_1_3 hK h0) (18 + x3) s6) rfl rfl (Nat.le_of_ble_eq_true rfl) ⟨by decide, by decide⟩ (fun r7 s8 => ?_)
  refine q_iadd (pc := 150) dX1_settle_150 ?_
  refine q_istore (pc := 151) dX1_settle_151 (by decide) ?_
  refine q_aload_n (pc := 153) dX1_settle_153 rfl ?_
  refine q_iconst (pc := 154) 0 dX1_settle_154 (by decide) ?_
  refine q_iload_n (pc := 155) dX1_settle_155 rfl ?_
  refine q_iload (pc := 156) dX1_settle_156 rfl ?_
  refine q_iload (pc := 158) dX1_settle_158 rfl ?_
  refine q_iload_n (pc := 160) dX1_settle_160 rfl ?_
  refine q_iload (pc := 161) dX1_settle_161 rfl ?_
  refine q_imul (pc := 163) dX1_settle_163 ?_
  refine q_isub (pc := 164) dX1_settle_164 ?_
  refine q_callVv (pc := 165) [.int 0, .int x1, .int x4, .int ((x7 - (x1 * ((((s2 k0 4) + r3) + r5) + r7))))] dX1_settle_165 lm_X1_86 yX1_offer_ok yX1_offer_in h0 (by decide) rfl (sX1_offer hK h0 0 x1 x4 (x7 - (x1 * ((((s2 k0 4) + r3) + r5) + r7))) s8) rfl rfl (Nat.le_of_ble_eq_true rfl) ⟨by decide, by decide⟩ (fun r9 s10 => ?_)
  refine q_aload_n (pc := 168) dX1_settle_168 rfl ?_
  refine q_iconst (pc := 169) 1 dX1_settle_169 (by decide) ?_
  refine q_iload_n (pc := 170) dX1_settle_170 rfl ?_
  refine q_iload (pc := 171) dX1_settle_171 rfl ?_
  refine q_iload (pc := 173) dX1_settle_173 rfl ?_
  refine q_iload_n (pc := 175) dX1_settle_175 rfl ?_
  refine q_iload (pc := 176) dX1_settle_176 rfl ?_
  refine q_imul (pc := 178) dX1_settle_178 ?_
  refine q_isub (pc := 179) dX1_settle_179 ?_
  refine q_callVv (pc := 180) [.int 1, .int x2, .int x5, .int ((x7 - (x2 * ((((s2 k0 4) + r3) + r5) + r7))))] dX1_settle_180 lm_X1_86 yX1_offer_ok yX1_offer_in h0 (by decide) rfl (sX1_offer hK h0 1 x2 x5 (x7 - (x2 * ((((s2 k0 4) + r3) + r5) + r7))) s10) rfl rfl (Nat.le_of_ble_eq_true rfl) ⟨by decide, by decide⟩ (fun r11 s12 => ?_)
  refine q_aload_n (pc := 183) dX1_settle_183 rfl ?_
  refine q_iconst (pc := 184) 2 dX1_settle_184 (by decide) ?_
  refine q_iload_n (pc := 185) dX1_settle_185 rfl ?_
  refine q_iload (pc := 186) dX1_settle_186 rfl ?_
  refine q_iload (pc := 188) dX1_settle_188 rfl ?_
  refine q_iload_n (pc := 190) dX1_settle_190 rfl ?_
  refine q_iload (pc := 191) dX1_settle_191 rfl ?_
  refine q_imul (pc := 193) dX1_settle_193 ?_
  refine q_isub (pc := 194) dX1_settle_194 ?_
  refine q_callVv (pc := 195) [.int 2, .int x3, .int x6, .int ((x7 - (x3 * ((((s2 k0 4) + r3) + r5) + r7))))] dX1_settle_195 lm_X1_86 yX1_offer_ok yX1_offer_in h0 (by decide) rfl (sX1_offer hK h0 2 x3 x6 (x7 - (x3 * ((((s2 k0 4) + r3) + r5) + r7))) s12) rfl rfl (Nat.le_of_ble_eq_true rfl) ⟨by decide, by decide⟩ (fun r13 s14 => ?_)
  exact q_return (pc := 198) dX1_settle_198
def fX1_settle (k0 : Nat) (x1 x2 x3 : Int32) (sg : qSt) : qR :=
  qb (fX1_through k0 0 x1 ((x2 * 9) + x3) sg) fun r1 s2 =>
  qb (fX1_through k0 1 x2 ((81 + (x1 * 9)) + x3) s2) fun r3 s4 =>
  qb (fX1_through k0 2 x3 ((162 + (x1 * 9)) + x2) s4) fun r5 s6 =>
  qb (fX1_lengthOf k0 0 s6) fun r7 s8 =>
  if x1 = r7 then
    qb (fX1_lengthOf k0 1 s8) fun r9 s10 =>
    if x2 = r9 then
      qb (fX1_lengthOf k0 2 s10) fun r11 s12 =>
      if x3 = r11 then
        fX1_settle_94 k0 x1 x2 x3 (((x2 * 9) + x3)) (((81 + (x1 * 9)) + x3)) (((162 + (x1 * 9)) + x2)) 10000000 s12
      else
      fX1_settle_94 k0 x1 x2 x3 (((x2 * 9) + x3)) (((81 + (x1 * 9)) + x3)) (((162 + (x1 * 9)) + x2)) ((if r1 < (if r3 < r5 then r5 else r3) then (if r3 < r5 then r5 else r3) else r1)) s12
    else
    fX1_settle_94 k0 x1 x2 x3 (((x2 * 9) + x3)) (((81 + (x1 * 9)) + x3)) (((162 + (x1 * 9)) + x2)) ((if r1 < (if r3 < r5 then r5 else r3) then (if r3 < r5 then r5 else r3) else r1)) s10
  else
  fX1_settle_94 k0 x1 x2 x3 (((x2 * 9) + x3)) (((81 + (x1 * 9)) + x3)) (((162 + (x1 * 9)) + x2)) ((if r1 < (if r3 < r5 then r5 else r3) then (if r3 < r5 then r5 else r3) else r1)) s8
set_option maxRecDepth 20000 in
set_option maxHeartbeats 4000000 in
theorem sX1_settle {b : Nat} {K : List Nat} (hK : qOk K) {k0 : Nat} (h0 : qIn K k0 1) (x1 x2 x3 : Int32) (sg : qSt) : qS yX1_settle cX1_settle 9 none 2 47 b K [.ref (b + k0), .int x1, .int x2, .int x3] sg (fX1_settle k0 x1 x2 x3 sg) := by
  refine qS_of (own := RX1) rfl (by decide) hK.1 (by simp [Value.category]) (Nat.le_of_ble_eq_true rfl) (fun z _ ty h => by cases h) ?_
  show qJ RX1 cX1_settle 9 2 47 true (fun _ _ => True) b K 0 [some (.ref (b + k0)), some (.int x1), some (.int x2), some (.int x3), none, none, none, none, none] [] sg (fX1_settle k0 x1 x2 x3 sg)
  unfold fX1_settle
  refine q_iload_n (pc := 0) dX1_settle_0 rfl ?_
  refine q_bipush (pc := 1) 9 dX1_settle_1 (by decide) ?_
  refine q_imul (pc := 3) dX1_settle_3 ?_
  refine q_iload_n (pc := 4) dX1_settle_4 rfl ?_
  refine q_iadd (pc := 5) dX1_settle_5 ?_
  refine q_istore (pc := 6) dX1_settle_6 (by decide) ?_
  refine q_bipush (pc := 8) 81 dX1_settle_8 (by decide) ?_
  refine q_iload_n (pc := 10) dX1_settle_10 rfl ?_
  refine q_bipush (pc := 11) 9 dX1_settle_11 (by decide) ?_
  refine q_imul (pc := 13) dX1_settle_13 ?_
  refine q_iadd (pc := 14) dX1_settle_14 ?_
  refine q_iload_n (pc := 15) dX1_settle_15 rfl ?_
  refine q_iadd (pc := 16) dX1_settle_16 ?_
  refine q_istore (pc := 17) dX1_settle_17 (by decide) ?_
  refine q_sipush (pc := 19) 162 dX1_settle_19 (by decide) ?_
  refine q_iload_n (pc := 22) dX1_settle_22 rfl ?_
  refine q_bipush (pc := 23) 9 dX1_settle_23 (by decide) ?_
  refine q_imul (pc := 25) dX1_settle_25 ?_
  refine q_iadd (pc := 26) dX1_settle_26 ?_
  refine q_iload_n (pc := 27) dX1_settle_27 rfl ?_
  refine q_iadd (pc := 28) dX1_settle_28 ?_
  refine q_istore (pc := 29) dX1_settle_29 (by decide) ?_
  refine q_aload_n (pc := 31) dX1_settle_31 rfl ?_
  refine q_iconst (pc := 32) 0 dX1_settle_32 (by decide) ?_
  refine q_iload_n (pc := 33) dX1_settle_33 rfl ?_
  refine q_iload (pc := 34) dX1_settle_34 rfl ?_
  refine q_callVi (pc := 36) [.int 0, .int x1, .int (((x2 * 9) + x3))] dX1_settle_36 lm_X1_77 yX1_through_ok yX1_through_in h0 (by decide) rfl (sX1_through hK h0 0 x1 ((x2 * 9) + x3) sg) rfl rfl (Nat.le_of_ble_eq_true rfl) ⟨by decide, by decide⟩ (fun r1 s2 => ?_)
  refine q_aload_n (pc := 39) dX1_settle_39 rfl ?_
  refine q_iconst (pc := 40) 1 dX1_settle_40 (by decide) ?_
  refine q_iload_n (pc := 41) dX1_settle_41 rfl ?_
  refine q_iload (pc := 42) dX1_settle_42 rfl ?_
  refine q_callVi (pc := 44) [.int 1, .int x2, .int (((81 + (x1 * 9)) + x3))] dX1_settle_44 lm_X1_77 yX1_through_ok yX1_through_in h0 (by decide) rfl (sX1_through hK h0 1 x2 ((81 + (x1 * 9)) + x3) s2) rfl rfl (Nat.le_of_ble_eq_true rfl) ⟨by decide, by decide⟩ (fun r3 s4 => ?_)
  refine q_aload_n (pc := 47) dX1_settle_47 rfl ?_
  refine q_iconst (pc := 48) 2 dX1_settle_48 (by decide) ?_
  refine q_iload_n (pc := 49) dX1_settle_49 rfl ?_
  refine q_iload (pc := 50) dX1_settle_50 rfl ?_
  refine q_callVi (pc := 52) [.int 2, .int x3, .int (((162 + (x1 * 9)) + x2))] dX1_settle_52 lm_X1_77 yX1_through_ok yX1_through_in h0 (by decide) rfl (sX1_through hK h0 2 x3 ((162 + (x1 * 9)) + x2) s4) rfl rfl (Nat.le_of_ble_eq_true rfl) ⟨by decide, by decide⟩ (fun r5 s6 => ?_)
  refine q_mmax (pc := 55) dX1_settle_55 lm_X1_81 qM_max1 qM_i qM_max3 (by decide) (Nat.le_of_ble_eq_true rfl) ?_
  refine q_mmax (pc := 58) dX1_settle_58 lm_X1_81 qM_max1 qM_i qM_max3 (by decide) (Nat.le_of_ble_eq_true rfl) ?_
  refine q_istore (pc := 61) dX1_settle_61 (by decide) ?_
  refine q_iload_n (pc := 63) dX1_settle_63 rfl ?_
  refine q_aload_n (pc := 64) dX1_settle_64 rfl ?_
  refine q_iconst (pc := 65) 0 dX1_settle_65 (by decide) ?_
  refine q_callVi (pc := 66) [.int 0] dX1_settle_66 lm_X1_69 yX1_lengthOf_ok yX1_lengthOf_in h0 (by decide) rfl (sX1_lengthOf hK h0 0 s6) rfl rfl (Nat.le_of_ble_eq_true rfl) ⟨by decide, by decide⟩ (fun r7 s8 => ?_)
  refine q_icmp_ne (pc := 69) 94 dX1_settle_69 (by decide) ?_ ?_
  · exact tX1_settle_94 hK h0 x1 x2 x3 (((x2 * 9) + x3)) (((81 + (x1 * 9)) + x3)) (((162 + (x1 * 9)) + x2)) ((if r1 < (if r3 < r5 then r5 else r3) then (if r3 < r5 then r5 else r3) else r1)) s8
  refine q_iload_n (pc := 72) dX1_settle_72 rfl ?_
  refine q_aload_n (pc := 73) dX1_settle_73 rfl ?_
  refine q_iconst (pc := 74) 1 dX1_settle_74 (by decide) ?_
  refine q_callVi (pc := 75) [.int 1] dX1_settle_75 lm_X1_69 yX1_lengthOf_ok yX1_lengthOf_in h0 (by decide) rfl (sX1_lengthOf hK h0 1 s8) rfl rfl (Nat.le_of_ble_eq_true rfl) ⟨by decide, by decide⟩ (fun r9 s10 => ?_)
  refine q_icmp_ne (pc := 78) 94 dX1_settle_78 (by decide) ?_ ?_
  · exact tX1_settle_94 hK h0 x1 x2 x3 (((x2 * 9) + x3)) (((81 + (x1 * 9)) + x3)) (((162 + (x1 * 9)) + x2)) ((if r1 < (if r3 < r5 then r5 else r3) then (if r3 < r5 then r5 else r3) else r1)) s10
  refine q_iload_n (pc := 81) dX1_settle_81 rfl ?_
  refine q_aload_n (pc := 82) dX1_settle_82 rfl ?_
  refine q_iconst (pc := 83) 2 dX1_settle_83 (by decide) ?_
  refine q_callVi (pc := 84) [.int 2] dX1_settle_84 lm_X1_69 yX1_lengthOf_ok yX1_lengthOf_in h0 (by decide) rfl (sX1_lengthOf hK h0 2 s10) rfl rfl (Nat.le_of_ble_eq_true rfl) ⟨by decide, by decide⟩ (fun r11 s12 => ?_)
  refine q_icmp_ne (pc := 87) 94 dX1_settle_87 (by decide) ?_ ?_
  · exact tX1_settle_94 hK h0 x1 x2 x3 (((x2 * 9) + x3)) (((81 + (x1 * 9)) + x3)) (((162 + (x1 * 9)) + x2)) ((if r1 < (if r3 < r5 then r5 else r3) then (if r3 < r5 then r5 else r3) else r1)) s12
  refine q_ldc (pc := 90) 10000000 dX1_settle_90 lc_X1_49 ?_
  refine q_istore (pc := 92) dX1_settle_92 (by decide) ?_
  exact tX1_settle_94 hK h0 x1 x2 x3 (((x2 * 9) + x3)) (((81 + (x1 * 9)) + x3)) (((162 + (x1 * 9)) + x2)) 10000000 s12
-- LineSearch$Outlook.sweep()V
def fX1_sweep_26 (k0 : Nat) (c16 : Int32 → Int32 → qSt → qR) : Nat → Int32 → Int32 → Int32 → qSt → qR
  | 0, _, _, _, _ => none
  | n + 1, x1, x2, x3, sg =>
    if x3 < 0 then
      c16 x1 ((x2 + (-1))) sg
    else
    qb (fX1_settle k0 x1 x2 x3 sg) fun r1 s2 =>
    fX1_sweep_26 k0 c16 n x1 x2 ((x3 + (-1))) s2
set_option maxRecDepth 20000 in
set_option maxHeartbeats 4000000 in
theorem tX1_sweep_26 {b : Nat} {K : List Nat} (hK : qOk K) {k0 : Nat} {c16 : Int32 → Int32 → qSt → qR} (h0 : qIn K k0 1) (hc16 : ∀ (x1 x2 : Int32) (sg : qSt), qJ RX1 cX1_sweep 4 3 75 true (fun _ _ => True) b K 16 [some (.ref (b + k0)), some (.int x1), some (.int x2), none] [] sg (c16 x1 x2 sg)) : ∀ (n : Nat) (x1 x2 x3 : Int32) (sg : qSt), qJ RX1 cX1_sweep 4 3 75 true (fun _ _ => True) b K 26 [some (.ref (b + k0)), some (.int x1), some (.int x2), some (.int x3)] [] sg (fX1_sweep_26 k0 c16 n x1 x2 x3 sg) := by
  intro n
  induction n with
  | zero => intro x1 x2 x3 sg; exact qJ_none
  | succ n ih =>
    intro x1 x2 x3 sg
    unfold fX1_sweep_26
    refine q_iload_n (pc := 26) dX1_sweep_26 rfl ?_
    refine q_if_lt (pc := 27) 43 dX1_sweep_27 (by decide) ?_ ?_
    · refine q_iinc (pc := 43) (-1) dX1_sweep_43 rfl (by decide) (by decide) ?_
      refine q_goto (pc := 46) 16 dX1_sweep_46 (by decide) ?_
      refine qJ_weak [some (.ref (b + k0)), some (.int x1), some (.int ((x2 + (-1)))), none] ⟨rfl, rfl, rfl, trivial⟩ ?_
      exact hc16 x1 ((x2 + (-1))) sg
    refine q_aload_n (pc := 30) dX1_sweep_30 rfl ?_
    refine q_iload_n (pc := 31) dX1_sweep_31 rfl ?_
    refine q_iload_n (pc := 32) dX1_sweep_32 rfl ?_
    refine q_iload_n (pc := 33) dX1_sweep_33 rfl ?_
    refine q_callVv (pc := 34) [.int x1, .int x2, .int x3] dX1_sweep_34 lm_X1_73 yX1_settle_ok yX1_settle_in h0 (by decide) rfl (sX1_settle hK h0 x1 x2 x3 sg) rfl rfl (Nat.le_of_ble_eq_true rfl) ⟨by decide, by decide⟩ (fun r1 s2 => ?_)
    refine q_iinc (pc := 37) (-1) dX1_sweep_37 rfl (by decide) (by decide) ?_
    refine q_goto (pc := 40) 26 dX1_sweep_40 (by decide) ?_
    exact ih x1 x2 ((x3 + (-1))) s2
def fX1_sweep_16 (k0 : Nat) (c6 : Int32 → qSt → qR) : Nat → Int32 → Int32 → qSt → qR
  | 0, _, _, _ => none
  | n + 1, x1, x2, sg =>
    if x2 < 0 then
      c6 ((x1 + (-1))) sg
    else
    qb (fX1_lengthOf k0 2 sg) fun r1 s2 =>
    fX1_sweep_26 k0 (fun z1 z2 sg => fX1_sweep_16 k0 c6 n z1 z2 sg) qfu x1 x2 r1 s2
set_option maxRecDepth 20000 in
set_option maxHeartbeats 4000000 in
theorem tX1_sweep_16 {b : Nat} {K : List Nat} (hK : qOk K) {k0 : Nat} {c6 : Int32 → qSt → qR} (h0 : qIn K k0 1) (hc6 : ∀ (x1 : Int32) (sg : qSt), qJ RX1 cX1_sweep 4 3 75 true (fun _ _ => True) b K 6 [some (.ref (b + k0)), some (.int x1), none, none] [] sg (c6 x1 sg)) : ∀ (n : Nat) (x1 x2 : Int32) (sg : qSt), qJ RX1 cX1_sweep 4 3 75 true (fun _ _ => True) b K 16 [some (.ref (b + k0)), some (.int x1), some (.int x2), none] [] sg (fX1_sweep_16 k0 c6 n x1 x2 sg) := by
  intro n
  induction n with
  | zero => intro x1 x2 sg; exact qJ_none
  | succ n ih =>
    intro x1 x2 sg
    unfold fX1_sweep_16
    refine q_iload_n (pc := 16) dX1_sweep_16 rfl ?_
    refine q_if_lt (pc := 17) 49 dX1_sweep_17 (by decide) ?_ ?_
    · refine q_iinc (pc := 49) (-1) dX1_sweep_49 rfl (by decide) (by decide) ?_
      refine q_goto (pc := 52) 6 dX1_sweep_52 (by decide) ?_
      refine qJ_weak [some (.ref (b + k0)), some (.int ((x1 + (-1)))), none, none] ⟨rfl, rfl, trivial⟩ ?_
      exact hc6 ((x1 + (-1))) sg
    refine q_aload_n (pc := 20) dX1_sweep_20 rfl ?_
    refine q_iconst (pc := 21) 2 dX1_sweep_21 (by decide) ?_
    refine q_callVi (pc := 22) [.int 2] dX1_sweep_22 lm_X1_69 yX1_lengthOf_ok yX1_lengthOf_in h0 (by decide) rfl (sX1_lengthOf hK h0 2 sg) rfl rfl (Nat.le_of_ble_eq_true rfl) ⟨by decide, by decide⟩ (fun r1 s2 => ?_)
    refine q_istore_n (pc := 25) dX1_sweep_25 (by decide) ?_
    exact tX1_sweep_26 hK h0 (fun z1 z2 sg => ih z1 z2 sg) qfu x1 x2 r1 s2
def fX1_sweep_6 (k0 : Nat) : Nat → Int32 → qSt → qR
  | 0, _, _ => none
  | n + 1, x1, sg =>
    if x1 < 0 then
      some (0, sg)
    else
    qb (fX1_lengthOf k0 1 sg) fun r1 s2 =>
    fX1_sweep_16 k0 (fun z1 sg => fX1_sweep_6 k0 n z1 sg) qfu x1 r1 s2
set_option maxRecDepth 20000 in
set_option maxHeartbeats 4000000 in
theorem tX1_sweep_6 {b : Nat} {K : List Nat} (hK : qOk K) {k0 : Nat} (h0 : qIn K k0 1) : ∀ (n : Nat) (x1 : Int32) (sg : qSt), qJ RX1 cX1_sweep 4 3 75 true (fun _ _ => True) b K 6 [some (.ref (b + k0)), some (.int x1), none, none] [] sg (fX1_sweep_6 k0 n x1 sg) := by
  intro n
  induction n with
  | zero => intro x1 sg; exact qJ_none
  | succ n ih =>
    intro x1 sg
    unfold fX1_sweep_6
    refine q_iload_n (pc := 6) dX1_sweep_6 rfl ?_
    refine q_if_lt (pc := 7) 55 dX1_sweep_7 (by decide) ?_ ?_
    · exact q_return (pc := 55) dX1_sweep_55
    refine q_aload_n (pc := 10) dX1_sweep_10 rfl ?_
    refine q_iconst (pc := 11) 1 dX1_sweep_11 (by decide) ?_
    refine q_callVi (pc := 12) [.int 1] dX1_sweep_12 lm_X1_69 yX1_lengthOf_ok yX1_lengthOf_in h0 (by decide) rfl (sX1_lengthOf hK h0 1 sg) rfl rfl (Nat.le_of_ble_eq_true rfl) ⟨by decide, by decide⟩ (fun r1 s2 => ?_)
    refine q_istore_n (pc := 15) dX1_sweep_15 (by decide) ?_
    exact tX1_sweep_16 hK h0 (fun z1 sg => ih z1 sg) qfu x1 r1 s2
def fX1_sweep (k0 : Nat) (sg : qSt) : qR :=
  qb (fX1_lengthOf k0 0 sg) fun r1 s2 =>
  fX1_sweep_6 k0 qfu r1 s2
set_option maxRecDepth 20000 in
set_option maxHeartbeats 4000000 in
theorem sX1_sweep {b : Nat} {K : List Nat} (hK : qOk K) {k0 : Nat} (h0 : qIn K k0 1) (sg : qSt) : qS yX1_sweep cX1_sweep 4 none 3 75 b K [.ref (b + k0)] sg (fX1_sweep k0 sg) := by
  refine qS_of (own := RX1) rfl (by decide) hK.1 (by simp [Value.category]) (Nat.le_of_ble_eq_true rfl) (fun z _ ty h => by cases h) ?_
  show qJ RX1 cX1_sweep 4 3 75 true (fun _ _ => True) b K 0 [some (.ref (b + k0)), none, none, none] [] sg (fX1_sweep k0 sg)
  unfold fX1_sweep
  refine q_aload_n (pc := 0) dX1_sweep_0 rfl ?_
  refine q_iconst (pc := 1) 0 dX1_sweep_1 (by decide) ?_
  refine q_callVi (pc := 2) [.int 0] dX1_sweep_2 lm_X1_69 yX1_lengthOf_ok yX1_lengthOf_in h0 (by decide) rfl (sX1_lengthOf hK h0 0 sg) rfl rfl (Nat.le_of_ble_eq_true rfl) ⟨by decide, by decide⟩ (fun r1 s2 => ?_)
  refine q_istore_n (pc := 5) dX1_sweep_5 (by decide) ?_
  exact tX1_sweep_6 hK h0 qfu r1 s2
-- LineSearch$Outlook.costOf(II)I
def fX1_costOf_43 (k0 : Nat) (c8 : Int32 → Int32 → Int32 → Int32 → qSt → qR) (w1 : Nat) (x1 x2 x4 y0 y2 y3 : Int32) (sg : qSt) : qR :=
    qb (fX3_at w1 (y2 + y3) sg) fun r1 s2 =>
    c8 x1 x2 ((y0 + r1)) ((x4 + 1)) s2
set_option maxRecDepth 20000 in
set_option maxHeartbeats 4000000 in
theorem tX1_costOf_43 {b : Nat} {K : List Nat} (hK : qOk K) {k0 : Nat} {c8 : Int32 → Int32 → Int32 → Int32 → qSt → qR} (h0 : qIn K k0 1) (hc8 : ∀ (x1 x2 x3 x4 : Int32) (sg : qSt), qJ RX1 cX1_costOf 5 1 21 false (fun _ _ => True) b K 8 [some (.ref (b + k0)), some (.int x1), some (.int x2), some (.int x3), some (.int x4)] [] sg (c8 x1 x2 x3 x4 sg)) : ∀ (w1 : Nat) (x1 x2 x4 y0 y2 y3 : Int32) (sg : qSt), qIn K w1 5 → qJ RX1 cX1_costOf 5 1 21 false (fun _ _ => True) b K 43 [some (.ref (b + k0)), some (.int x1), some (.int x2), none, some (.int x4)] [.int y3, .int y2, .ref (b + w1), .int y0] sg (fX1_costOf_43 k0 c8 w1 x1 x2 x4 y0 y2 y3 sg) := by
  intro w1 x1 x2 x4 y0 y2 y3 sg g1
  unfold fX1_costOf_43
  refine q_iadd (pc := 43) dX1_costOf_43 ?_
  refine q_callSNi (pc := 44) [.ref (b + w1), .int ((y2 + y3))] dX1_costOf_44 (by decide) yX3_at_ok yX3_at_in (sX3_at hK g1 (y2 + y3) sg) rfl rfl (Nat.le_of_ble_eq_true rfl) ⟨by decide, by decide⟩ (fun r1 s2 => ?_)
  refine q_iadd (pc := 47) dX1_costOf_47 ?_
  refine q_istore_n (pc := 48) dX1_costOf_48 (by decide) ?_
  refine q_iinc (pc := 49) 1 dX1_costOf_49 rfl (by decide) (by decide) ?_
  refine q_goto (pc := 52) 8 dX1_costOf_52 (by decide) ?_
  exact hc8 x1 x2 ((y0 + r1)) ((x4 + 1)) s2
def fX1_costOf_8 (k0 : Nat) : Nat → Int32 → Int32 → Int32 → Int32 → qSt → qR
  | 0, _, _, _, _, _ => none
  | n + 1, x1, x2, x3, x4, sg =>
    if 3 ≤ x4 then
      some ((x3 * x2), sg)
    else
    if x4 = x1 then
      fX1_costOf_43 k0 (fun z1 z2 z3 z4 sg => fX1_costOf_8 k0 n z1 z2 z3 z4 sg) ((k0 + 2)) x1 x2 x4 x3 ((x4 * 9)) x2 sg
    else
    qb (fX3_at (k0 + 5) x4 sg) fun r1 s2 =>
    fX1_costOf_43 k0 (fun z1 z2 z3 z4 sg => fX1_costOf_8 k0 n z1 z2 z3 z4 sg) ((k0 + 2)) x1 x2 x4 x3 ((x4 * 9)) r1 s2
set_option maxRecDepth 20000 in
set_option maxHeartbeats 4000000 in
theorem tX1_costOf_8 {b : Nat} {K : List Nat} (hK : qOk K) {k0 : Nat} (h0 : qIn K k0 1) : ∀ (n : Nat) (x1 x2 x3 x4 : Int32) (sg : qSt), qJ RX1 cX1_costOf 5 1 21 false (fun _ _ => True) b K 8 [some (.ref (b + k0)), some (.int x1), some (.int x2), some (.int x3), some (.int x4)] [] sg (fX1_costOf_8 k0 n x1 x2 x3 x4 sg) := by
  intro n
  induction n with
  | zero => intro x1 x2 x3 x4 sg; exact qJ_none
  | succ n ih =>
    intro x1 x2 x3 x4 sg
    unfold fX1_costOf_8
    refine q_iload (pc := 8) dX1_costOf_8 rfl ?_
    refine q_iconst (pc := 10) 3 dX1_costOf_10 (by decide) ?_
    refine q_icmp_ge (pc := 11) 55 dX1_costOf_11 (by decide) ?_ ?_
    · refine q_iload_n (pc := 55) dX1_costOf_55 rfl ?_
      refine q_iload_n (pc := 56) dX1_costOf_56 rfl ?_
      refine q_imul (pc := 57) dX1_costOf_57 ?_
      exact q_ireturn (pc := 58) dX1_costOf_58
    refine q_iload_n (pc := 14) dX1_costOf_14 rfl ?_
    refine q_aload_n (pc := 15) dX1_costOf_15 rfl ?_
    refine qg_1_3 (pc := 16) dX1_costOf_16 h0 lf_X1_22 ?_
    refine q_iload (pc := 19) dX1_costOf_19 rfl ?_
    refine q_bipush (pc := 21) 9 dX1_costOf_21 (by decide) ?_
    refine q_imul (pc := 23) dX1_costOf_23 ?_
    refine q_iload (pc := 24) dX1_costOf_24 rfl ?_
    refine q_iload_n (pc := 26) dX1_costOf_26 rfl ?_
    refine q_icmp_ne (pc := 27) 34 dX1_costOf_27 (by decide) ?_ ?_
    · refine q_aload_n (pc := 34) dX1_costOf_34 rfl ?_
      refine qg_1_7 (pc := 35) dX1_costOf_35 h0 lf_X1_34 ?_
      refine q_iload (pc := 38) dX1_costOf_38 rfl ?_
      refine q_callSNi (pc := 40) [.ref (b + ((k0 + 5))), .int x4] dX1_costOf_40 (by decide) yX3_at_ok yX3_at_in (sX3_at hK (qch_1_7 hK h0) x4 sg) rfl rfl (Nat.le_of_ble_eq_true rfl) ⟨by decide, by decide⟩ (fun r1 s2 => ?_)
      refine qJ_weak [some (.ref (b + k0)), some (.int x1), some (.int x2), none, some (.int x4)] ⟨rfl, rfl, rfl, rfl, trivial⟩ ?_
      exact tX1_costOf_43 hK h0 (fun z1 z2 z3 z4 sg => ih z1 z2 z3 z4 sg) ((k0 + 2)) x1 x2 x4 x3 ((x4 * 9)) r1 s2 (qch_1_3 hK h0)
    refine q_iload_n (pc := 30) dX1_costOf_30 rfl ?_
    refine q_goto (pc := 31) 43 dX1_costOf_31 (by decide) ?_
    refine qJ_weak [some (.ref (b + k0)), some (.int x1), some (.int x2), none, some (.int x4)] ⟨rfl, rfl, rfl, rfl, trivial⟩ ?_
    exact tX1_costOf_43 hK h0 (fun z1 z2 z3 z4 sg => ih z1 z2 z3 z4 sg) ((k0 + 2)) x1 x2 x4 x3 ((x4 * 9)) x2 sg (qch_1_3 hK h0)
def fX1_costOf (k0 : Nat) (x1 x2 : Int32) (sg : qSt) : qR :=
  fX1_costOf_8 k0 qfu x1 x2 ((sg k0 4)) 0 sg
set_option maxRecDepth 20000 in
set_option maxHeartbeats 4000000 in
theorem sX1_costOf {b : Nat} {K : List Nat} (hK : qOk K) {k0 : Nat} (h0 : qIn K k0 1) (x1 x2 : Int32) (sg : qSt) : qS yX1_costOf cX1_costOf 5 (some .int) 1 21 b K [.ref (b + k0), .int x1, .int x2] sg (fX1_costOf k0 x1 x2 sg) := by
  refine qS_of (own := RX1) rfl (by decide) hK.1 (by simp [Value.category]) (Nat.le_of_ble_eq_true rfl) (fun z _ ty h => by cases h; exact vp_nar_int _) ?_
  show qJ RX1 cX1_costOf 5 1 21 false (fun _ _ => True) b K 0 [some (.ref (b + k0)), some (.int x1), some (.int x2), none, none] [] sg (fX1_costOf k0 x1 x2 sg)
  unfold fX1_costOf
  refine q_aload_n (pc := 0) dX1_costOf_0 rfl ?_
  refine qg_1_4 (pc := 1) dX1_costOf_1 h0 lf_X1_25 ?_
  refine q_istore_n (pc := 4) dX1_costOf_4 (by decide) ?_
  refine q_iconst (pc := 5) 0 dX1_costOf_5 (by decide) ?_
  refine q_istore (pc := 6) dX1_costOf_6 (by decide) ?_
  exact tX1_costOf_8 hK h0 qfu x1 x2 ((sg k0 4)) 0 sg
-- LineSearch$Outlook.stateAfter(II)I
def fX1_stateAfter_5 (k0 : Nat) : Nat → Int32 → Int32 → Int32 → Int32 → qSt → qR
  | 0, _, _, _, _, _ => none
  | n + 1, x1, x2, x3, x4, sg =>
    if 3 ≤ x4 then
      some (x3, sg)
    else
    if x4 = x1 then
      fX1_stateAfter_5 k0 n x1 x2 (((x3 * 9) + x2)) ((x4 + 1)) sg
    else
    qb (fX3_at (k0 + 5) x4 sg) fun r1 s2 =>
    fX1_stateAfter_5 k0 n x1 x2 (((x3 * 9) + r1)) ((x4 + 1)) s2
set_option maxRecDepth 20000 in
set_option maxHeartbeats 4000000 in
theorem tX1_stateAfter_5 {b : Nat} {K : List Nat} (hK : qOk K) {k0 : Nat} (h0 : qIn K k0 1) : ∀ (n : Nat) (x1 x2 x3 x4 : Int32) (sg : qSt), qJ RX1 cX1_stateAfter 5 1 21 false (fun _ _ => True) b K 5 [some (.ref (b + k0)), some (.int x1), some (.int x2), some (.int x3), some (.int x4)] [] sg (fX1_stateAfter_5 k0 n x1 x2 x3 x4 sg) := by
  intro n
  induction n with
  | zero => intro x1 x2 x3 x4 sg; exact qJ_none
  | succ n ih =>
    intro x1 x2 x3 x4 sg
    unfold fX1_stateAfter_5
    refine q_iload (pc := 5) dX1_stateAfter_5 rfl ?_
    refine q_iconst (pc := 7) 3 dX1_stateAfter_7 (by decide) ?_
    refine q_icmp_ge (pc := 8) 42 dX1_stateAfter_8 (by decide) ?_ ?_
    · refine q_iload_n (pc := 42) dX1_stateAfter_42 rfl ?_
      exact q_ireturn (pc := 43) dX1_stateAfter_43
    refine q_iload_n (pc := 11) dX1_stateAfter_11 rfl ?_
    refine q_bipush (pc := 12) 9 dX1_stateAfter_12 (by decide) ?_
    refine q_imul (pc := 14) dX1_stateAfter_14 ?_
    refine q_iload (pc := 15) dX1_stateAfter_15 rfl ?_
    refine q_iload_n (pc := 17) dX1_stateAfter_17 rfl ?_
    refine q_icmp_ne (pc := 18) 25 dX1_stateAfter_18 (by decide) ?_ ?_
    · refine q_aload_n (pc := 25) dX1_stateAfter_25 rfl ?_
      refine qg_1_7 (pc := 26) dX1_stateAfter_26 h0 lf_X1_34 ?_
      refine q_iload (pc := 29) dX1_stateAfter_29 rfl ?_
      refine q_callSNi (pc := 31) [.ref (b + ((k0 + 5))), .int x4] dX1_stateAfter_31 (by decide) yX3_at_ok yX3_at_in (sX3_at hK (qch_1_7 hK h0) x4 sg) rfl rfl (Nat.le_of_ble_eq_true rfl) ⟨by decide, by decide⟩ (fun r1 s2 => ?_)
      refine q_iadd (pc := 34) dX1_stateAfter_34 ?_
      refine q_istore_n (pc := 35) dX1_stateAfter_35 (by decide) ?_
      refine q_iinc (pc := 36) 1 dX1_stateAfter_36 rfl (by decide) (by decide) ?_
      refine q_goto (pc := 39) 5 dX1_stateAfter_39 (by decide) ?_
      exact ih x1 x2 (((x3 * 9) + r1)) ((x4 + 1)) s2
    refine q_iload_n (pc := 21) dX1_stateAfter_21 rfl ?_
    refine q_goto (pc := 22) 34 dX1_stateAfter_22 (by decide) ?_
    refine q_iadd (pc := 34) dX1_stateAfter_34 ?_
    refine q_istore_n (pc := 35) dX1_stateAfter_35 (by decide) ?_
    refine q_iinc (pc := 36) 1 dX1_stateAfter_36 rfl (by decide) (by decide) ?_
    refine q_goto (pc := 39) 5 dX1_stateAfter_39 (by decide) ?_
    exact ih x1 x2 (((x3 * 9) + x2)) ((x4 + 1)) sg
def fX1_stateAfter (k0 : Nat) (x1 x2 : Int32) (sg : qSt) : qR :=
  fX1_stateAfter_5 k0 qfu x1 x2 0 0 sg
set_option maxRecDepth 20000 in
set_option maxHeartbeats 4000000 in
theorem sX1_stateAfter {b : Nat} {K : List Nat} (hK : qOk K) {k0 : Nat} (h0 : qIn K k0 1) (x1 x2 : Int32) (sg : qSt) : qS yX1_stateAfter cX1_stateAfter 5 (some .int) 1 21 b K [.ref (b + k0), .int x1, .int x2] sg (fX1_stateAfter k0 x1 x2 sg) := by
  refine qS_of (own := RX1) rfl (by decide) hK.1 (by simp [Value.category]) (Nat.le_of_ble_eq_true rfl) (fun z _ ty h => by cases h; exact vp_nar_int _) ?_
  show qJ RX1 cX1_stateAfter 5 1 21 false (fun _ _ => True) b K 0 [some (.ref (b + k0)), some (.int x1), some (.int x2), none, none] [] sg (fX1_stateAfter k0 x1 x2 sg)
  unfold fX1_stateAfter
  refine q_iconst (pc := 0) 0 dX1_stateAfter_0 (by decide) ?_
  refine q_istore_n (pc := 1) dX1_stateAfter_1 (by decide) ?_
  refine q_iconst (pc := 2) 0 dX1_stateAfter_2 (by decide) ?_
  refine q_istore (pc := 3) dX1_stateAfter_3 (by decide) ?_
  exact tX1_stateAfter_5 hK h0 qfu x1 x2 0 0 sg
-- LineSearch$Outlook.firstTrip(I)I
def fX1_firstTrip_39 (k0 : Nat) (c2 : Int32 → Int32 → qSt → qR) : Nat → Int32 → Int32 → Int32 → qSt → qR
  | 0, _, _, _, _ => none
  | n + 1, x1, x2, x4, sg =>
    if (sg k0 1) < x4 then
      c2 x1 ((x2 + 1)) sg
    else
    qb (fX1_costOf k0 x2 x4 sg) fun r1 s2 =>
    qb (fX1_stateAfter k0 x2 x4 s2) fun r3 s4 =>
    qb (fX3_at (k0 + 3) r3 s4) fun r5 s6 =>
    if r5 < (x1 + r1) then
      fX1_firstTrip_39 k0 c2 n x1 x2 ((x4 + 1)) s6
    else
    some (((10 * x2) + x4), s6)
set_option maxRecDepth 20000 in
set_option maxHeartbeats 4000000 in
theorem tX1_firstTrip_39 {b : Nat} {K : List Nat} (hK : qOk K) {k0 : Nat} {c2 : Int32 → Int32 → qSt → qR} (h0 : qIn K k0 1) (hc2 : ∀ (x1 x2 : Int32) (sg : qSt), qJ RX1 cX1_firstTrip 5 2 45 false (fun _ _ => True) b K 2 [some (.ref (b + k0)), some (.int x1), some (.int x2), none, none] [] sg (c2 x1 x2 sg)) : ∀ (n : Nat) (x1 x2 x4 : Int32) (sg : qSt), qJ RX1 cX1_firstTrip 5 2 45 false (fun _ _ => True) b K 39 [some (.ref (b + k0)), some (.int x1), some (.int x2), none, some (.int x4)] [] sg (fX1_firstTrip_39 k0 c2 n x1 x2 x4 sg) := by
  intro n
  induction n with
  | zero => intro x1 x2 x4 sg; exact qJ_none
  | succ n ih =>
    intro x1 x2 x4 sg
    unfold fX1_firstTrip_39
    refine q_iload (pc := 39) dX1_firstTrip_39 rfl ?_
    refine q_aload_n (pc := 41) dX1_firstTrip_41 rfl ?_
    refine qg_1_1 (pc := 42) dX1_firstTrip_42 h0 lf_X1_15 ?_
    refine q_icmp_gt (pc := 45) 88 dX1_firstTrip_45 (by decide) ?_ ?_
    · refine q_iinc (pc := 88) 1 dX1_firstTrip_88 rfl (by decide) (by decide) ?_
      refine q_goto (pc := 91) 2 dX1_firstTrip_91 (by decide) ?_
      refine qJ_weak [some (.ref (b + k0)), some (.int x1), some (.int ((x2 + 1))), none, none] ⟨rfl, rfl, rfl, trivial⟩ ?_
      exact hc2 x1 ((x2 + 1)) sg
    refine q_iload_n (pc := 48) dX1_firstTrip_48 rfl ?_
    refine q_aload_n (pc := 49) dX1_firstTrip_49 rfl ?_
    refine q_iload_n (pc := 50) dX1_firstTrip_50 rfl ?_
    refine q_iload (pc := 51) dX1_firstTrip_51 rfl ?_
    refine q_callVi (pc := 53) [.int x2, .int x4] dX1_firstTrip_53 lm_X1_106 yX1_costOf_ok yX1_costOf_in h0 (by decide) rfl (sX1_costOf hK h0 x2 x4 sg) rfl rfl (Nat.le_of_ble_eq_true rfl) ⟨by decide, by decide⟩ (fun r1 s2 => ?_)
    refine q_iadd (pc := 56) dX1_firstTrip_56 ?_
    refine q_aload_n (pc := 57) dX1_firstTrip_57 rfl ?_
    refine qg_1_5 (pc := 58) dX1_firstTrip_58 h0 lf_X1_28 ?_
    refine q_aload_n (pc := 61) dX1_firstTrip_61 rfl ?_
    refine q_iload_n (pc := 62) dX1_firstTrip_62 rfl ?_
    refine q_iload (pc := 63) dX1_firstTrip_63 rfl ?_
    refine q_callVi (pc := 65) [.int x2, .int x4] dX1_firstTrip_65 lm_X1_109 yX1_stateAfter_ok yX1_stateAfter_in h0 (by decide) rfl (sX1_stateAfter hK h0 x2 x4 s2) rfl rfl (Nat.le_of_ble_eq_true rfl) ⟨by decide, by decide⟩ (fun r3 s4 => ?_)
    refine q_callSNi (pc := 68) [.ref (b + ((k0 + 3))), .int r3] dX1_firstTrip_68 (by decide) yX3_at_ok yX3_at_in (sX3_at hK (qch_1_5 hK h0) r3 s4) rfl rfl (Nat.le_of_ble_eq_true rfl) ⟨by decide, by decide⟩ (fun r5 s6 => ?_)
    refine q_icmp_gt (pc := 71) 82 dX1_firstTrip_71 (by decide) ?_ ?_
    · refine q_iinc (pc := 82) 1 dX1_firstTrip_82 rfl (by decide) (by decide) ?_
      refine q_goto (pc := 85) 39 dX1_firstTrip_85 (by decide) ?_
      exact ih x1 x2 ((x4 + 1)) s6
    refine q_bipush (pc := 74) 10 dX1_firstTrip_74 (by decide) ?_
    refine q_iload_n (pc := 76) dX1_firstTrip_76 rfl ?_
    refine q_imul (pc := 77) dX1_firstTrip_77 ?_
    refine q_iload (pc := 78) dX1_firstTrip_78 rfl ?_
    refine q_iadd (pc := 80) dX1_firstTrip_80 ?_
    exact q_ireturn (pc := 81) dX1_firstTrip_81
def fX1_firstTrip_2 (k0 : Nat) : Nat → Int32 → Int32 → qSt → qR
  | 0, _, _, _ => none
  | n + 1, x1, x2, sg =>
    if (sg k0 0) ≤ x2 then
      some ((-6), sg)
    else
    qb (fX3_at (k0 + 5) x2 sg) fun r1 s2 =>
    qb (fX3_at (k0 + 1) (r1 + 1) s2) fun r3 s4 =>
    if x1 ≤ r3 then
      fX1_firstTrip_39 k0 (fun z1 z2 sg => fX1_firstTrip_2 k0 n z1 z2 sg) qfu x1 x2 ((r1 + 1)) s4
    else
    fX1_firstTrip_2 k0 n x1 ((x2 + 1)) s4
set_option maxRecDepth 20000 in
set_option maxHeartbeats 4000000 in
theorem tX1_firstTrip_2 {b : Nat} {K : List Nat} (hK : qOk K) {k0 : Nat} (h0 : qIn K k0 1) : ∀ (n : Nat) (x1 x2 : Int32) (sg : qSt), qJ RX1 cX1_firstTrip 5 2 45 false (fun _ _ => True) b K 2 [some (.ref (b + k0)), some (.int x1), some (.int x2), none, none] [] sg (fX1_firstTrip_2 k0 n x1 x2 sg) := by
  intro n
  induction n with
  | zero => intro x1 x2 sg; exact qJ_none
  | succ n ih =>
    intro x1 x2 sg
    unfold fX1_firstTrip_2
    refine q_iload_n (pc := 2) dX1_firstTrip_2 rfl ?_
    refine q_aload_n (pc := 3) dX1_firstTrip_3 rfl ?_
    refine qg_1_0 (pc := 4) dX1_firstTrip_4 h0 lf_X1_9 ?_
    refine q_icmp_ge (pc := 7) 94 dX1_firstTrip_7 (by decide) ?_ ?_
    · refine q_bipush (pc := 94) (-6) dX1_firstTrip_94 (by decide) ?_
      exact q_ireturn (pc := 96) dX1_firstTrip_96
    refine q_aload_n (pc := 10) dX1_firstTrip_10 rfl ?_
    refine qg_1_7 (pc := 11) dX1_firstTrip_11 h0 lf_X1_34 ?_
    refine q_iload_n (pc := 14) dX1_firstTrip_14 rfl ?_
    refine q_callSNi (pc := 15) [.ref (b + ((k0 + 5))), .int x2] dX1_firstTrip_15 (by decide) yX3_at_ok yX3_at_in (sX3_at hK (qch_1_7 hK h0) x2 sg) rfl rfl (Nat.le_of_ble_eq_true rfl) ⟨by decide, by decide⟩ (fun r1 s2 => ?_)
    refine q_iconst (pc := 18) 1 dX1_firstTrip_18 (by decide) ?_
    refine q_iadd (pc := 19) dX1_firstTrip_19 ?_
    refine q_istore_n (pc := 20) dX1_firstTrip_20 (by decide) ?_
    refine q_iload_n (pc := 21) dX1_firstTrip_21 rfl ?_
    refine q_aload_n (pc := 22) dX1_firstTrip_22 rfl ?_
    refine qg_1_2 (pc := 23) dX1_firstTrip_23 h0 lf_X1_18 ?_
    refine q_iload_n (pc := 26) dX1_firstTrip_26 rfl ?_
    refine q_callSNi (pc := 27) [.ref (b + ((k0 + 1))), .int ((r1 + 1))] dX1_firstTrip_27 (by decide) yX3_at_ok yX3_at_in (sX3_at hK (qch_1_2 hK h0) (r1 + 1) s2) rfl rfl (Nat.le_of_ble_eq_true rfl) ⟨by decide, by decide⟩ (fun r3 s4 => ?_)
    refine q_icmp_le (pc := 30) 36 dX1_firstTrip_30 (by decide) ?_ ?_
    · refine q_iload_n (pc := 36) dX1_firstTrip_36 rfl ?_
      refine q_istore (pc := 37) dX1_firstTrip_37 (by decide) ?_
      refine qJ_weak [some (.ref (b + k0)), some (.int x1), some (.int x2), none, some (.int ((r1 + 1)))] ⟨rfl, rfl, rfl, rfl, trivial⟩ ?_
      exact tX1_firstTrip_39 hK h0 (fun z1 z2 sg => ih z1 z2 sg) qfu x1 x2 ((r1 + 1)) s4
    refine q_goto (pc := 33) 88 dX1_firstTrip_33 (by decide) ?_
    refine q_iinc (pc := 88) 1 dX1_firstTrip_88 rfl (by decide) (by decide) ?_
    refine q_goto (pc := 91) 2 dX1_firstTrip_91 (by decide) ?_
    refine qJ_weak [some (.ref (b + k0)), some (.int x1), some (.int ((x2 + 1))), none, none] ⟨rfl, rfl, rfl, trivial⟩ ?_
    exact ih x1 ((x2 + 1)) s4
def fX1_firstTrip (k0 : Nat) (x1 : Int32) (sg : qSt) : qR :=
  fX1_firstTrip_2 k0 qfu x1 0 sg
set_option maxRecDepth 20000 in
set_option maxHeartbeats 4000000 in
theorem sX1_firstTrip {b : Nat} {K : List Nat} (hK : qOk K) {k0 : Nat} (h0 : qIn K k0 1) (x1 : Int32) (sg : qSt) : qS yX1_firstTrip cX1_firstTrip 5 (some .int) 2 45 b K [.ref (b + k0), .int x1] sg (fX1_firstTrip k0 x1 sg) := by
  refine qS_of (own := RX1) rfl (by decide) hK.1 (by simp [Value.category]) (Nat.le_of_ble_eq_true rfl) (fun z _ ty h => by cases h; exact vp_nar_int _) ?_
  show qJ RX1 cX1_firstTrip 5 2 45 false (fun _ _ => True) b K 0 [some (.ref (b + k0)), some (.int x1), none, none, none] [] sg (fX1_firstTrip k0 x1 sg)
  unfold fX1_firstTrip
  refine q_iconst (pc := 0) 0 dX1_firstTrip_0 (by decide) ?_
  refine q_istore_n (pc := 1) dX1_firstTrip_1 (by decide) ?_
  exact tX1_firstTrip_2 hK h0 qfu x1 0 sg
-- LineSearch$Outlook.write(ILLineSearch$Plan;)V
def fX1_write_17 (k0 k2 : Nat) : Nat → Int32 → Int32 → qSt → qR
  | 0, _, _, _ => none
  | n + 1, x3, x4, sg =>
    if 30 ≤ x4 then
      some (0, sg)
    else
    qb (fX1_firstTrip k0 x3 sg) fun r1 s2 =>
    if r1 = (-6) then
      some (0, s2)
    else
    qb (fX2_add k2 (r1 / 10) (r1 - r1 / 10 * 10) s2) fun r3 s4 =>
    qb (fX1_costOf k0 (r1 / 10) (r1 - r1 / 10 * 10) s4) fun r5 s6 =>
    qb (fX3_put (k0 + 5) (r1 / 10) (r1 - r1 / 10 * 10) s6) fun r7 s8 =>
    fX1_write_17 k0 k2 n ((x3 + r5)) ((x4 + 1)) s8
set_option maxRecDepth 20000 in
set_option maxHeartbeats 4000000 in
theorem tX1_write_17 {b : Nat} {K : List Nat} (hK : qOk K) {k0 k2 : Nat} (h0 : qIn K k0 1) (h2 : qIn K k2 2) : ∀ (n : Nat) (x3 x4 : Int32) (sg : qSt), qJ RX1 cX1_write 8 3 69 true (fun _ _ => True) b K 17 [some (.ref (b + k0)), none, some (.ref (b + k2)), some (.int x3), some (.int x4), none, none, none] [] sg (fX1_write_17 k0 k2 n x3 x4 sg) := by
  intro n
  induction n with
  | zero => intro x3 x4 sg; exact qJ_none
  | succ n ih =>
    intro x3 x4 sg
    unfold fX1_write_17
    refine q_iload (pc := 17) dX1_write_17 rfl ?_
    refine q_bipush (pc := 19) 30 dX1_write_19 (by decide) ?_
    refine q_icmp_ge (pc := 21) 90 dX1_write_21 (by decide) ?_ ?_
    · exact q_return (pc := 90) dX1_write_90
    refine q_aload_n (pc := 24) dX1_write_24 rfl ?_
    refine q_iload_n (pc := 25) dX1_write_25 rfl ?_
    refine q_callVi (pc := 26) [.int x3] dX1_write_26 lm_X1_99 yX1_firstTrip_ok yX1_firstTrip_in h0 (by decide) rfl (sX1_firstTrip hK h0 x3 sg) rfl rfl (Nat.le_of_ble_eq_true rfl) ⟨by decide, by decide⟩ (fun r1 s2 => ?_)
    refine q_istore (pc := 29) dX1_write_29 (by decide) ?_
    refine q_iload (pc := 31) dX1_write_31 rfl ?_
    refine q_bipush (pc := 33) (-6) dX1_write_33 (by decide) ?_
    refine q_icmp_ne (pc := 35) 39 dX1_write_35 (by decide) ?_ ?_
    · refine q_iload (pc := 39) dX1_write_39 rfl ?_
      refine q_bipush (pc := 41) 10 dX1_write_41 (by decide) ?_
      refine q_idivc (pc := 43) dX1_write_43 (by decide) ?_
      refine q_istore (pc := 44) dX1_write_44 (by decide) ?_
      refine q_iload (pc := 46) dX1_write_46 rfl ?_
      refine q_bipush (pc := 48) 10 dX1_write_48 (by decide) ?_
      refine q_iremc (pc := 50) dX1_write_50 (by decide) ?_
      refine q_istore (pc := 51) dX1_write_51 (by decide) ?_
      refine q_aload_n (pc := 53) dX1_write_53 rfl ?_
      refine q_iload (pc := 54) dX1_write_54 rfl ?_
      refine q_iload (pc := 56) dX1_write_56 rfl ?_
      refine q_callVi (pc := 58) [.int ((r1 / 10)), .int ((r1 - r1 / 10 * 10))] dX1_write_58 lm_X1_102 yX2_add_ok yX2_add_in h2 (by decide) rfl (sX2_add hK h2 (r1 / 10) (r1 - r1 / 10 * 10) s2) rfl rfl (Nat.le_of_ble_eq_true rfl) ⟨by decide, by decide⟩ (fun r3 s4 => ?_)
      refine q_pop (pc := 61) dX1_write_61 rfl ?_
      refine q_iload_n (pc := 62) dX1_write_62 rfl ?_
      refine q_aload_n (pc := 63) dX1_write_63 rfl ?_
      refine q_iload (pc := 64) dX1_write_64 rfl ?_
      refine q_iload (pc := 66) dX1_write_66 rfl ?_
      refine q_callVi (pc := 68) [.int ((r1 / 10)), .int ((r1 - r1 / 10 * 10))] dX1_write_68 lm_X1_106 yX1_costOf_ok yX1_costOf_in h0 (by decide) rfl (sX1_costOf hK h0 (r1 / 10) (r1 - r1 / 10 * 10) s4) rfl rfl (Nat.le_of_ble_eq_true rfl) ⟨by decide, by decide⟩ (fun r5 s6 => ?_)
      refine q_iadd (pc := 71) dX1_write_71 ?_
      refine q_istore_n (pc := 72) dX1_write_72 (by decide) ?_
      refine q_aload_n (pc := 73) dX1_write_73 rfl ?_
      refine qg_1_7 (pc := 74) dX1_write_74 h0 lf_X1_34 ?_
      refine q_iload (pc := 77) dX1_write_77 rfl ?_
      refine q_iload (pc := 79) dX1_write_79 rfl ?_
      refine q_callSNv (pc := 81) [.ref (b + ((k0 + 5))), .int ((r1 / 10)), .int ((r1 - r1 / 10 * 10))] dX1_write_81 (by decide) yX3_put_ok yX3_put_in (sX3_put hK (qch_1_7 hK h0) (r1 / 10) (r1 - r1 / 10 * 10) s6) rfl rfl (Nat.le_of_ble_eq_true rfl) ⟨by decide, by decide⟩ (fun r7 s8 => ?_)
      refine q_iinc (pc := 84) 1 dX1_write_84 rfl (by decide) (by decide) ?_
      refine q_goto (pc := 87) 17 dX1_write_87 (by decide) ?_
      refine qJ_weak [some (.ref (b + k0)), none, some (.ref (b + k2)), some (.int ((x3 + r5))), some (.int ((x4 + 1))), none, none, none] ⟨rfl, rfl, rfl, rfl, trivial⟩ ?_
      exact ih ((x3 + r5)) ((x4 + 1)) s8
    exact q_return (pc := 38) dX1_write_38
def fX1_write (k0 k2 : Nat) (x1 : Int32) (sg : qSt) : qR :=
  qb (fX2_empty k2 sg) fun r1 s2 =>
  qb (fX3_putAll (k0 + 5) 0 s2) fun r3 s4 =>
  fX1_write_17 k0 k2 qfu x1 0 s4
set_option maxRecDepth 20000 in
set_option maxHeartbeats 4000000 in
theorem sX1_write {b : Nat} {K : List Nat} (hK : qOk K) {k0 k2 : Nat} (h0 : qIn K k0 1) (h2 : qIn K k2 2) (x1 : Int32) (sg : qSt) : qS yX1_write cX1_write 8 none 3 69 b K [.ref (b + k0), .int x1, .ref (b + k2)] sg (fX1_write k0 k2 x1 sg) := by
  refine qS_of (own := RX1) rfl (by decide) hK.1 (by simp [Value.category]) (Nat.le_of_ble_eq_true rfl) (fun z _ ty h => by cases h) ?_
  show qJ RX1 cX1_write 8 3 69 true (fun _ _ => True) b K 0 [some (.ref (b + k0)), some (.int x1), some (.ref (b + k2)), none, none, none, none, none] [] sg (fX1_write k0 k2 x1 sg)
  unfold fX1_write
  refine q_aload_n (pc := 0) dX1_write_0 rfl ?_
  refine q_callVv (pc := 1) [] dX1_write_1 lm_X1_94 yX2_empty_ok yX2_empty_in h2 (by decide) rfl (sX2_empty hK h2 sg) rfl rfl (Nat.le_of_ble_eq_true rfl) ⟨by decide, by decide⟩ (fun r1 s2 => ?_)
  refine q_aload_n (pc := 4) dX1_write_4 rfl ?_
  refine qg_1_7 (pc := 5) dX1_write_5 h0 lf_X1_34 ?_
  refine q_iconst (pc := 8) 0 dX1_write_8 (by decide) ?_
  refine q_callSNv (pc := 9) [.ref (b + ((k0 + 5))), .int 0] dX1_write_9 (by decide) yX3_putAll_ok yX3_putAll_in (sX3_putAll hK (qch_1_7 hK h0) 0 s2) rfl rfl (Nat.le_of_ble_eq_true rfl) ⟨by decide, by decide⟩ (fun r3 s4 => ?_)
  refine q_iload_n (pc := 12) dX1_write_12 rfl ?_
  refine q_istore_n (pc := 13) dX1_write_13 (by decide) ?_
  refine q_iconst (pc := 14) 0 dX1_write_14 (by decide) ?_
  refine q_istore (pc := 15) dX1_write_15 (by decide) ?_
  refine qJ_weak [some (.ref (b + k0)), none, some (.ref (b + k2)), some (.int x1), some (.int 0), none, none, none] ⟨rfl, rfl, rfl, rfl, trivial⟩ ?_
  exact tX1_write_17 hK h0 h2 qfu x1 0 s4
-- LineSearch$Outlook.planMean(LLineSearch$Ground;LLineSearch$Plan;)I
def fX1_planMean_35 (k0 k1 k2 : Nat) (c23 : Int32 → qSt → qR) : Nat → Int32 → Int32 → Int32 → qSt → qR
  | 0, _, _, _, _ => none
  | n + 1, x3, x4, x5, sg =>
    if x5 < 0 then
      c23 ((x3 + 1)) sg
    else
    qb (fX3_put (k0 + 2) ((x3 * 9) + x5) x4 sg) fun r1 s2 =>
    qb (fX0_shareAt k1 x3 x5 s2) fun r3 s4 =>
    fX1_planMean_35 k0 k1 k2 c23 n x3 ((x4 + r3)) ((x5 + (-1))) s4
set_option maxRecDepth 20000 in
set_option maxHeartbeats 4000000 in
theorem tX1_planMean_35 {b : Nat} {K : List Nat} (hK : qOk K) {k0 k1 k2 : Nat} {c23 : Int32 → qSt → qR} (h0 : qIn K k0 1) (h1 : qIn K k1 0) (h2 : qIn K k2 2) (hc23 : ∀ (x3 : Int32) (sg : qSt), qJ RX1 cX1_planMean 6 4 98 false (fun _ _ => True) b K 23 [some (.ref (b + k0)), some (.ref (b + k1)), some (.ref (b + k2)), some (.int x3), none, none] [] sg (c23 x3 sg)) : ∀ (n : Nat) (x3 x4 x5 : Int32) (sg : qSt), qJ RX1 cX1_planMean 6 4 98 false (fun _ _ => True) b K 35 [some (.ref (b + k0)), some (.ref (b + k1)), some (.ref (b + k2)), some (.int x3), some (.int x4), some (.int x5)] [] sg (fX1_planMean_35 k0 k1 k2 c23 n x3 x4 x5 sg) := by
  intro n
  induction n with
  | zero => intro x3 x4 x5 sg; exact qJ_none
  | succ n ih =>
    intro x3 x4 x5 sg
    unfold fX1_planMean_35
    refine q_iload (pc := 35) dX1_planMean_35 rfl ?_
    refine q_if_lt (pc := 37) 74 dX1_planMean_37 (by decide) ?_ ?_
    · refine q_iinc (pc := 74) 1 dX1_planMean_74 rfl (by decide) (by decide) ?_
      refine q_goto (pc := 77) 23 dX1_planMean_77 (by decide) ?_
      refine qJ_weak [some (.ref (b + k0)), some (.ref (b + k1)), some (.ref (b + k2)), some (.int ((x3 + 1))), none, none] ⟨rfl, rfl, rfl, rfl, trivial⟩ ?_
      exact hc23 ((x3 + 1)) sg
    refine q_aload_n (pc := 40) dX1_planMean_40 rfl ?_
    refine qg_1_3 (pc := 41) dX1_planMean_41 h0 lf_X1_22 ?_
    refine q_iload_n (pc := 44) dX1_planMean_44 rfl ?_
    refine q_bipush (pc := 45) 9 dX1_planMean_45 (by decide) ?_
    refine q_imul (pc := 47) dX1_planMean_47 ?_
    refine q_iload (pc := 48) dX1_planMean_48 rfl ?_
    refine q_iadd (pc := 50) dX1_planMean_50 ?_
    refine q_iload (pc := 51) dX1_planMean_51 rfl ?_
    refine q_callSNv (pc := 53) [.ref (b + ((k0 + 2))), .int (((x3 * 9) + x5)), .int x4] dX1_planMean_53 (by decide) yX3_put_ok yX3_put_in (sX3_put hK (qch_1_3 hK h0) ((x3 * 9) + x5) x4 sg) rfl rfl (Nat.le_of_ble_eq_true rfl) ⟨by decide, by decide⟩ (fun r1 s2 => ?_)
    refine q_iload (pc := 56) dX1_planMean_56 rfl ?_
    refine q_aload_n (pc := 58) dX1_planMean_58 rfl ?_
    refine q_iload_n (pc := 59) dX1_planMean_59 rfl ?_
    refine q_iload (pc := 60) dX1_planMean_60 rfl ?_
    refine q_callVi (pc := 62) [.int x3, .int x5] dX1_planMean_62 lm_X1_45 yX0_shareAt_ok yX0_shareAt_in h1 (by decide) rfl (sX0_shareAt hK h1 x3 x5 s2) rfl rfl (Nat.le_of_ble_eq_true rfl) ⟨by decide, by decide⟩ (fun r3 s4 => ?_)
    refine q_iadd (pc := 65) dX1_planMean_65 ?_
    refine q_istore (pc := 66) dX1_planMean_66 (by decide) ?_
    refine q_iinc (pc := 68) (-1) dX1_planMean_68 rfl (by decide) (by decide) ?_
    refine q_goto (pc := 71) 35 dX1_planMean_71 (by decide) ?_
    exact ih x3 ((x4 + r3)) ((x5 + (-1))) s4
def fX1_planMean_23 (k0 k1 k2 : Nat) : Nat → Int32 → qSt → qR
  | 0, _, _ => none
  | n + 1, x3, sg =>
    if 3 ≤ x3 then
      qb (fX3_putAll (k0 + 1) 10000000 sg) fun r1 s2 =>
      qb (fX1_sweep k0 s2) fun r3 s4 =>
      qb (fX3_at (k0 + 3) 0 s4) fun r5 s6 =>
      qb (fX1_write k0 k2 r5 s6) fun r7 s8 =>
      some ((10000000 - r5), s8)
    else
    fX1_planMean_35 k0 k1 k2 (fun z3 sg => fX1_planMean_23 k0 k1 k2 n z3 sg) qfu x3 0 8 sg
set_option maxRecDepth 20000 in
set_option maxHeartbeats 4000000 in
theorem tX1_planMean_23 {b : Nat} {K : List Nat} (hK : qOk K) {k0 k1 k2 : Nat} (h0 : qIn K k0 1) (h1 : qIn K k1 0) (h2 : qIn K k2 2) : ∀ (n : Nat) (x3 : Int32) (sg : qSt), qJ RX1 cX1_planMean 6 4 98 false (fun _ _ => True) b K 23 [some (.ref (b + k0)), some (.ref (b + k1)), some (.ref (b + k2)), some (.int x3), none, none] [] sg (fX1_planMean_23 k0 k1 k2 n x3 sg) := by
  intro n
  induction n with
  | zero => intro x3 sg; exact qJ_none
  | succ n ih =>
    intro x3 sg
    unfold fX1_planMean_23
    refine q_iload_n (pc := 23) dX1_planMean_23 rfl ?_
    refine q_iconst (pc := 24) 3 dX1_planMean_24 (by decide) ?_
    refine q_icmp_ge (pc := 25) 80 dX1_planMean_25 (by decide) ?_ ?_
    · refine q_aload_n (pc := 80) dX1_planMean_80 rfl ?_
      refine qg_1_2 (pc := 81) dX1_planMean_81 h0 lf_X1_18 ?_
      refine q_ldc (pc := 84) 10000000 dX1_planMean_84 lc_X1_49 ?_
      refine q_callSNv (pc := 86) [.ref (b + ((k0 + 1))), .int 10000000] dX1_planMean_86 (by decide) yX3_putAll_ok yX3_putAll_in (sX3_putAll hK (qch_1_2 hK h0) 10000000 sg) rfl rfl (Nat.le_of_ble_eq_true rfl) ⟨by decide, by decide⟩ (fun r1 s2 => ?_)
      refine q_aload_n (pc := 89) dX1_planMean_89 rfl ?_
      refine q_callVv (pc := 90) [] dX1_planMean_90 lm_X1_54 yX1_sweep_ok yX1_sweep_in h0 (by decide) rfl (sX1_sweep hK h0 s2) rfl rfl (Nat.le_of_ble_eq_true rfl) ⟨by decide, by decide⟩ (fun r3 s4 => ?_)
      refine q_aload_n (pc := 93) dX1_planMean_93 rfl ?_
      refine qg_1_5 (pc := 94) dX1_planMean_94 h0 lf_X1_28 ?_
      refine q_iconst (pc := 97) 0 dX1_planMean_97 (by decide) ?_
      refine q_callSNi (pc := 98) [.ref (b + ((k0 + 3))), .int 0] dX1_planMean_98 (by decide) yX3_at_ok yX3_at_in (sX3_at hK (qch_1_5 hK h0) 0 s4) rfl rfl (Nat.le_of_ble_eq_true rfl) ⟨by decide, by decide⟩ (fun r5 s6 => ?_)
      refine q_istore_n (pc := 101) dX1_planMean_101 (by decide) ?_
      refine q_aload_n (pc := 102) dX1_planMean_102 rfl ?_
      refine q_iload_n (pc := 103) dX1_planMean_103 rfl ?_
      refine q_aload_n (pc := 104) dX1_planMean_104 rfl ?_
      refine q_callVv (pc := 105) [.int r5, .ref (b + k2)] dX1_planMean_105 lm_X1_61 yX1_write_ok yX1_write_in h0 (by decide) rfl (sX1_write hK h0 h2 r5 s6) rfl rfl (Nat.le_of_ble_eq_true rfl) ⟨by decide, by decide⟩ (fun r7 s8 => ?_)
      refine q_ldc (pc := 108) 10000000 dX1_planMean_108 lc_X1_49 ?_
      refine q_iload_n (pc := 110) dX1_planMean_110 rfl ?_
      refine q_isub (pc := 111) dX1_planMean_111 ?_
      exact q_ireturn (pc := 112) dX1_planMean_112
    refine q_iconst (pc := 28) 0 dX1_planMean_28 (by decide) ?_
    refine q_istore (pc := 29) dX1_planMean_29 (by decide) ?_
    refine q_bipush (pc := 31) 8 dX1_planMean_31 (by decide) ?_
    refine q_istore (pc := 33) dX1_planMean_33 (by decide) ?_
    exact tX1_planMean_35 hK h0 h1 h2 (fun z3 sg => ih z3 sg) qfu x3 0 8 sg
def fX1_planMean (k0 k1 k2 : Nat) (sg : qSt) : qR :=
  fX1_planMean_23 k0 k1 k2 qfu 0 (qset (qset (qset sg k0 0 (sg k1 0)) k0 1 ((qset sg k0 0 (sg k1 0)) k1 1)) k0 4 0)
set_option maxRecDepth 20000 in
set_option maxHeartbeats 4000000 in
theorem sX1_planMean {b : Nat} {K : List Nat} (hK : qOk K) {k0 k1 k2 : Nat} (h0 : qIn K k0 1) (h1 : qIn K k1 0) (h2 : qIn K k2 2) (sg : qSt) : qS yX1_planMean cX1_planMean 6 (some .int) 4 98 b K [.ref (b + k0), .ref (b + k1), .ref (b + k2)] sg (fX1_planMean k0 k1 k2 sg) := by
  refine qS_of (own := RX1) rfl (by decide) hK.1 (by simp [Value.category]) (Nat.le_of_ble_eq_true rfl) (fun z _ ty h => by cases h; exact vp_nar_int _) ?_
  show qJ RX1 cX1_planMean 6 4 98 false (fun _ _ => True) b K 0 [some (.ref (b + k0)), some (.ref (b + k1)), some (.ref (b + k2)), none, none, none] [] sg (fX1_planMean k0 k1 k2 sg)
  unfold fX1_planMean
  refine q_aload_n (pc := 0) dX1_planMean_0 rfl ?_
  refine q_aload_n (pc := 1) dX1_planMean_1 rfl ?_
  refine qg_0_0 (pc := 2) dX1_planMean_2 h1 lf_X1_37 ?_
  refine qp_1_0 (pc := 5) dX1_planMean_5 h0 lf_X1_9 ?_
  refine q_aload_n (pc := 8) dX1_planMean_8 rfl ?_
  refine q_aload_n (pc := 9) dX1_planMean_9 rfl ?_
  refine qg_0_1 (pc := 10) dX1_planMean_10 h1 lf_X1_40 ?_
  refine qp_1_1 (pc := 13) dX1_planMean_13 h0 lf_X1_15 ?_
  refine q_aload_n (pc := 16) dX1_planMean_16 rfl ?_
  refine q_iconst (pc := 17) 0 dX1_planMean_17 (by decide) ?_
  refine qp_1_4 (pc := 18) dX1_planMean_18 h0 lf_X1_25 ?_
  refine q_iconst (pc := 21) 0 dX1_planMean_21 (by decide) ?_
  refine q_istore_n (pc := 22) dX1_planMean_22 (by decide) ?_
  exact tX1_planMean_23 hK h0 h1 h2 qfu 0 (qset (qset (qset sg k0 0 (sg k1 0)) k0 1 ((qset sg k0 0 (sg k1 0)) k1 1)) k0 4 0)
-- LineSearch$Outlook.capBy(I)V
def fX1_capBy_2 (k0 : Nat) : Nat → Int32 → Int32 → qSt → qR
  | 0, _, _, _ => none
  | n + 1, x1, x2, sg =>
    if 9 ≤ x2 then
      some (0, sg)
    else
    qb (fX3_put (k0 + 1) x2 ((x1 * x2) / 840) sg) fun r1 s2 =>
    fX1_capBy_2 k0 n x1 ((x2 + 1)) s2
set_option maxRecDepth 20000 in
set_option maxHeartbeats 4000000 in
theorem tX1_capBy_2 {b : Nat} {K : List Nat} (hK : qOk K) {k0 : Nat} (h0 : qIn K k0 1) : ∀ (n : Nat) (x1 x2 : Int32) (sg : qSt), qJ RX1 cX1_capBy 3 1 22 true (fun _ _ => True) b K 2 [some (.ref (b + k0)), some (.int x1), some (.int x2)] [] sg (fX1_capBy_2 k0 n x1 x2 sg) := by
  intro n
  induction n with
  | zero => intro x1 x2 sg; exact qJ_none
  | succ n ih =>
    intro x1 x2 sg
    unfold fX1_capBy_2
    refine q_iload_n (pc := 2) dX1_capBy_2 rfl ?_
    refine q_bipush (pc := 3) 9 dX1_capBy_3 (by decide) ?_
    refine q_icmp_ge (pc := 5) 29 dX1_capBy_5 (by decide) ?_ ?_
    · exact q_return (pc := 29) dX1_capBy_29
    refine q_aload_n (pc := 8) dX1_capBy_8 rfl ?_
    refine qg_1_2 (pc := 9) dX1_capBy_9 h0 lf_X1_18 ?_
    refine q_iload_n (pc := 12) dX1_capBy_12 rfl ?_
    refine q_iload_n (pc := 13) dX1_capBy_13 rfl ?_
    refine q_iload_n (pc := 14) dX1_capBy_14 rfl ?_
    refine q_imul (pc := 15) dX1_capBy_15 ?_
    refine q_sipush (pc := 16) 840 dX1_capBy_16 (by decide) ?_
    refine q_idivc (pc := 19) dX1_capBy_19 (by decide) ?_
    refine q_callSNv (pc := 20) [.ref (b + ((k0 + 1))), .int x2, .int (((x1 * x2) / 840))] dX1_capBy_20 (by decide) yX3_put_ok yX3_put_in (sX3_put hK (qch_1_2 hK h0) x2 ((x1 * x2) / 840) sg) rfl rfl (Nat.le_of_ble_eq_true rfl) ⟨by decide, by decide⟩ (fun r1 s2 => ?_)
    refine q_iinc (pc := 23) 1 dX1_capBy_23 rfl (by decide) (by decide) ?_
    refine q_goto (pc := 26) 2 dX1_capBy_26 (by decide) ?_
    exact ih x1 ((x2 + 1)) s2
def fX1_capBy (k0 : Nat) (x1 : Int32) (sg : qSt) : qR :=
  fX1_capBy_2 k0 qfu x1 0 sg
set_option maxRecDepth 20000 in
set_option maxHeartbeats 4000000 in
theorem sX1_capBy {b : Nat} {K : List Nat} (hK : qOk K) {k0 : Nat} (h0 : qIn K k0 1) (x1 : Int32) (sg : qSt) : qS yX1_capBy cX1_capBy 3 none 1 22 b K [.ref (b + k0), .int x1] sg (fX1_capBy k0 x1 sg) := by
  refine qS_of (own := RX1) rfl (by decide) hK.1 (by simp [Value.category]) (Nat.le_of_ble_eq_true rfl) (fun z _ ty h => by cases h) ?_
  show qJ RX1 cX1_capBy 3 1 22 true (fun _ _ => True) b K 0 [some (.ref (b + k0)), some (.int x1), none] [] sg (fX1_capBy k0 x1 sg)
  unfold fX1_capBy
  refine q_iconst (pc := 0) 0 dX1_capBy_0 (by decide) ?_
  refine q_istore_n (pc := 1) dX1_capBy_1 (by decide) ?_
  exact tX1_capBy_2 hK h0 qfu x1 0 sg
-- LineSearch$Outlook.planWorst(LLineSearch$Ground;LLineSearch$Plan;)I
def fX1_planWorst_111 (k0 k2 : Nat) (x4 : Int32) (sg : qSt) : qR :=
    qb (fX1_capBy k0 x4 sg) fun r1 s2 =>
    qb (fX1_sweep k0 s2) fun r3 s4 =>
    qb (fX1_write k0 k2 0 s4) fun r5 s6 =>
    some (x4, s6)
set_option maxRecDepth 20000 in
set_option maxHeartbeats 4000000 in
theorem tX1_planWorst_111 {b : Nat} {K : List Nat} (hK : qOk K) {k0 k2 : Nat} (h0 : qIn K k0 1) (h2 : qIn K k2 2) : ∀ (x4 : Int32) (sg : qSt), qJ RX1 cX1_planWorst 7 4 98 false (fun _ _ => True) b K 111 [some (.ref (b + k0)), none, some (.ref (b + k2)), none, some (.int x4), none, none] [] sg (fX1_planWorst_111 k0 k2 x4 sg) := by
  intro x4 sg
  unfold fX1_planWorst_111
  refine q_aload_n (pc := 111) dX1_planWorst_111 rfl ?_
  refine q_iload (pc := 112) dX1_planWorst_112 rfl ?_
  refine q_callVv (pc := 114) [.int x4] dX1_planWorst_114 lm_X1_65 yX1_capBy_ok yX1_capBy_in h0 (by decide) rfl (sX1_capBy hK h0 x4 sg) rfl rfl (Nat.le_of_ble_eq_true rfl) ⟨by decide, by decide⟩ (fun r1 s2 => ?_)
  refine q_aload_n (pc := 117) dX1_planWorst_117 rfl ?_
  refine q_callVv (pc := 118) [] dX1_planWorst_118 lm_X1_54 yX1_sweep_ok yX1_sweep_in h0 (by decide) rfl (sX1_sweep hK h0 s2) rfl rfl (Nat.le_of_ble_eq_true rfl) ⟨by decide, by decide⟩ (fun r3 s4 => ?_)
  refine q_aload_n (pc := 121) dX1_planWorst_121 rfl ?_
  refine q_iconst (pc := 122) 0 dX1_planWorst_122 (by decide) ?_
  refine q_aload_n (pc := 123) dX1_planWorst_123 rfl ?_
  refine q_callVv (pc := 124) [.int 0, .ref (b + k2)] dX1_planWorst_124 lm_X1_61 yX1_write_ok yX1_write_in h0 (by decide) rfl (sX1_write hK h0 h2 0 s4) rfl rfl (Nat.le_of_ble_eq_true rfl) ⟨by decide, by decide⟩ (fun r5 s6 => ?_)
  refine q_iload (pc := 127) dX1_planWorst_127 rfl ?_
  exact q_ireturn (pc := 129) dX1_planWorst_129
def fX1_planWorst_51 (k0 k2 : Nat) : Nat → Int32 → Int32 → Int32 → qSt → qR
  | 0, _, _, _, _ => none
  | n + 1, x3, x4, x5, sg =>
    if 14 ≤ x5 then
      fX1_planWorst_111 k0 k2 x4 sg
    else
    if (x4 - x3) ≤ 1 then
      fX1_planWorst_111 k0 k2 x4 sg
    else
    qb (fX1_capBy k0 ((x3 + x4) / 2) sg) fun r1 s2 =>
    qb (fX1_sweep k0 s2) fun r3 s4 =>
    qb (fX3_at (k0 + 3) 0 s4) fun r5 s6 =>
    if r5 < 0 then
      fX1_planWorst_51 k0 k2 n (((x3 + x4) / 2)) x4 ((x5 + 1)) s6
    else
    fX1_planWorst_51 k0 k2 n x3 (((x3 + x4) / 2)) ((x5 + 1)) s6
set_option maxRecDepth 20000 in
set_option maxHeartbeats 4000000 in
theorem tX1_planWorst_51 {b : Nat} {K : List Nat} (hK : qOk K) {k0 k2 : Nat} (h0 : qIn K k0 1) (h2 : qIn K k2 2) : ∀ (n : Nat) (x3 x4 x5 : Int32) (sg : qSt), qJ RX1 cX1_planWorst 7 4 98 false (fun _ _ => True) b K 51 [some (.ref (b + k0)), none, some (.ref (b + k2)), some (.int x3), some (.int x4), some (.int x5), none] [] sg (fX1_planWorst_51 k0 k2 n x3 x4 x5 sg) := by
  intro n
  induction n with
  | zero => intro x3 x4 x5 sg; exact qJ_none
  | succ n ih =>
    intro x3 x4 x5 sg
    unfold fX1_planWorst_51
    refine q_iload (pc := 51) dX1_planWorst_51 rfl ?_
    refine q_bipush (pc := 53) 14 dX1_planWorst_53 (by decide) ?_
    refine q_icmp_ge (pc := 55) 111 dX1_planWorst_55 (by decide) ?_ ?_
    · refine qJ_weak [some (.ref (b + k0)), none, some (.ref (b + k2)), none, some (.int x4), none, none] ⟨rfl, rfl, rfl, trivial⟩ ?_
      exact tX1_planWorst_111 hK h0 h2 x4 sg
    refine q_iload (pc := 58) dX1_planWorst_58 rfl ?_
    refine q_iload_n (pc := 60) dX1_planWorst_60 rfl ?_
    refine q_isub (pc := 61) dX1_planWorst_61 ?_
    refine q_iconst (pc := 62) 1 dX1_planWorst_62 (by decide) ?_
    refine q_icmp_le (pc := 63) 111 dX1_planWorst_63 (by decide) ?_ ?_
    · refine qJ_weak [some (.ref (b + k0)), none, some (.ref (b + k2)), none, some (.int x4), none, none] ⟨rfl, rfl, rfl, trivial⟩ ?_
      exact tX1_planWorst_111 hK h0 h2 x4 sg
    refine q_iload_n (pc := 66) dX1_planWorst_66 rfl ?_
    refine q_iload (pc := 67) dX1_planWorst_67 rfl ?_
    refine q_iadd (pc := 69) dX1_planWorst_69 ?_
    refine q_iconst (pc := 70) 2 dX1_planWorst_70 (by decide) ?_
    refine q_idivc (pc := 71) dX1_planWorst_71 (by decide) ?_
    refine q_istore (pc := 72) dX1_planWorst_72 (by decide) ?_
    refine q_aload_n (pc := 74) dX1_planWorst_74 rfl ?_
    refine q_iload (pc := 75) dX1_planWorst_75 rfl ?_
    refine q_callVv (pc := 77) [.int (((x3 + x4) / 2))] dX1_planWorst_77 lm_X1_65 yX1_capBy_ok yX1_capBy_in h0 (by decide) rfl (sX1_capBy hK h0 ((x3 + x4) / 2) sg) rfl rfl (Nat.le_of_ble_eq_true rfl) ⟨by decide, by decide⟩ (fun r1 s2 => ?_)
    refine q_aload_n (pc := 80) dX1_planWorst_80 rfl ?_
    refine q_callVv (pc := 81) [] dX1_planWorst_81 lm_X1_54 yX1_sweep_ok yX1_sweep_in h0 (by decide) rfl (sX1_sweep hK h0 s2) rfl rfl (Nat.le_of_ble_eq_true rfl) ⟨by decide, by decide⟩ (fun r3 s4 => ?_)
    refine q_aload_n (pc := 84) dX1_planWorst_84 rfl ?_
    refine qg_1_5 (pc := 85) dX1_planWorst_85 h0 lf_X1_28 ?_
    refine q_iconst (pc := 88) 0 dX1_planWorst_88 (by decide) ?_
    refine q_callSNi (pc := 89) [.ref (b + ((k0 + 3))), .int 0] dX1_planWorst_89 (by decide) yX3_at_ok yX3_at_in (sX3_at hK (qch_1_5 hK h0) 0 s4) rfl rfl (Nat.le_of_ble_eq_true rfl) ⟨by decide, by decide⟩ (fun r5 s6 => ?_)
    refine q_if_lt (pc := 92) 102 dX1_planWorst_92 (by decide) ?_ ?_
    · refine q_iload (pc := 102) dX1_planWorst_102 rfl ?_
      refine q_istore_n (pc := 104) dX1_planWorst_104 (by decide) ?_
      refine q_iinc (pc := 105) 1 dX1_planWorst_105 rfl (by decide) (by decide) ?_
      refine q_goto (pc := 108) 51 dX1_planWorst_108 (by decide) ?_
      refine qJ_weak [some (.ref (b + k0)), none, some (.ref (b + k2)), some (.int (((x3 + x4) / 2))), some (.int x4), some (.int ((x5 + 1))), none] ⟨rfl, rfl, rfl, rfl, rfl, trivial⟩ ?_
      exact ih (((x3 + x4) / 2)) x4 ((x5 + 1)) s6
    refine q_iload (pc := 95) dX1_planWorst_95 rfl ?_
    refine q_istore (pc := 97) dX1_planWorst_97 (by decide) ?_
    refine q_goto (pc := 99) 105 dX1_planWorst_99 (by decide) ?_
    refine q_iinc (pc := 105) 1 dX1_planWorst_105 rfl (by decide) (by decide) ?_
    refine q_goto (pc := 108) 51 dX1_planWorst_108 (by decide) ?_
    refine qJ_weak [some (.ref (b + k0)), none, some (.ref (b + k2)), some (.int x3), some (.int (((x3 + x4) / 2))), some (.int ((x5 + 1))), none] ⟨rfl, rfl, rfl, rfl, rfl, trivial⟩ ?_
    exact ih x3 (((x3 + x4) / 2)) ((x5 + 1)) s6
def fX1_planWorst (k0 k1 k2 : Nat) (sg : qSt) : qR :=
  qb (fX3_putAll (k0 + 2) 0 (qset (qset (qset sg k0 0 (sg k1 0)) k0 1 ((qset sg k0 0 (sg k1 0)) k1 1)) k0 4 1)) fun r1 s2 =>
  fX1_planWorst_51 k0 k2 qfu 0 (((840 * (s2 k0 1)) * ((s2 k0 0) - 1))) 0 s2
set_option maxRecDepth 20000 in
set_option maxHeartbeats 4000000 in
theorem sX1_planWorst {b : Nat} {K : List Nat} (hK : qOk K) {k0 k1 k2 : Nat} (h0 : qIn K k0 1) (h1 : qIn K k1 0) (h2 : qIn K k2 2) (sg : qSt) : qS yX1_planWorst cX1_planWorst 7 (some .int) 4 98 b K [.ref (b + k0), .ref (b + k1), .ref (b + k2)] sg (fX1_planWorst k0 k1 k2 sg) := by
  refine qS_of (own := RX1) rfl (by decide) hK.1 (by simp [Value.category]) (Nat.le_of_ble_eq_true rfl) (fun z _ ty h => by cases h; exact vp_nar_int _) ?_
  show qJ RX1 cX1_planWorst 7 4 98 false (fun _ _ => True) b K 0 [some (.ref (b + k0)), some (.ref (b + k1)), some (.ref (b + k2)), none, none, none, none] [] sg (fX1_planWorst k0 k1 k2 sg)
  unfold fX1_planWorst
  refine q_aload_n (pc := 0) dX1_planWorst_0 rfl ?_
  refine q_aload_n (pc := 1) dX1_planWorst_1 rfl ?_
  refine qg_0_0 (pc := 2) dX1_planWorst_2 h1 lf_X1_37 ?_
  refine qp_1_0 (pc := 5) dX1_planWorst_5 h0 lf_X1_9 ?_
  refine q_aload_n (pc := 8) dX1_planWorst_8 rfl ?_
  refine q_aload_n (pc := 9) dX1_planWorst_9 rfl ?_
  refine qg_0_1 (pc := 10) dX1_planWorst_10 h1 lf_X1_40 ?_
  refine qp_1_1 (pc := 13) dX1_planWorst_13 h0 lf_X1_15 ?_
  refine q_aload_n (pc := 16) dX1_planWorst_16 rfl ?_
  refine q_iconst (pc := 17) 1 dX1_planWorst_17 (by decide) ?_
  refine qp_1_4 (pc := 18) dX1_planWorst_18 h0 lf_X1_25 ?_
  refine q_aload_n (pc := 21) dX1_planWorst_21 rfl ?_
  refine qg_1_3 (pc := 22) dX1_planWorst_22 h0 lf_X1_22 ?_
  refine q_iconst (pc := 25) 0 dX1_planWorst_25 (by decide) ?_
  refine q_callSNv (pc := 26) [.ref (b + ((k0 + 2))), .int 0] dX1_planWorst_26 (by decide) yX3_putAll_ok yX3_putAll_in (sX3_putAll hK (qch_1_3 hK h0) 0 (qset (qset (qset sg k0 0 (sg k1 0)) k0 1 ((qset sg k0 0 (sg k1 0)) k1 1)) k0 4 1)) rfl rfl (Nat.le_of_ble_eq_true rfl) ⟨by decide, by decide⟩ (fun r1 s2 => ?_)
  refine q_iconst (pc := 29) 0 dX1_planWorst_29 (by decide) ?_
  refine q_istore_n (pc := 30) dX1_planWorst_30 (by decide) ?_
  refine q_sipush (pc := 31) 840 dX1_planWorst_31 (by decide) ?_
  refine q_aload_n (pc := 34) dX1_planWorst_34 rfl ?_
  refine qg_1_1 (pc := 35) dX1_planWorst_35 h0 lf_X1_15 ?_
  refine q_imul (pc := 38) dX1_planWorst_38 ?_
  refine q_aload_n (pc := 39) dX1_planWorst_39 rfl ?_
  refine qg_1_0 (pc := 40) dX1_planWorst_40 h0 lf_X1_9 ?_
  refine q_iconst (pc := 43) 1 dX1_planWorst_43 (by decide) ?_
  refine q_isub (pc := 44) dX1_planWorst_44 ?_
  refine q_imul (pc := 45) dX1_planWorst_45 ?_
  refine q_istore (pc := 46) dX1_planWorst_46 (by decide) ?_
  refine q_iconst (pc := 48) 0 dX1_planWorst_48 (by decide) ?_
  refine q_istore (pc := 49) dX1_planWorst_49 (by decide) ?_
  refine qJ_weak [some (.ref (b + k0)), none, some (.ref (b + k2)), some (.int 0), some (.int (((840 * (s2 k0 1)) * ((s2 k0 0) - 1)))), some (.int 0), none] ⟨rfl, rfl, rfl, rfl, rfl, trivial⟩ ?_
  exact tX1_planWorst_51 hK h0 h2 qfu 0 (((840 * (s2 k0 1)) * ((s2 k0 0) - 1))) 0 s2
