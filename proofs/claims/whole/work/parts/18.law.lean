/-! ===== by program (law.py): the law's loop ===== -/
def qscr (bs Ls : Nat) (xs : Nat → Int32) : State → (Nat → Prop) → Prop := fun s A => va_X bs Ls xs s s.heap ∧ bs < s.heap.size ∧ ¬ A bs
section QSCR
variable {own : String} {cc : ByteArray} {nL fr lo : Nat} {vd : Bool} {b : Nat} {K : List Nat} {pc : Nat} {L : List (Option Value)} {st : List Value} {σ : qSt} {e : qR} {bs Ls : Nat} {xs : Nat → Int32}
theorem q_sld {i : Int32} (hd : decode cc pc = .ok (.iaload, 1)) (h : qJ own cc nL fr lo vd (qscr bs Ls xs) b K (pc + 1) L (.int (xs i.toNatClampNeg) :: st) σ e) : qJ own cc nL fr lo vd (qscr bs Ls xs) b K pc L (.int i :: .ref bs :: st) σ (if qin i Ls then e else none) :=
  fun z hz p l ev R s m args below meth c H locs cells slots Q dC dI cA A hF hP hS hr ls hL => by
    by_cases hi : qin i Ls = true
    · rw [if_pos hi] at hz
      exact va_sld hF.1.1 hF.1.2.1 hF.2.2.2.2.2.1 hF.2.2.2.2.2.2.1 hF.2.2.2.2.2.2.2 hS (qin_vp hi) hd (h z hz p l ev R s m args below meth c H locs cells slots Q dC dI cA A hF hP hS hr ls hL)
    · rw [if_neg hi] at hz
      cases hz
theorem q_slen (hd : decode cc pc = .ok (.arraylength, 1)) (h : qJ own cc nL fr lo vd (qscr bs Ls xs) b K (pc + 1) L (.int (Int32.ofNat Ls) :: st) σ e) : qJ own cc nL fr lo vd (qscr bs Ls xs) b K pc L (.ref bs :: st) σ e :=
  fun z hz p l ev R s m args below meth c H locs cells slots Q dC dI cA A hF hP hS hr ls hL => va_slen hF.1.1 hF.1.2.1 hF.2.2.2.2.2.1 hF.2.2.2.2.2.2.1 hF.2.2.2.2.2.2.2 hS hd (h z hz p l ev R s m args below meth c H locs cells slots Q dC dI cA A hF hP hS hr ls hL)
end QSCR
theorem lm_L_13 : Cond.methodLink RL 13 yX3_rays ∈ qtbl := (qmem 161 (by decide +kernel) rfl)
theorem lm_L_17 : Cond.methodLink RL 17 yX4_rays ∈ qtbl := (qmem 496 (by decide +kernel) rfl)
theorem lm_L_18 : Cond.methodLink RL 18 yX3_costs ∈ qtbl := (qmem 174 (by decide +kernel) rfl)
theorem lm_L_21 : Cond.methodLink RL 21 yX4_costs ∈ qtbl := (qmem 503 (by decide +kernel) rfl)
theorem lm_L_22 : Cond.methodLink RL 22 yX3_share ∈ qtbl := (qmem 178 (by decide +kernel) rfl)
theorem lm_L_26 : Cond.methodLink RL 26 yX4_share ∈ qtbl := (qmem 507 (by decide +kernel) rfl)
theorem lm_L_27 : Cond.methodLink RL 27 yX3_shareOf ∈ qtbl := (qmem 201 (by decide +kernel) rfl)
theorem lm_L_30 : Cond.methodLink RL 30 yX4_shareOf ∈ qtbl := (qmem 515 (by decide +kernel) rfl)
theorem lm_L_31 : Cond.methodLink RL 31 yX3_trip ∈ qtbl := (qmem 205 (by decide +kernel) rfl)
theorem lm_L_34 : Cond.methodLink RL 34 yX4_trip ∈ qtbl := (qmem 519 (by decide +kernel) rfl)
theorem lm_L_35 : Cond.methodLink RL 35 yX3_tripOf ∈ qtbl := (qmem 214 (by decide +kernel) rfl)
theorem lm_L_38 : Cond.methodLink RL 38 yX4_tripOf ∈ qtbl := (qmem 523 (by decide +kernel) rfl)
theorem lm_L_39 : Cond.methodLink RL 39 yX3_drop ∈ qtbl := (qmem 244 (by decide +kernel) rfl)
theorem lm_L_43 : Cond.methodLink RL 43 yX4_drop ∈ qtbl := (qmem 531 (by decide +kernel) rfl)
theorem lm_L_44 : Cond.methodLink RL 44 yX3_clear ∈ qtbl := (qmem 252 (by decide +kernel) rfl)
theorem lm_L_47 : Cond.methodLink RL 47 yX4_clear ∈ qtbl := (qmem 535 (by decide +kernel) rfl)
theorem lm_L_48 : Cond.methodLink RL 48 yX3_way ∈ qtbl := (qmem 256 (by decide +kernel) rfl)
theorem lm_L_51 : Cond.methodLink RL 51 yX4_way ∈ qtbl := (qmem 539 (by decide +kernel) rfl)
theorem lm_L_52 : Cond.methodLink RL 52 yX3_late ∈ qtbl := (qmem 269 (by decide +kernel) rfl)
theorem lm_L_55 : Cond.methodLink RL 55 yX4_late ∈ qtbl := (qmem 551 (by decide +kernel) rfl)
theorem lm_L_56 : Cond.methodLink RL 56 yX3_worst ∈ qtbl := (qmem 279 (by decide +kernel) rfl)
theorem lm_L_60 : Cond.methodLink RL 60 yX4_worst ∈ qtbl := (qmem 561 (by decide +kernel) rfl)
theorem lm_L_61 : Cond.methodLink RL 61 yX3_mean ∈ qtbl := (qmem 298 (by decide +kernel) rfl)
theorem lm_L_64 : Cond.methodLink RL 64 yX4_mean ∈ qtbl := (qmem 569 (by decide +kernel) rfl)
theorem lm_L_65 : Cond.methodLink RL 65 yX3_missed ∈ qtbl := (qmem 302 (by decide +kernel) rfl)
theorem lm_L_68 : Cond.methodLink RL 68 yX4_missed ∈ qtbl := (qmem 573 (by decide +kernel) rfl)
theorem lm_L_69 : Cond.methodLink RL 69 yX3_finds ∈ qtbl := (qmem 306 (by decide +kernel) rfl)
theorem lm_L_72 : Cond.methodLink RL 72 yX4_finds ∈ qtbl := (qmem 577 (by decide +kernel) rfl)
theorem lm_L_73 : Cond.methodLink RL 73 yX3_leastMean ∈ qtbl := (qmem 310 (by decide +kernel) rfl)
theorem lm_L_76 : Cond.methodLink RL 76 yX4_leastMean ∈ qtbl := (qmem 581 (by decide +kernel) rfl)
theorem lm_L_77 : Cond.methodLink RL 77 yX3_meanTrip ∈ qtbl := (qmem 375 (by decide +kernel) rfl)
theorem lm_L_80 : Cond.methodLink RL 80 yX4_meanTrip ∈ qtbl := (qmem 612 (by decide +kernel) rfl)
theorem lm_L_81 : Cond.methodLink RL 81 yX3_leastWorst ∈ qtbl := (qmem 382 (by decide +kernel) rfl)
theorem lm_L_84 : Cond.methodLink RL 84 yX4_leastWorst ∈ qtbl := (qmem 624 (by decide +kernel) rfl)
theorem lm_L_85 : Cond.methodLink RL 85 yX3_worstTrip ∈ qtbl := (qmem 402 (by decide +kernel) rfl)
theorem lm_L_88 : Cond.methodLink RL 88 yX4_worstTrip ∈ qtbl := (qmem 638 (by decide +kernel) rfl)
theorem lm_L_89 : Cond.methodLink RL 89 yX3_within ∈ qtbl := (qmem 406 (by decide +kernel) rfl)
theorem lm_L_92 : Cond.methodLink RL 92 yX4_within ∈ qtbl := (qmem 646 (by decide +kernel) rfl)
theorem lm_L_93 : Cond.methodLink RL 93 yX3_take ∈ qtbl := (qmem 410 (by decide +kernel) rfl)
theorem lm_L_96 : Cond.methodLink RL 96 yX4_take ∈ qtbl := (qmem 650 (by decide +kernel) rfl)
theorem lm_L_97 : Cond.methodLink RL 97 yX3_both ∈ qtbl := (qmem 419 (by decide +kernel) rfl)
theorem lm_L_100 : Cond.methodLink RL 100 yX4_both ∈ qtbl := (qmem 654 (by decide +kernel) rfl)
theorem lm_L_101 : Cond.methodLink RL 101 yX3_end ∈ qtbl := (qmem 427 (by decide +kernel) rfl)
theorem lm_L_104 : Cond.methodLink RL 104 yX4_end ∈ qtbl := (qmem 666 (by decide +kernel) rfl)
theorem lm_L_105 : Cond.methodLink RL 105 yX3_told ∈ qtbl := (qmem 432 (by decide +kernel) rfl)
theorem lm_L_108 : Cond.methodLink RL 108 yX4_told ∈ qtbl := (qmem 670 (by decide +kernel) rfl)
def fL_law_18 (Ls : Nat) (xs : Nat → Int32) (k1 k2 : Nat) : Nat → Int32 → qSt → qR
  | 0, _, _ => none
  | n + 1, x3, sg =>
    if ((Int32.ofNat Ls) - 4) < x3 then
      some (1, sg)
    else
    if qin x3 Ls then
    if ((xs (Int32.toNatClampNeg x3)) &&& 31) = 0 then
      if qin (x3 + 1) Ls then
      if qin (x3 + 2) Ls then
      qb (fX3_rays k1 (xs (Int32.toNatClampNeg (x3 + 1))) (xs (Int32.toNatClampNeg (x3 + 2))) sg) fun r1 s2 =>
      if qin (x3 + 1) Ls then
      if qin (x3 + 2) Ls then
      qb (fX4_rays k2 (xs (Int32.toNatClampNeg (x3 + 1))) (xs (Int32.toNatClampNeg (x3 + 2))) s2) fun r3 s4 =>
      if r1 = r3 then
        fL_law_18 Ls xs k1 k2 n ((x3 + 4)) s4
      else
      some (0, s4)
      else none
      else none
      else none
      else none
    else
    if ((xs (Int32.toNatClampNeg x3)) &&& 31) = 1 then
      if qin (x3 + 1) Ls then
      if qin (x3 + 2) Ls then
      qb (fX3_costs k1 (xs (Int32.toNatClampNeg (x3 + 1))) (xs (Int32.toNatClampNeg (x3 + 2))) sg) fun r5 s6 =>
      if qin (x3 + 1) Ls then
      if qin (x3 + 2) Ls then
      qb (fX4_costs k2 (xs (Int32.toNatClampNeg (x3 + 1))) (xs (Int32.toNatClampNeg (x3 + 2))) s6) fun r7 s8 =>
      if r5 = r7 then
        fL_law_18 Ls xs k1 k2 n ((x3 + 4)) s8
      else
      some (0, s8)
      else none
      else none
      else none
      else none
    else
    if ((xs (Int32.toNatClampNeg x3)) &&& 31) = 2 then
      if qin (x3 + 1) Ls then
      if qin (x3 + 2) Ls then
      if qin (x3 + 3) Ls then
      qb (fX3_share k1 (xs (Int32.toNatClampNeg (x3 + 1))) (xs (Int32.toNatClampNeg (x3 + 2))) (xs (Int32.toNatClampNeg (x3 + 3))) sg) fun r9 s10 =>
      if qin (x3 + 1) Ls then
      if qin (x3 + 2) Ls then
      if qin (x3 + 3) Ls then
      qb (fX4_share k2 (xs (Int32.toNatClampNeg (x3 + 1))) (xs (Int32.toNatClampNeg (x3 + 2))) (xs (Int32.toNatClampNeg (x3 + 3))) s10) fun r11 s12 =>
      if r9 = r11 then
        fL_law_18 Ls xs k1 k2 n ((x3 + 4)) s12
      else
      some (0, s12)
      else none
      else none
      else none
      else none
      else none
      else none
    else
    if ((xs (Int32.toNatClampNeg x3)) &&& 31) = 3 then
      if qin (x3 + 1) Ls then
      if qin (x3 + 2) Ls then
      qb (fX3_shareOf k1 (xs (Int32.toNatClampNeg (x3 + 1))) (xs (Int32.toNatClampNeg (x3 + 2))) sg) fun r13 s14 =>
      if qin (x3 + 1) Ls then
      if qin (x3 + 2) Ls then
      qb (fX4_shareOf k2 (xs (Int32.toNatClampNeg (x3 + 1))) (xs (Int32.toNatClampNeg (x3 + 2))) s14) fun r15 s16 =>
      if r13 = r15 then
        fL_law_18 Ls xs k1 k2 n ((x3 + 4)) s16
      else
      some (0, s16)
      else none
      else none
      else none
      else none
    else
    if ((xs (Int32.toNatClampNeg x3)) &&& 31) = 4 then
      if qin (x3 + 1) Ls then
      if qin (x3 + 2) Ls then
      qb (fX3_trip k1 (xs (Int32.toNatClampNeg (x3 + 1))) (xs (Int32.toNatClampNeg (x3 + 2))) sg) fun r17 s18 =>
      if qin (x3 + 1) Ls then
      if qin (x3 + 2) Ls then
      qb (fX4_trip k2 (xs (Int32.toNatClampNeg (x3 + 1))) (xs (Int32.toNatClampNeg (x3 + 2))) s18) fun r19 s20 =>
      if r17 = r19 then
        fL_law_18 Ls xs k1 k2 n ((x3 + 4)) s20
      else
      some (0, s20)
      else none
      else none
      else none
      else none
    else
    if ((xs (Int32.toNatClampNeg x3)) &&& 31) = 5 then
      if qin (x3 + 1) Ls then
      if qin (x3 + 2) Ls then
      qb (fX3_tripOf k1 (xs (Int32.toNatClampNeg (x3 + 1))) (xs (Int32.toNatClampNeg (x3 + 2))) sg) fun r21 s22 =>
      if qin (x3 + 1) Ls then
      if qin (x3 + 2) Ls then
      qb (fX4_tripOf k2 (xs (Int32.toNatClampNeg (x3 + 1))) (xs (Int32.toNatClampNeg (x3 + 2))) s22) fun r23 s24 =>
      if r21 = r23 then
        fL_law_18 Ls xs k1 k2 n ((x3 + 4)) s24
      else
      some (0, s24)
      else none
      else none
      else none
      else none
    else
    if ((xs (Int32.toNatClampNeg x3)) &&& 31) = 6 then
      qb (fX3_drop k1 sg) fun r25 s26 =>
      qb (fX4_drop k2 s26) fun r27 s28 =>
      if r25 = r27 then
        fL_law_18 Ls xs k1 k2 n ((x3 + 4)) s28
      else
      some (0, s28)
    else
    if ((xs (Int32.toNatClampNeg x3)) &&& 31) = 7 then
      qb (fX3_clear k1 sg) fun r29 s30 =>
      qb (fX4_clear k2 s30) fun r31 s32 =>
      if r29 = r31 then
        fL_law_18 Ls xs k1 k2 n ((x3 + 4)) s32
      else
      some (0, s32)
    else
    if ((xs (Int32.toNatClampNeg x3)) &&& 31) = 8 then
      if qin (x3 + 1) Ls then
      if qin (x3 + 2) Ls then
      qb (fX3_way k1 (xs (Int32.toNatClampNeg (x3 + 1))) (xs (Int32.toNatClampNeg (x3 + 2))) sg) fun r33 s34 =>
      if qin (x3 + 1) Ls then
      if qin (x3 + 2) Ls then
      qb (fX4_way k2 (xs (Int32.toNatClampNeg (x3 + 1))) (xs (Int32.toNatClampNeg (x3 + 2))) s34) fun r35 s36 =>
      if r33 = r35 then
        fL_law_18 Ls xs k1 k2 n ((x3 + 4)) s36
      else
      some (0, s36)
      else none
      else none
      else none
      else none
    else
    if ((xs (Int32.toNatClampNeg x3)) &&& 31) = 9 then
      if qin (x3 + 1) Ls then
      if qin (x3 + 2) Ls then
      if qin (x3 + 3) Ls then
      qb (fX3_late k1 (xs (Int32.toNatClampNeg (x3 + 1))) (xs (Int32.toNatClampNeg (x3 + 2))) (xs (Int32.toNatClampNeg (x3 + 3))) sg) fun r37 s38 =>
      if qin (x3 + 1) Ls then
      if qin (x3 + 2) Ls then
      if qin (x3 + 3) Ls then
      qb (fX4_late k2 (xs (Int32.toNatClampNeg (x3 + 1))) (xs (Int32.toNatClampNeg (x3 + 2))) (xs (Int32.toNatClampNeg (x3 + 3))) s38) fun r39 s40 =>
      if r37 = r39 then
        fL_law_18 Ls xs k1 k2 n ((x3 + 4)) s40
      else
      some (0, s40)
      else none
      else none
      else none
      else none
      else none
      else none
    else
    if ((xs (Int32.toNatClampNeg x3)) &&& 31) = 10 then
      if qin (x3 + 1) Ls then
      qb (fX3_worst k1 (xs (Int32.toNatClampNeg (x3 + 1))) sg) fun r41 s42 =>
      if qin (x3 + 1) Ls then
      qb (fX4_worst k2 (xs (Int32.toNatClampNeg (x3 + 1))) s42) fun r43 s44 =>
      if r41 = r43 then
        fL_law_18 Ls xs k1 k2 n ((x3 + 4)) s44
      else
      some (0, s44)
      else none
      else none
    else
    if ((xs (Int32.toNatClampNeg x3)) &&& 31) = 11 then
      qb (fX3_mean k1 sg) fun r45 s46 =>
      qb (fX4_mean k2 s46) fun r47 s48 =>
      if r45 = r47 then
        fL_law_18 Ls xs k1 k2 n ((x3 + 4)) s48
      else
      some (0, s48)
    else
    if ((xs (Int32.toNatClampNeg x3)) &&& 31) = 12 then
      if qin (x3 + 1) Ls then
      qb (fX3_missed k1 (xs (Int32.toNatClampNeg (x3 + 1))) sg) fun r49 s50 =>
      if qin (x3 + 1) Ls then
      qb (fX4_missed k2 (xs (Int32.toNatClampNeg (x3 + 1))) s50) fun r51 s52 =>
      if r49 = r51 then
        fL_law_18 Ls xs k1 k2 n ((x3 + 4)) s52
      else
      some (0, s52)
      else none
      else none
    else
    if ((xs (Int32.toNatClampNeg x3)) &&& 31) = 13 then
      if qin (x3 + 1) Ls then
      qb (fX3_finds k1 (xs (Int32.toNatClampNeg (x3 + 1))) sg) fun r53 s54 =>
      if qin (x3 + 1) Ls then
      qb (fX4_finds k2 (xs (Int32.toNatClampNeg (x3 + 1))) s54) fun r55 s56 =>
      if r53 = r55 then
        fL_law_18 Ls xs k1 k2 n ((x3 + 4)) s56
      else
      some (0, s56)
      else none
      else none
    else
    if ((xs (Int32.toNatClampNeg x3)) &&& 31) = 14 then
      qb (fX3_leastMean k1 sg) fun r57 s58 =>
      qb (fX4_leastMean k2 s58) fun r59 s60 =>
      if r57 = r59 then
        fL_law_18 Ls xs k1 k2 n ((x3 + 4)) s60
      else
      some (0, s60)
    else
    if ((xs (Int32.toNatClampNeg x3)) &&& 31) = 15 then
      if qin (x3 + 1) Ls then
      qb (fX3_meanTrip k1 (xs (Int32.toNatClampNeg (x3 + 1))) sg) fun r61 s62 =>
      if qin (x3 + 1) Ls then
      qb (fX4_meanTrip k2 (xs (Int32.toNatClampNeg (x3 + 1))) s62) fun r63 s64 =>
      if r61 = r63 then
        fL_law_18 Ls xs k1 k2 n ((x3 + 4)) s64
      else
      some (0, s64)
      else none
      else none
    else
    if ((xs (Int32.toNatClampNeg x3)) &&& 31) = 16 then
      if qin (x3 + 1) Ls then
      qb (fX3_leastWorst k1 (xs (Int32.toNatClampNeg (x3 + 1))) sg) fun r65 s66 =>
      if qin (x3 + 1) Ls then
      qb (fX4_leastWorst k2 (xs (Int32.toNatClampNeg (x3 + 1))) s66) fun r67 s68 =>
      if r65 = r67 then
        fL_law_18 Ls xs k1 k2 n ((x3 + 4)) s68
      else
      some (0, s68)
      else none
      else none
    else
    if ((xs (Int32.toNatClampNeg x3)) &&& 31) = 17 then
      if qin (x3 + 1) Ls then
      qb (fX3_worstTrip k1 (xs (Int32.toNatClampNeg (x3 + 1))) sg) fun r69 s70 =>
      if qin (x3 + 1) Ls then
      qb (fX4_worstTrip k2 (xs (Int32.toNatClampNeg (x3 + 1))) s70) fun r71 s72 =>
      if r69 = r71 then
        fL_law_18 Ls xs k1 k2 n ((x3 + 4)) s72
      else
      some (0, s72)
      else none
      else none
    else
    if ((xs (Int32.toNatClampNeg x3)) &&& 31) = 18 then
      if qin (x3 + 1) Ls then
      if qin (x3 + 2) Ls then
      qb (fX3_within k1 (xs (Int32.toNatClampNeg (x3 + 1))) (xs (Int32.toNatClampNeg (x3 + 2))) sg) fun r73 s74 =>
      if qin (x3 + 1) Ls then
      if qin (x3 + 2) Ls then
      qb (fX4_within k2 (xs (Int32.toNatClampNeg (x3 + 1))) (xs (Int32.toNatClampNeg (x3 + 2))) s74) fun r75 s76 =>
      if r73 = r75 then
        fL_law_18 Ls xs k1 k2 n ((x3 + 4)) s76
      else
      some (0, s76)
      else none
      else none
      else none
      else none
    else
    if ((xs (Int32.toNatClampNeg x3)) &&& 31) = 19 then
      if qin (x3 + 1) Ls then
      qb (fX3_take k1 (xs (Int32.toNatClampNeg (x3 + 1))) sg) fun r77 s78 =>
      if qin (x3 + 1) Ls then
      qb (fX4_take k2 (xs (Int32.toNatClampNeg (x3 + 1))) s78) fun r79 s80 =>
      if r77 = r79 then
        fL_law_18 Ls xs k1 k2 n ((x3 + 4)) s80
      else
      some (0, s80)
      else none
      else none
    else
    if ((xs (Int32.toNatClampNeg x3)) &&& 31) = 20 then
      if qin (x3 + 1) Ls then
      if qin (x3 + 2) Ls then
      if qin (x3 + 3) Ls then
      qb (fX3_both k1 (xs (Int32.toNatClampNeg (x3 + 1))) (xs (Int32.toNatClampNeg (x3 + 2))) (xs (Int32.toNatClampNeg (x3 + 3))) sg) fun r81 s82 =>
      if qin (x3 + 1) Ls then
      if qin (x3 + 2) Ls then
      if qin (x3 + 3) Ls then
      qb (fX4_both k2 (xs (Int32.toNatClampNeg (x3 + 1))) (xs (Int32.toNatClampNeg (x3 + 2))) (xs (Int32.toNatClampNeg (x3 + 3))) s82) fun r83 s84 =>
      if r81 = r83 then
        fL_law_18 Ls xs k1 k2 n ((x3 + 4)) s84
      else
      some (0, s84)
      else none
      else none
      else none
      else none
      else none
      else none
    else
    if ((xs (Int32.toNatClampNeg x3)) &&& 31) = 21 then
      qb (fX3_end k1 sg) fun r85 s86 =>
      qb (fX4_end k2 s86) fun r87 s88 =>
      if r85 = r87 then
        fL_law_18 Ls xs k1 k2 n ((x3 + 4)) s88
      else
      some (0, s88)
    else
    if ((xs (Int32.toNatClampNeg x3)) &&& 31) = 22 then
      if qin (x3 + 1) Ls then
      qb (fX3_told k1 (xs (Int32.toNatClampNeg (x3 + 1))) sg) fun r89 s90 =>
      if qin (x3 + 1) Ls then
      qb (fX4_told k2 (xs (Int32.toNatClampNeg (x3 + 1))) s90) fun r91 s92 =>
      if r89 = r91 then
        fL_law_18 Ls xs k1 k2 n ((x3 + 4)) s92
      else
      some (0, s92)
      else none
      else none
    else
    fL_law_18 Ls xs k1 k2 n ((x3 + 4)) sg
    else none
set_option maxRecDepth 20000 in
set_option maxHeartbeats 4000000 in
theorem tL_law_18 {bs Ls : Nat} {xs : Nat → Int32} {b : Nat} {K : List Nat} (hK : qOk K) {k1 k2 : Nat} (h1 : qIn K k1 3) (h2 : qIn K k2 4) : ∀ (n : Nat) (x3 : Int32) (sg : qSt), qJ RL cL_law 4 9 332 false (qscr bs Ls xs) b K 18 [some (.ref bs), some (.ref (b + k1)), some (.ref (b + k2)), some (.int x3)] [] sg (fL_law_18 Ls xs k1 k2 n x3 sg) := by
  intro n
  induction n with
  | zero => intro x3 sg; exact qJ_none
  | succ n ih =>
    intro x3 sg
    unfold fL_law_18
    refine q_iload_n (pc := 18) dL_law_18 rfl ?_
    refine q_aload_n (pc := 19) dL_law_19 rfl ?_
    refine q_slen (pc := 20) dL_law_20 ?_
    refine q_iconst (pc := 21) 4 dL_law_21 (by decide) ?_
    refine q_isub (pc := 22) dL_law_22 ?_
    refine q_icmp_gt (pc := 23) 755 dL_law_23 (by decide) ?_ ?_
    · refine q_iconst (pc := 755) 1 dL_law_755 (by decide) ?_
      exact q_ireturn (pc := 756) dL_law_756
    refine q_aload_n (pc := 26) dL_law_26 rfl ?_
    refine q_iload_n (pc := 27) dL_law_27 rfl ?_
    refine q_sld (pc := 28) dL_law_28 ?_
    refine q_bipush (pc := 29) 31 dL_law_29 (by decide) ?_
    refine q_iand (pc := 31) dL_law_31 ?_
    refine q_sel (fun hx32_0 => ?_) (fun hx32_0 => ?_)
    · refine q_tabIn (pc := 32) 140 dL_law_32 (by rw [hx32_0]; decide) (by rw [hx32_0]; decide) (by rw [hx32_0]; rfl) (by decide) ?_
      refine q_aload_n (pc := 140) dL_law_140 rfl ?_
      refine q_aload_n (pc := 141) dL_law_141 rfl ?_
      refine q_iload_n (pc := 142) dL_law_142 rfl ?_
      refine q_iconst (pc := 143) 1 dL_law_143 (by decide) ?_
      refine q_iadd (pc := 144) dL_law_144 ?_
      refine q_sld (pc := 145) dL_law_145 ?_
      refine q_aload_n (pc := 146) dL_law_146 rfl ?_
      refine q_iload_n (pc := 147) dL_law_147 rfl ?_
      refine q_iconst (pc := 148) 2 dL_law_148 (by decide) ?_
      refine q_iadd (pc := 149) dL_law_149 ?_
      refine q_sld (pc := 150) dL_law_150 ?_
      refine q_callVi (pc := 151) [.int ((xs (Int32.toNatClampNeg (x3 + 1)))), .int ((xs (Int32.toNatClampNeg (x3 + 2))))] dL_law_151 lm_L_13 yX3_rays_ok yX3_rays_in h1 (by decide) rfl (sX3_rays hK h1 (xs (Int32.toNatClampNeg (x3 + 1))) (xs (Int32.toNatClampNeg (x3 + 2))) sg) rfl rfl (Nat.le_of_ble_eq_true rfl) ⟨by decide, by decide⟩ (fun r1 s2 => ?_)
      refine q_aload_n (pc := 154) dL_law_154 rfl ?_
      refine q_aload_n (pc := 155) dL_law_155 rfl ?_
      refine q_iload_n (pc := 156) dL_law_156 rfl ?_
      refine q_iconst (pc := 157) 1 dL_law_157 (by decide) ?_
      refine q_iadd (pc := 158) dL_law_158 ?_
      refine q_sld (pc := 159) dL_law_159 ?_
      refine q_aload_n (pc := 160) dL_law_160 rfl ?_
      refine q_iload_n (pc := 161) dL_law_161 rfl ?_
      refine q_iconst (pc := 162) 2 dL_law_162 (by decide) ?_
      refine q_iadd (pc := 163) dL_law_163 ?_
      refine q_sld (pc := 164) dL_law_164 ?_
      refine q_callVi (pc := 165) [.int ((xs (Int32.toNatClampNeg (x3 + 1)))), .int ((xs (Int32.toNatClampNeg (x3 + 2))))] dL_law_165 lm_L_17 yX4_rays_ok yX4_rays_in h2 (by decide) rfl (sX4_rays hK h2 (xs (Int32.toNatClampNeg (x3 + 1))) (xs (Int32.toNatClampNeg (x3 + 2))) s2) rfl rfl (Nat.le_of_ble_eq_true rfl) ⟨by decide, by decide⟩ (fun r3 s4 => ?_)
      refine q_icmp_eq (pc := 168) 749 dL_law_168 (by decide) ?_ ?_
      · refine q_iinc (pc := 749) 4 dL_law_749 rfl (by decide) (by decide) ?_
        refine q_goto (pc := 752) 18 dL_law_752 (by decide) ?_
        exact ih ((x3 + 4)) s4
      refine q_iconst (pc := 171) 0 dL_law_171 (by decide) ?_
      exact q_ireturn (pc := 172) dL_law_172
    refine q_sel (fun hx32_1 => ?_) (fun hx32_1 => ?_)
    · refine q_tabIn (pc := 32) 173 dL_law_32 (by rw [hx32_1]; decide) (by rw [hx32_1]; decide) (by rw [hx32_1]; rfl) (by decide) ?_
      refine q_aload_n (pc := 173) dL_law_173 rfl ?_
      refine q_aload_n (pc := 174) dL_law_174 rfl ?_
      refine q_iload_n (pc := 175) dL_law_175 rfl ?_
      refine q_iconst (pc := 176) 1 dL_law_176 (by decide) ?_
      refine q_iadd (pc := 177) dL_law_177 ?_
      refine q_sld (pc := 178) dL_law_178 ?_
      refine q_aload_n (pc := 179) dL_law_179 rfl ?_
      refine q_iload_n (pc := 180) dL_law_180 rfl ?_
      refine q_iconst (pc := 181) 2 dL_law_181 (by decide) ?_
      refine q_iadd (pc := 182) dL_law_182 ?_
      refine q_sld (pc := 183) dL_law_183 ?_
      refine q_callVi (pc := 184) [.int ((xs (Int32.toNatClampNeg (x3 + 1)))), .int ((xs (Int32.toNatClampNeg (x3 + 2))))] dL_law_184 lm_L_18 yX3_costs_ok yX3_costs_in h1 (by decide) rfl (sX3_costs hK h1 (xs (Int32.toNatClampNeg (x3 + 1))) (xs (Int32.toNatClampNeg (x3 + 2))) sg) rfl rfl (Nat.le_of_ble_eq_true rfl) ⟨by decide, by decide⟩ (fun r5 s6 => ?_)
      refine q_aload_n (pc := 187) dL_law_187 rfl ?_
      refine q_aload_n (pc := 188) dL_law_188 rfl ?_
      refine q_iload_n (pc := 189) dL_law_189 rfl ?_
      refine q_iconst (pc := 190) 1 dL_law_190 (by decide) ?_
      refine q_iadd (pc := 191) dL_law_191 ?_
      refine q_sld (pc := 192) dL_law_192 ?_
      refine q_aload_n (pc := 193) dL_law_193 rfl ?_
      refine q_iload_n (pc := 194) dL_law_194 rfl ?_
      refine q_iconst (pc := 195) 2 dL_law_195 (by decide) ?_
      refine q_iadd (pc := 196) dL_law_196 ?_
      refine q_sld (pc := 197) dL_law_197 ?_
      refine q_callVi (pc := 198) [.int ((xs (Int32.toNatClampNeg (x3 + 1)))), .int ((xs (Int32.toNatClampNeg (x3 + 2))))] dL_law_198 lm_L_21 yX4_costs_ok yX4_costs_in h2 (by decide) rfl (sX4_costs hK h2 (xs (Int32.toNatClampNeg (x3 + 1))) (xs (Int32.toNatClampNeg (x3 + 2))) s6) rfl rfl (Nat.le_of_ble_eq_true rfl) ⟨by decide, by decide⟩ (fun r7 s8 => ?_)
      refine q_icmp_eq (pc := 201) 749 dL_law_201 (by decide) ?_ ?_
      · refine q_iinc (pc := 749) 4 dL_law_749 rfl (by decide) (by decide) ?_
        refine q_goto (pc := 752) 18 dL_law_752 (by decide) ?_
        exact ih ((x3 + 4)) s8
      refine q_iconst (pc := 204) 0 dL_law_204 (by decide) ?_
      exact q_ireturn (pc := 205) dL_law_205
    refine q_sel (fun hx32_2 => ?_) (fun hx32_2 => ?_)
    · refine q_tabIn (pc := 32) 206 dL_law_32 (by rw [hx32_2]; decide) (by rw [hx32_2]; decide) (by rw [hx32_2]; rfl) (by decide) ?_
      refine q_aload_n (pc := 206) dL_law_206 rfl ?_
      refine q_aload_n (pc := 207) dL_law_207 rfl ?_
      refine q_iload_n (pc := 208) dL_law_208 rfl ?_
      refine q_iconst (pc := 209) 1 dL_law_209 (by decide) ?_
      refine q_iadd (pc := 210) dL_law_210 ?_
      refine q_sld (pc := 211) dL_law_211 ?_
      refine q_aload_n (pc := 212) dL_law_212 rfl ?_
      refine q_iload_n (pc := 213) dL_law_213 rfl ?_
      refine q_iconst (pc := 214) 2 dL_law_214 (by decide) ?_
      refine q_iadd (pc := 215) dL_law_215 ?_
      refine q_sld (pc := 216) dL_law_216 ?_
      refine q_aload_n (pc := 217) dL_law_217 rfl ?_
      refine q_iload_n (pc := 218) dL_law_218 rfl ?_
      refine q_iconst (pc := 219) 3 dL_law_219 (by decide) ?_
      refine q_iadd (pc := 220) dL_law_220 ?_
      refine q_sld (pc := 221) dL_law_221 ?_
      refine q_callVi (pc := 222) [.int ((xs (Int32.toNatClampNeg (x3 + 1)))), .int ((xs (Int32.toNatClampNeg (x3 + 2)))), .int ((xs (Int32.toNatClampNeg (x3 + 3))))] dL_law_222 lm_L_22 yX3_share_ok yX3_share_in h1 (by decide) rfl (sX3_share hK h1 (xs (Int32.toNatClampNeg (x3 + 1))) (xs (Int32.toNatClampNeg (x3 + 2))) (xs (Int32.toNatClampNeg (x3 + 3))) sg) rfl rfl (Nat.le_of_ble_eq_true rfl) ⟨by decide, by decide⟩ (fun r9 s10 => ?_)
      refine q_aload_n (pc := 225) dL_law_225 rfl ?_
      refine q_aload_n (pc := 226) dL_law_226 rfl ?_
      refine q_iload_n (pc := 227) dL_law_227 rfl ?_
      refine q_iconst (pc := 228) 1 dL_law_228 (by decide) ?_
      refine q_iadd (pc := 229) dL_law_229 ?_
      refine q_sld (pc := 230) dL_law_230 ?_
      refine q_aload_n (pc := 231) dL_law_231 rfl ?_
      refine q_iload_n (pc := 232) dL_law_232 rfl ?_
      refine q_iconst (pc := 233) 2 dL_law_233 (by decide) ?_
      refine q_iadd (pc := 234) dL_law_234 ?_
      refine q_sld (pc := 235) dL_law_235 ?_
      refine q_aload_n (pc := 236) dL_law_236 rfl ?_
      refine q_iload_n (pc := 237) dL_law_237 rfl ?_
      refine q_iconst (pc := 238) 3 dL_law_238 (by decide) ?_
      refine q_iadd (pc := 239) dL_law_239 ?_
      refine q_sld (pc := 240) dL_law_240 ?_
      refine q_callVi (pc := 241) [.int ((xs (Int32.toNatClampNeg (x3 + 1)))), .int ((xs (Int32.toNatClampNeg (x3 + 2)))), .int ((xs (Int32.toNatClampNeg (x3 + 3))))] dL_law_241 lm_L_26 yX4_share_ok yX4_share_in h2 (by decide) rfl (sX4_share hK h2 (xs (Int32.toNatClampNeg (x3 + 1))) (xs (Int32.toNatClampNeg (x3 + 2))) (xs (Int32.toNatClampNeg (x3 + 3))) s10) rfl rfl (Nat.le_of_ble_eq_true rfl) ⟨by decide, by decide⟩ (fun r11 s12 => ?_)
      refine q_icmp_eq (pc := 244) 749 dL_law_244 (by decide) ?_ ?_
      · refine q_iinc (pc := 749) 4 dL_law_749 rfl (by decide) (by decide) ?_
        refine q_goto (pc := 752) 18 dL_law_752 (by decide) ?_
        exact ih ((x3 + 4)) s12
      refine q_iconst (pc := 247) 0 dL_law_247 (by decide) ?_
      exact q_ireturn (pc := 248) dL_law_248
    refine q_sel (fun hx32_3 => ?_) (fun hx32_3 => ?_)
    · refine q_tabIn (pc := 32) 249 dL_law_32 (by rw [hx32_3]; decide) (by rw [hx32_3]; decide) (by rw [hx32_3]; rfl) (by decide) ?_
      refine q_aload_n (pc := 249) dL_law_249 rfl ?_
      refine q_aload_n (pc := 250) dL_law_250 rfl ?_
      refine q_iload_n (pc := 251) dL_law_251 rfl ?_
      refine q_iconst (pc := 252) 1 dL_law_252 (by decide) ?_
      refine q_iadd (pc := 253) dL_law_253 ?_
      refine q_sld (pc := 254) dL_law_254 ?_
      refine q_aload_n (pc := 255) dL_law_255 rfl ?_
      refine q_iload_n (pc := 256) dL_law_256 rfl ?_
      refine q_iconst (pc := 257) 2 dL_law_257 (by decide) ?_
      refine q_iadd (pc := 258) dL_law_258 ?_
      refine q_sld (pc := 259) dL_law_259 ?_
      refine q_callVi (pc := 260) [.int ((xs (Int32.toNatClampNeg (x3 + 1)))), .int ((xs (Int32.toNatClampNeg (x3 + 2))))] dL_law_260 lm_L_27 yX3_shareOf_ok yX3_shareOf_in h1 (by decide) rfl (sX3_shareOf hK h1 (xs (Int32.toNatClampNeg (x3 + 1))) (xs (Int32.toNatClampNeg (x3 + 2))) sg) rfl rfl (Nat.le_of_ble_eq_true rfl) ⟨by decide, by decide⟩ (fun r13 s14 => ?_)
      refine q_aload_n (pc := 263) dL_law_263 rfl ?_
      refine q_aload_n (pc := 264) dL_law_264 rfl ?_
      refine q_iload_n (pc := 265) dL_law_265 rfl ?_
      refine q_iconst (pc := 266) 1 dL_law_266 (by decide) ?_
      refine q_iadd (pc := 267) dL_law_267 ?_
      refine q_sld (pc := 268) dL_law_268 ?_
      refine q_aload_n (pc := 269) dL_law_269 rfl ?_
      refine q_iload_n (pc := 270) dL_law_270 rfl ?_
      refine q_iconst (pc := 271) 2 dL_law_271 (by decide) ?_
      refine q_iadd (pc := 272) dL_law_272 ?_
      refine q_sld (pc := 273) dL_law_273 ?_
      refine q_callVi (pc := 274) [.int ((xs (Int32.toNatClampNeg (x3 + 1)))), .int ((xs (Int32.toNatClampNeg (x3 + 2))))] dL_law_274 lm_L_30 yX4_shareOf_ok yX4_shareOf_in h2 (by decide) rfl (sX4_shareOf hK h2 (xs (Int32.toNatClampNeg (x3 + 1))) (xs (Int32.toNatClampNeg (x3 + 2))) s14) rfl rfl (Nat.le_of_ble_eq_true rfl) ⟨by decide, by decide⟩ (fun r15 s16 => ?_)
      refine q_icmp_eq (pc := 277) 749 dL_law_277 (by decide) ?_ ?_
      · refine q_iinc (pc := 749) 4 dL_law_749 rfl (by decide) (by decide) ?_
        refine q_goto (pc := 752) 18 dL_law_752 (by decide) ?_
        exact ih ((x3 + 4)) s16
      refine q_iconst (pc := 280) 0 dL_law_280 (by decide) ?_
      exact q_ireturn (pc := 281) dL_law_281
    refine q_sel (fun hx32_4 => ?_) (fun hx32_4 => ?_)
    · refine q_tabIn (pc := 32) 282 dL_law_32 (by rw [hx32_4]; decide) (by rw [hx32_4]; decide) (by rw [hx32_4]; rfl) (by decide) ?_
      refine q_aload_n (pc := 282) dL_law_282 rfl ?_
      refine q_aload_n (pc := 283) dL_law_283 rfl ?_
      refine q_iload_n (pc := 284) dL_law_284 rfl ?_
      refine q_iconst (pc := 285) 1 dL_law_285 (by decide) ?_
      refine q_iadd (pc := 286) dL_law_286 ?_
      refine q_sld (pc := 287) dL_law_287 ?_
      refine q_aload_n (pc := 288) dL_law_288 rfl ?_
      refine q_iload_n (pc := 289) dL_law_289 rfl ?_
      refine q_iconst (pc := 290) 2 dL_law_290 (by decide) ?_
      refine q_iadd (pc := 291) dL_law_291 ?_
      refine q_sld (pc := 292) dL_law_292 ?_
      refine q_callVi (pc := 293) [.int ((xs (Int32.toNatClampNeg (x3 + 1)))), .int ((xs (Int32.toNatClampNeg (x3 + 2))))] dL_law_293 lm_L_31 yX3_trip_ok yX3_trip_in h1 (by decide) rfl (sX3_trip hK h1 (xs (Int32.toNatClampNeg (x3 + 1))) (xs (Int32.toNatClampNeg (x3 + 2))) sg) rfl rfl (Nat.le_of_ble_eq_true rfl) ⟨by decide, by decide⟩ (fun r17 s18 => ?_)
      refine q_aload_n (pc := 296) dL_law_296 rfl ?_
      refine q_aload_n (pc := 297) dL_law_297 rfl ?_
      refine q_iload_n (pc := 298) dL_law_298 rfl ?_
      refine q_iconst (pc := 299) 1 dL_law_299 (by decide) ?_
      refine q_iadd (pc := 300) dL_law_300 ?_
      refine q_sld (pc := 301) dL_law_301 ?_
      refine q_aload_n (pc := 302) dL_law_302 rfl ?_
      refine q_iload_n (pc := 303) dL_law_303 rfl ?_
      refine q_iconst (pc := 304) 2 dL_law_304 (by decide) ?_
      refine q_iadd (pc := 305) dL_law_305 ?_
      refine q_sld (pc := 306) dL_law_306 ?_
      refine q_callVi (pc := 307) [.int ((xs (Int32.toNatClampNeg (x3 + 1)))), .int ((xs (Int32.toNatClampNeg (x3 + 2))))] dL_law_307 lm_L_34 yX4_trip_ok yX4_trip_in h2 (by decide) rfl (sX4_trip hK h2 (xs (Int32.toNatClampNeg (x3 + 1))) (xs (Int32.toNatClampNeg (x3 + 2))) s18) rfl rfl (Nat.le_of_ble_eq_true rfl) ⟨by decide, by decide⟩ (fun r19 s20 => ?_)
      refine q_icmp_eq (pc := 310) 749 dL_law_310 (by decide) ?_ ?_
      · refine q_iinc (pc := 749) 4 dL_law_749 rfl (by decide) (by decide) ?_
        refine q_goto (pc := 752) 18 dL_law_752 (by decide) ?_
        exact ih ((x3 + 4)) s20
      refine q_iconst (pc := 313) 0 dL_law_313 (by decide) ?_
      exact q_ireturn (pc := 314) dL_law_314
    refine q_sel (fun hx32_5 => ?_) (fun hx32_5 => ?_)
    · refine q_tabIn (pc := 32) 315 dL_law_32 (by rw [hx32_5]; decide) (by rw [hx32_5]; decide) (by rw [hx32_5]; rfl) (by decide) ?_
      refine q_aload_n (pc := 315) dL_law_315 rfl ?_
      refine q_aload_n (pc := 316) dL_law_316 rfl ?_
      refine q_iload_n (pc := 317) dL_law_317 rfl ?_
      refine q_iconst (pc := 318) 1 dL_law_318 (by decide) ?_
      refine q_iadd (pc := 319) dL_law_319 ?_
      refine q_sld (pc := 320) dL_law_320 ?_
      refine q_aload_n (pc := 321) dL_law_321 rfl ?_
      refine q_iload_n (pc := 322) dL_law_322 rfl ?_
      refine q_iconst (pc := 323) 2 dL_law_323 (by decide) ?_
      refine q_iadd (pc := 324) dL_law_324 ?_
      refine q_sld (pc := 325) dL_law_325 ?_
      refine q_callVi (pc := 326) [.int ((xs (Int32.toNatClampNeg (x3 + 1)))), .int ((xs (Int32.toNatClampNeg (x3 + 2))))] dL_law_326 lm_L_35 yX3_tripOf_ok yX3_tripOf_in h1 (by decide) rfl (sX3_tripOf hK h1 (xs (Int32.toNatClampNeg (x3 + 1))) (xs (Int32.toNatClampNeg (x3 + 2))) sg) rfl rfl (Nat.le_of_ble_eq_true rfl) ⟨by decide, by decide⟩ (fun r21 s22 => ?_)
      refine q_aload_n (pc := 329) dL_law_329 rfl ?_
      refine q_aload_n (pc := 330) dL_law_330 rfl ?_
      refine q_iload_n (pc := 331) dL_law_331 rfl ?_
      refine q_iconst (pc := 332) 1 dL_law_332 (by decide) ?_
      refine q_iadd (pc := 333) dL_law_333 ?_
      refine q_sld (pc := 334) dL_law_334 ?_
      refine q_aload_n (pc := 335) dL_law_335 rfl ?_
      refine q_iload_n (pc := 336) dL_law_336 rfl ?_
      refine q_iconst (pc := 337) 2 dL_law_337 (by decide) ?_
      refine q_iadd (pc := 338) dL_law_338 ?_
      refine q_sld (pc := 339) dL_law_339 ?_
      refine q_callVi (pc := 340) [.int ((xs (Int32.toNatClampNeg (x3 + 1)))), .int ((xs (Int32.toNatClampNeg (x3 + 2))))] dL_law_340 lm_L_38 yX4_tripOf_ok yX4_tripOf_in h2 (by decide) rfl (sX4_tripOf hK h2 (xs (Int32.toNatClampNeg (x3 + 1))) (xs (Int32.toNatClampNeg (x3 + 2))) s22) rfl rfl (Nat.le_of_ble_eq_true rfl) ⟨by decide, by decide⟩ (fun r23 s24 => ?_)
      refine q_icmp_eq (pc := 343) 749 dL_law_343 (by decide) ?_ ?_
      · refine q_iinc (pc := 749) 4 dL_law_749 rfl (by decide) (by decide) ?_
        refine q_goto (pc := 752) 18 dL_law_752 (by decide) ?_
        exact ih ((x3 + 4)) s24
      refine q_iconst (pc := 346) 0 dL_law_346 (by decide) ?_
      exact q_ireturn (pc := 347) dL_law_347
    refine q_sel (fun hx32_6 => ?_) (fun hx32_6 => ?_)
    · refine q_tabIn (pc := 32) 348 dL_law_32 (by rw [hx32_6]; decide) (by rw [hx32_6]; decide) (by rw [hx32_6]; rfl) (by decide) ?_
      refine q_aload_n (pc := 348) dL_law_348 rfl ?_
      refine q_callVi (pc := 349) [] dL_law_349 lm_L_39 yX3_drop_ok yX3_drop_in h1 (by decide) rfl (sX3_drop hK h1 sg) rfl rfl (Nat.le_of_ble_eq_true rfl) ⟨by decide, by decide⟩ (fun r25 s26 => ?_)
      refine q_aload_n (pc := 352) dL_law_352 rfl ?_
      refine q_callVi (pc := 353) [] dL_law_353 lm_L_43 yX4_drop_ok yX4_drop_in h2 (by decide) rfl (sX4_drop hK h2 s26) rfl rfl (Nat.le_of_ble_eq_true rfl) ⟨by decide, by decide⟩ (fun r27 s28 => ?_)
      refine q_icmp_eq (pc := 356) 749 dL_law_356 (by decide) ?_ ?_
      · refine q_iinc (pc := 749) 4 dL_law_749 rfl (by decide) (by decide) ?_
        refine q_goto (pc := 752) 18 dL_law_752 (by decide) ?_
        exact ih ((x3 + 4)) s28
      refine q_iconst (pc := 359) 0 dL_law_359 (by decide) ?_
      exact q_ireturn (pc := 360) dL_law_360
    refine q_sel (fun hx32_7 => ?_) (fun hx32_7 => ?_)
    · refine q_tabIn (pc := 32) 361 dL_law_32 (by rw [hx32_7]; decide) (by rw [hx32_7]; decide) (by rw [hx32_7]; rfl) (by decide) ?_
      refine q_aload_n (pc := 361) dL_law_361 rfl ?_
      refine q_callVi (pc := 362) [] dL_law_362 lm_L_44 yX3_clear_ok yX3_clear_in h1 (by decide) rfl (sX3_clear hK h1 sg) rfl rfl (Nat.le_of_ble_eq_true rfl) ⟨by decide, by decide⟩ (fun r29 s30 => ?_)
      refine q_aload_n (pc := 365) dL_law_365 rfl ?_
      refine q_callVi (pc := 366) [] dL_law_366 lm_L_47 yX4_clear_ok yX4_clear_in h2 (by decide) rfl (sX4_clear hK h2 s30) rfl rfl (Nat.le_of_ble_eq_true rfl) ⟨by decide, by decide⟩ (fun r31 s32 => ?_)
      refine q_icmp_eq (pc := 369) 749 dL_law_369 (by decide) ?_ ?_
      · refine q_iinc (pc := 749) 4 dL_law_749 rfl (by decide) (by decide) ?_
        refine q_goto (pc := 752) 18 dL_law_752 (by decide) ?_
        exact ih ((x3 + 4)) s32
      refine q_iconst (pc := 372) 0 dL_law_372 (by decide) ?_
      exact q_ireturn (pc := 373) dL_law_373
    refine q_sel (fun hx32_8 => ?_) (fun hx32_8 => ?_)
    · refine q_tabIn (pc := 32) 374 dL_law_32 (by rw [hx32_8]; decide) (by rw [hx32_8]; decide) (by rw [hx32_8]; rfl) (by decide) ?_
      refine q_aload_n (pc := 374) dL_law_374 rfl ?_
      refine q_aload_n (pc := 375) dL_law_375 rfl ?_
      refine q_iload_n (pc := 376) dL_law_376 rfl ?_
      refine q_iconst (pc := 377) 1 dL_law_377 (by decide) ?_
      refine q_iadd (pc := 378) dL_law_378 ?_
      refine q_sld (pc := 379) dL_law_379 ?_
      refine q_aload_n (pc := 380) dL_law_380 rfl ?_
      refine q_iload_n (pc := 381) dL_law_381 rfl ?_
      refine q_iconst (pc := 382) 2 dL_law_382 (by decide) ?_
      refine q_iadd (pc := 383) dL_law_383 ?_
      refine q_sld (pc := 384) dL_law_384 ?_
      refine q_callVi (pc := 385) [.int ((xs (Int32.toNatClampNeg (x3 + 1)))), .int ((xs (Int32.toNatClampNeg (x3 + 2))))] dL_law_385 lm_L_48 yX3_way_ok yX3_way_in h1 (by decide) rfl (sX3_way hK h1 (xs (Int32.toNatClampNeg (x3 + 1))) (xs (Int32.toNatClampNeg (x3 + 2))) sg) rfl rfl (Nat.le_of_ble_eq_true rfl) ⟨by decide, by decide⟩ (fun r33 s34 => ?_)
      refine q_aload_n (pc := 388) dL_law_388 rfl ?_
      refine q_aload_n (pc := 389) dL_law_389 rfl ?_
      refine q_iload_n (pc := 390) dL_law_390 rfl ?_
      refine q_iconst (pc := 391) 1 dL_law_391 (by decide) ?_
      refine q_iadd (pc := 392) dL_law_392 ?_
      refine q_sld (pc := 393) dL_law_393 ?_
      refine q_aload_n (pc := 394) dL_law_394 rfl ?_
      refine q_iload_n (pc := 395) dL_law_395 rfl ?_
      refine q_iconst (pc := 396) 2 dL_law_396 (by decide) ?_
      refine q_iadd (pc := 397) dL_law_397 ?_
      refine q_sld (pc := 398) dL_law_398 ?_
      refine q_callVi (pc := 399) [.int ((xs (Int32.toNatClampNeg (x3 + 1)))), .int ((xs (Int32.toNatClampNeg (x3 + 2))))] dL_law_399 lm_L_51 yX4_way_ok yX4_way_in h2 (by decide) rfl (sX4_way hK h2 (xs (Int32.toNatClampNeg (x3 + 1))) (xs (Int32.toNatClampNeg (x3 + 2))) s34) rfl rfl (Nat.le_of_ble_eq_true rfl) ⟨by decide, by decide⟩ (fun r35 s36 => ?_)
      refine q_icmp_eq (pc := 402) 749 dL_law_402 (by decide) ?_ ?_
      · refine q_iinc (pc := 749) 4 dL_law_749 rfl (by decide) (by decide) ?_
        refine q_goto (pc := 752) 18 dL_law_752 (by decide) ?_
        exact ih ((x3 + 4)) s36
      refine q_iconst (pc := 405) 0 dL_law_405 (by decide) ?_
      exact q_ireturn (pc := 406) dL_law_406
    refine q_sel (fun hx32_9 => ?_) (fun hx32_9 => ?_)
    · refine q_tabIn (pc := 32) 407 dL_law_32 (by rw [hx32_9]; decide) (by rw [hx32_9]; decide) (by rw [hx32_9]; rfl) (by decide) ?_
      refine q_aload_n (pc := 407) dL_law_407 rfl ?_
      refine q_aload_n (pc := 408) dL_law_408 rfl ?_
      refine q_iload_n (pc := 409) dL_law_409 rfl ?_
      refine q_iconst (pc := 410) 1 dL_law_410 (by decide) ?_
      refine q_iadd (pc := 411) dL_law_411 ?_
      refine q_sld (pc := 412) dL_law_412 ?_
      refine q_aload_n (pc := 413) dL_law_413 rfl ?_
      refine q_iload_n (pc := 414) dL_law_414 rfl ?_
      refine q_iconst (pc := 415) 2 dL_law_415 (by decide) ?_
      refine q_iadd (pc := 416) dL_law_416 ?_
      refine q_sld (pc := 417) dL_law_417 ?_
      refine q_aload_n (pc := 418) dL_law_418 rfl ?_
      refine q_iload_n (pc := 419) dL_law_419 rfl ?_
      refine q_iconst (pc := 420) 3 dL_law_420 (by decide) ?_
      refine q_iadd (pc := 421) dL_law_421 ?_
      refine q_sld (pc := 422) dL_law_422 ?_
      refine q_callVi (pc := 423) [.int ((xs (Int32.toNatClampNeg (x3 + 1)))), .int ((xs (Int32.toNatClampNeg (x3 + 2)))), .int ((xs (Int32.toNatClampNeg (x3 + 3))))] dL_law_423 lm_L_52 yX3_late_ok yX3_late_in h1 (by decide) rfl (sX3_late hK h1 (xs (Int32.toNatClampNeg (x3 + 1))) (xs (Int32.toNatClampNeg (x3 + 2))) (xs (Int32.toNatClampNeg (x3 + 3))) sg) rfl rfl (Nat.le_of_ble_eq_true rfl) ⟨by decide, by decide⟩ (fun r37 s38 => ?_)
      refine q_aload_n (pc := 426) dL_law_426 rfl ?_
      refine q_aload_n (pc := 427) dL_law_427 rfl ?_
      refine q_iload_n (pc := 428) dL_law_428 rfl ?_
      refine q_iconst (pc := 429) 1 dL_law_429 (by decide) ?_
      refine q_iadd (pc := 430) dL_law_430 ?_
      refine q_sld (pc := 431) dL_law_431 ?_
      refine q_aload_n (pc := 432) dL_law_432 rfl ?_
      refine q_iload_n (pc := 433) dL_law_433 rfl ?_
      refine q_iconst (pc := 434) 2 dL_law_434 (by decide) ?_
      refine q_iadd (pc := 435) dL_law_435 ?_
      refine q_sld (pc := 436) dL_law_436 ?_
      refine q_aload_n (pc := 437) dL_law_437 rfl ?_
      refine q_iload_n (pc := 438) dL_law_438 rfl ?_
      refine q_iconst (pc := 439) 3 dL_law_439 (by decide) ?_
      refine q_iadd (pc := 440) dL_law_440 ?_
      refine q_sld (pc := 441) dL_law_441 ?_
      refine q_callVi (pc := 442) [.int ((xs (Int32.toNatClampNeg (x3 + 1)))), .int ((xs (Int32.toNatClampNeg (x3 + 2)))), .int ((xs (Int32.toNatClampNeg (x3 + 3))))] dL_law_442 lm_L_55 yX4_late_ok yX4_late_in h2 (by decide) rfl (sX4_late hK h2 (xs (Int32.toNatClampNeg (x3 + 1))) (xs (Int32.toNatClampNeg (x3 + 2))) (xs (Int32.toNatClampNeg (x3 + 3))) s38) rfl rfl (Nat.le_of_ble_eq_true rfl) ⟨by decide, by decide⟩ (fun r39 s40 => ?_)
      refine q_icmp_eq (pc := 445) 749 dL_law_445 (by decide) ?_ ?_
      · refine q_iinc (pc := 749) 4 dL_law_749 rfl (by decide) (by decide) ?_
        refine q_goto (pc := 752) 18 dL_law_752 (by decide) ?_
        exact ih ((x3 + 4)) s40
      refine q_iconst (pc := 448) 0 dL_law_448 (by decide) ?_
      exact q_ireturn (pc := 449) dL_law_449
    refine q_sel (fun hx32_10 => ?_) (fun hx32_10 => ?_)
    · refine q_tabIn (pc := 32) 450 dL_law_32 (by rw [hx32_10]; decide) (by rw [hx32_10]; decide) (by rw [hx32_10]; rfl) (by decide) ?_
      refine q_aload_n (pc := 450) dL_law_450 rfl ?_
      refine q_aload_n (pc := 451) dL_law_451 rfl ?_
      refine q_iload_n (pc := 452) dL_law_452 rfl ?_
      refine q_iconst (pc := 453) 1 dL_law_453 (by decide) ?_
      refine q_iadd (pc := 454) dL_law_454 ?_
      refine q_sld (pc := 455) dL_law_455 ?_
      refine q_callVi (pc := 456) [.int ((xs (Int32.toNatClampNeg (x3 + 1))))] dL_law_456 lm_L_56 yX3_worst_ok yX3_worst_in h1 (by decide) rfl (sX3_worst hK h1 (xs (Int32.toNatClampNeg (x3 + 1))) sg) rfl rfl (Nat.le_of_ble_eq_true rfl) ⟨by decide, by decide⟩ (fun r41 s42 => ?_)
      refine q_aload_n (pc := 459) dL_law_459 rfl ?_
      refine q_aload_n (pc := 460) dL_law_460 rfl ?_
      refine q_iload_n (pc := 461) dL_law_461 rfl ?_
      refine q_iconst (pc := 462) 1 dL_law_462 (by decide) ?_
      refine q_iadd (pc := 463) dL_law_463 ?_
      refine q_sld (pc := 464) dL_law_464 ?_
      refine q_callVi (pc := 465) [.int ((xs (Int32.toNatClampNeg (x3 + 1))))] dL_law_465 lm_L_60 yX4_worst_ok yX4_worst_in h2 (by decide) rfl (sX4_worst hK h2 (xs (Int32.toNatClampNeg (x3 + 1))) s42) rfl rfl (Nat.le_of_ble_eq_true rfl) ⟨by decide, by decide⟩ (fun r43 s44 => ?_)
      refine q_icmp_eq (pc := 468) 749 dL_law_468 (by decide) ?_ ?_
      · refine q_iinc (pc := 749) 4 dL_law_749 rfl (by decide) (by decide) ?_
        refine q_goto (pc := 752) 18 dL_law_752 (by decide) ?_
        exact ih ((x3 + 4)) s44
      refine q_iconst (pc := 471) 0 dL_law_471 (by decide) ?_
      exact q_ireturn (pc := 472) dL_law_472
    refine q_sel (fun hx32_11 => ?_) (fun hx32_11 => ?_)
    · refine q_tabIn (pc := 32) 473 dL_law_32 (by rw [hx32_11]; decide) (by rw [hx32_11]; decide) (by rw [hx32_11]; rfl) (by decide) ?_
      refine q_aload_n (pc := 473) dL_law_473 rfl ?_
      refine q_callVi (pc := 474) [] dL_law_474 lm_L_61 yX3_mean_ok yX3_mean_in h1 (by decide) rfl (sX3_mean hK h1 sg) rfl rfl (Nat.le_of_ble_eq_true rfl) ⟨by decide, by decide⟩ (fun r45 s46 => ?_)
      refine q_aload_n (pc := 477) dL_law_477 rfl ?_
      refine q_callVi (pc := 478) [] dL_law_478 lm_L_64 yX4_mean_ok yX4_mean_in h2 (by decide) rfl (sX4_mean hK h2 s46) rfl rfl (Nat.le_of_ble_eq_true rfl) ⟨by decide, by decide⟩ (fun r47 s48 => ?_)
      refine q_icmp_eq (pc := 481) 749 dL_law_481 (by decide) ?_ ?_
      · refine q_iinc (pc := 749) 4 dL_law_749 rfl (by decide) (by decide) ?_
        refine q_goto (pc := 752) 18 dL_law_752 (by decide) ?_
        exact ih ((x3 + 4)) s48
      refine q_iconst (pc := 484) 0 dL_law_484 (by decide) ?_
      exact q_ireturn (pc := 485) dL_law_485
    refine q_sel (fun hx32_12 => ?_) (fun hx32_12 => ?_)
    · refine q_tabIn (pc := 32) 486 dL_law_32 (by rw [hx32_12]; decide) (by rw [hx32_12]; decide) (by rw [hx32_12]; rfl) (by decide) ?_
      refine q_aload_n (pc := 486) dL_law_486 rfl ?_
      refine q_aload_n (pc := 487) dL_law_487 rfl ?_
      refine q_iload_n (pc := 488) dL_law_488 rfl ?_
      refine q_iconst (pc := 489) 1 dL_law_489 (by decide) ?_
      refine q_iadd (pc := 490) dL_law_490 ?_
      refine q_sld (pc := 491) dL_law_491 ?_
      refine q_callVi (pc := 492) [.int ((xs (Int32.toNatClampNeg (x3 + 1))))] dL_law_492 lm_L_65 yX3_missed_ok yX3_missed_in h1 (by decide) rfl (sX3_missed hK h1 (xs (Int32.toNatClampNeg (x3 + 1))) sg) rfl rfl (Nat.le_of_ble_eq_true rfl) ⟨by decide, by decide⟩ (fun r49 s50 => ?_)
      refine q_aload_n (pc := 495) dL_law_495 rfl ?_
      refine q_aload_n (pc := 496) dL_law_496 rfl ?_
      refine q_iload_n (pc := 497) dL_law_497 rfl ?_
      refine q_iconst (pc := 498) 1 dL_law_498 (by decide) ?_
      refine q_iadd (pc := 499) dL_law_499 ?_
      refine q_sld (pc := 500) dL_law_500 ?_
      refine q_callVi (pc := 501) [.int ((xs (Int32.toNatClampNeg (x3 + 1))))] dL_law_501 lm_L_68 yX4_missed_ok yX4_missed_in h2 (by decide) rfl (sX4_missed hK h2 (xs (Int32.toNatClampNeg (x3 + 1))) s50) rfl rfl (Nat.le_of_ble_eq_true rfl) ⟨by decide, by decide⟩ (fun r51 s52 => ?_)
      refine q_icmp_eq (pc := 504) 749 dL_law_504 (by decide) ?_ ?_
      · refine q_iinc (pc := 749) 4 dL_law_749 rfl (by decide) (by decide) ?_
        refine q_goto (pc := 752) 18 dL_law_752 (by decide) ?_
        exact ih ((x3 + 4)) s52
      refine q_iconst (pc := 507) 0 dL_law_507 (by decide) ?_
      exact q_ireturn (pc := 508) dL_law_508
    refine q_sel (fun hx32_13 => ?_) (fun hx32_13 => ?_)
    · refine q_tabIn (pc := 32) 509 dL_law_32 (by rw [hx32_13]; decide) (by rw [hx32_13]; decide) (by rw [hx32_13]; rfl) (by decide) ?_
      refine q_aload_n (pc := 509) dL_law_509 rfl ?_
      refine q_aload_n (pc := 510) dL_law_510 rfl ?_
      refine q_iload_n (pc := 511) dL_law_511 rfl ?_
      refine q_iconst (pc := 512) 1 dL_law_512 (by decide) ?_
      refine q_iadd (pc := 513) dL_law_513 ?_
      refine q_sld (pc := 514) dL_law_514 ?_
      refine q_callVi (pc := 515) [.int ((xs (Int32.toNatClampNeg (x3 + 1))))] dL_law_515 lm_L_69 yX3_finds_ok yX3_finds_in h1 (by decide) rfl (sX3_finds hK h1 (xs (Int32.toNatClampNeg (x3 + 1))) sg) rfl rfl (Nat.le_of_ble_eq_true rfl) ⟨by decide, by decide⟩ (fun r53 s54 => ?_)
      refine q_aload_n (pc := 518) dL_law_518 rfl ?_
      refine q_aload_n (pc := 519) dL_law_519 rfl ?_
      refine q_iload_n (pc := 520) dL_law_520 rfl ?_
      refine q_iconst (pc := 521) 1 dL_law_521 (by decide) ?_
      refine q_iadd (pc := 522) dL_law_522 ?_
      refine q_sld (pc := 523) dL_law_523 ?_
      refine q_callVi (pc := 524) [.int ((xs (Int32.toNatClampNeg (x3 + 1))))] dL_law_524 lm_L_72 yX4_finds_ok yX4_finds_in h2 (by decide) rfl (sX4_finds hK h2 (xs (Int32.toNatClampNeg (x3 + 1))) s54) rfl rfl (Nat.le_of_ble_eq_true rfl) ⟨by decide, by decide⟩ (fun r55 s56 => ?_)
      refine q_icmp_eq (pc := 527) 749 dL_law_527 (by decide) ?_ ?_
      · refine q_iinc (pc := 749) 4 dL_law_749 rfl (by decide) (by decide) ?_
        refine q_goto (pc := 752) 18 dL_law_752 (by decide) ?_
        exact ih ((x3 + 4)) s56
      refine q_iconst (pc := 530) 0 dL_law_530 (by decide) ?_
      exact q_ireturn (pc := 531) dL_law_531
    refine q_sel (fun hx32_14 => ?_) (fun hx32_14 => ?_)
    · refine q_tabIn (pc := 32) 532 dL_law_32 (by rw [hx32_14]; decide) (by rw [hx32_14]; decide) (by rw [hx32_14]; rfl) (by decide) ?_
      refine q_aload_n (pc := 532) dL_law_532 rfl ?_
      refine q_callVi (pc := 533) [] dL_law_533 lm_L_73 yX3_leastMean_ok yX3_leastMean_in h1 (by decide) rfl (sX3_leastMean hK h1 sg) rfl rfl (Nat.le_of_ble_eq_true rfl) ⟨by decide, by decide⟩ (fun r57 s58 => ?_)
      refine q_aload_n (pc := 536) dL_law_536 rfl ?_
      refine q_callVi (pc := 537) [] dL_law_537 lm_L_76 yX4_leastMean_ok yX4_leastMean_in h2 (by decide) rfl (sX4_leastMean hK h2 s58) rfl rfl (Nat.le_of_ble_eq_true rfl) ⟨by decide, by decide⟩ (fun r59 s60 => ?_)
      refine q_icmp_eq (pc := 540) 749 dL_law_540 (by decide) ?_ ?_
      · refine q_iinc (pc := 749) 4 dL_law_749 rfl (by decide) (by decide) ?_
        refine q_goto (pc := 752) 18 dL_law_752 (by decide) ?_
        exact ih ((x3 + 4)) s60
      refine q_iconst (pc := 543) 0 dL_law_543 (by decide) ?_
      exact q_ireturn (pc := 544) dL_law_544
    refine q_sel (fun hx32_15 => ?_) (fun hx32_15 => ?_)
    · refine q_tabIn (pc := 32) 545 dL_law_32 (by rw [hx32_15]; decide) (by rw [hx32_15]; decide) (by rw [hx32_15]; rfl) (by decide) ?_
      refine q_aload_n (pc := 545) dL_law_545 rfl ?_
      refine q_aload_n (pc := 546) dL_law_546 rfl ?_
      refine q_iload_n (pc := 547) dL_law_547 rfl ?_
      refine q_iconst (pc := 548) 1 dL_law_548 (by decide) ?_
      refine q_iadd (pc := 549) dL_law_549 ?_
      refine q_sld (pc := 550) dL_law_550 ?_
      refine q_callVi (pc := 551) [.int ((xs (Int32.toNatClampNeg (x3 + 1))))] dL_law_551 lm_L_77 yX3_meanTrip_ok yX3_meanTrip_in h1 (by decide) rfl (sX3_meanTrip hK h1 (xs (Int32.toNatClampNeg (x3 + 1))) sg) rfl rfl (Nat.le_of_ble_eq_true rfl) ⟨by decide, by decide⟩ (fun r61 s62 => ?_)
      refine q_aload_n (pc := 554) dL_law_554 rfl ?_
      refine q_aload_n (pc := 555) dL_law_555 rfl ?_
      refine q_iload_n (pc := 556) dL_law_556 rfl ?_
      refine q_iconst (pc := 557) 1 dL_law_557 (by decide) ?_
      refine q_iadd (pc := 558) dL_law_558 ?_
      refine q_sld (pc := 559) dL_law_559 ?_
      refine q_callVi (pc := 560) [.int ((xs (Int32.toNatClampNeg (x3 + 1))))] dL_law_560 lm_L_80 yX4_meanTrip_ok yX4_meanTrip_in h2 (by decide) rfl (sX4_meanTrip hK h2 (xs (Int32.toNatClampNeg (x3 + 1))) s62) rfl rfl (Nat.le_of_ble_eq_true rfl) ⟨by decide, by decide⟩ (fun r63 s64 => ?_)
      refine q_icmp_eq (pc := 563) 749 dL_law_563 (by decide) ?_ ?_
      · refine q_iinc (pc := 749) 4 dL_law_749 rfl (by decide) (by decide) ?_
        refine q_goto (pc := 752) 18 dL_law_752 (by decide) ?_
        exact ih ((x3 + 4)) s64
      refine q_iconst (pc := 566) 0 dL_law_566 (by decide) ?_
      exact q_ireturn (pc := 567) dL_law_567
    refine q_sel (fun hx32_16 => ?_) (fun hx32_16 => ?_)
    · refine q_tabIn (pc := 32) 568 dL_law_32 (by rw [hx32_16]; decide) (by rw [hx32_16]; decide) (by rw [hx32_16]; rfl) (by decide) ?_
      refine q_aload_n (pc := 568) dL_law_568 rfl ?_
      refine q_aload_n (pc := 569) dL_law_569 rfl ?_
      refine q_iload_n (pc := 570) dL_law_570 rfl ?_
      refine q_iconst (pc := 571) 1 dL_law_571 (by decide) ?_
      refine q_iadd (pc := 572) dL_law_572 ?_
      refine q_sld (pc := 573) dL_law_573 ?_
      refine q_callVi (pc := 574) [.int ((xs (Int32.toNatClampNeg (x3 + 1))))] dL_law_574 lm_L_81 yX3_leastWorst_ok yX3_leastWorst_in h1 (by decide) rfl (sX3_leastWorst hK h1 (xs (Int32.toNatClampNeg (x3 + 1))) sg) rfl rfl (Nat.le_of_ble_eq_true rfl) ⟨by decide, by decide⟩ (fun r65 s66 => ?_)
      refine q_aload_n (pc := 577) dL_law_577 rfl ?_
      refine q_aload_n (pc := 578) dL_law_578 rfl ?_
      refine q_iload_n (pc := 579) dL_law_579 rfl ?_
      refine q_iconst (pc := 580) 1 dL_law_580 (by decide) ?_
      refine q_iadd (pc := 581) dL_law_581 ?_
      refine q_sld (pc := 582) dL_law_582 ?_
      refine q_callVi (pc := 583) [.int ((xs (Int32.toNatClampNeg (x3 + 1))))] dL_law_583 lm_L_84 yX4_leastWorst_ok yX4_leastWorst_in h2 (by decide) rfl (sX4_leastWorst hK h2 (xs (Int32.toNatClampNeg (x3 + 1))) s66) rfl rfl (Nat.le_of_ble_eq_true rfl) ⟨by decide, by decide⟩ (fun r67 s68 => ?_)
      refine q_icmp_eq (pc := 586) 749 dL_law_586 (by decide) ?_ ?_
      · refine q_iinc (pc := 749) 4 dL_law_749 rfl (by decide) (by decide) ?_
        refine q_goto (pc := 752) 18 dL_law_752 (by decide) ?_
        exact ih ((x3 + 4)) s68
      refine q_iconst (pc := 589) 0 dL_law_589 (by decide) ?_
      exact q_ireturn (pc := 590) dL_law_590
    refine q_sel (fun hx32_17 => ?_) (fun hx32_17 => ?_)
    · refine q_tabIn (pc := 32) 591 dL_law_32 (by rw [hx32_17]; decide) (by rw [hx32_17]; decide) (by rw [hx32_17]; rfl) (by decide) ?_
      refine q_aload_n (pc := 591) dL_law_591 rfl ?_
      refine q_aload_n (pc := 592) dL_law_592 rfl ?_
      refine q_iload_n (pc := 593) dL_law_593 rfl ?_
      refine q_iconst (pc := 594) 1 dL_law_594 (by decide) ?_
      refine q_iadd (pc := 595) dL_law_595 ?_
      refine q_sld (pc := 596) dL_law_596 ?_
      refine q_callVi (pc := 597) [.int ((xs (Int32.toNatClampNeg (x3 + 1))))] dL_law_597 lm_L_85 yX3_worstTrip_ok yX3_worstTrip_in h1 (by decide) rfl (sX3_worstTrip hK h1 (xs (Int32.toNatClampNeg (x3 + 1))) sg) rfl rfl (Nat.le_of_ble_eq_true rfl) ⟨by decide, by decide⟩ (fun r69 s70 => ?_)
      refine q_aload_n (pc := 600) dL_law_600 rfl ?_
      refine q_aload_n (pc := 601) dL_law_601 rfl ?_
      refine q_iload_n (pc := 602) dL_law_602 rfl ?_
      refine q_iconst (pc := 603) 1 dL_law_603 (by decide) ?_
      refine q_iadd (pc := 604) dL_law_604 ?_
      refine q_sld (pc := 605) dL_law_605 ?_
      refine q_callVi (pc := 606) [.int ((xs (Int32.toNatClampNeg (x3 + 1))))] dL_law_606 lm_L_88 yX4_worstTrip_ok yX4_worstTrip_in h2 (by decide) rfl (sX4_worstTrip hK h2 (xs (Int32.toNatClampNeg (x3 + 1))) s70) rfl rfl (Nat.le_of_ble_eq_true rfl) ⟨by decide, by decide⟩ (fun r71 s72 => ?_)
      refine q_icmp_eq (pc := 609) 749 dL_law_609 (by decide) ?_ ?_
      · refine q_iinc (pc := 749) 4 dL_law_749 rfl (by decide) (by decide) ?_
        refine q_goto (pc := 752) 18 dL_law_752 (by decide) ?_
        exact ih ((x3 + 4)) s72
      refine q_iconst (pc := 612) 0 dL_law_612 (by decide) ?_
      exact q_ireturn (pc := 613) dL_law_613
    refine q_sel (fun hx32_18 => ?_) (fun hx32_18 => ?_)
    · refine q_tabIn (pc := 32) 614 dL_law_32 (by rw [hx32_18]; decide) (by rw [hx32_18]; decide) (by rw [hx32_18]; rfl) (by decide) ?_
      refine q_aload_n (pc := 614) dL_law_614 rfl ?_
      refine q_aload_n (pc := 615) dL_law_615 rfl ?_
      refine q_iload_n (pc := 616) dL_law_616 rfl ?_
      refine q_iconst (pc := 617) 1 dL_law_617 (by decide) ?_
      refine q_iadd (pc := 618) dL_law_618 ?_
      refine q_sld (pc := 619) dL_law_619 ?_
      refine q_aload_n (pc := 620) dL_law_620 rfl ?_
      refine q_iload_n (pc := 621) dL_law_621 rfl ?_
      refine q_iconst (pc := 622) 2 dL_law_622 (by decide) ?_
      refine q_iadd (pc := 623) dL_law_623 ?_
      refine q_sld (pc := 624) dL_law_624 ?_
      refine q_callVi (pc := 625) [.int ((xs (Int32.toNatClampNeg (x3 + 1)))), .int ((xs (Int32.toNatClampNeg (x3 + 2))))] dL_law_625 lm_L_89 yX3_within_ok yX3_within_in h1 (by decide) rfl (sX3_within hK h1 (xs (Int32.toNatClampNeg (x3 + 1))) (xs (Int32.toNatClampNeg (x3 + 2))) sg) rfl rfl (Nat.le_of_ble_eq_true rfl) ⟨by decide, by decide⟩ (fun r73 s74 => ?_)
      refine q_aload_n (pc := 628) dL_law_628 rfl ?_
      refine q_aload_n (pc := 629) dL_law_629 rfl ?_
      refine q_iload_n (pc := 630) dL_law_630 rfl ?_
      refine q_iconst (pc := 631) 1 dL_law_631 (by decide) ?_
      refine q_iadd (pc := 632) dL_law_632 ?_
      refine q_sld (pc := 633) dL_law_633 ?_
      refine q_aload_n (pc := 634) dL_law_634 rfl ?_
      refine q_iload_n (pc := 635) dL_law_635 rfl ?_
      refine q_iconst (pc := 636) 2 dL_law_636 (by decide) ?_
      refine q_iadd (pc := 637) dL_law_637 ?_
      refine q_sld (pc := 638) dL_law_638 ?_
      refine q_callVi (pc := 639) [.int ((xs (Int32.toNatClampNeg (x3 + 1)))), .int ((xs (Int32.toNatClampNeg (x3 + 2))))] dL_law_639 lm_L_92 yX4_within_ok yX4_within_in h2 (by decide) rfl (sX4_within hK h2 (xs (Int32.toNatClampNeg (x3 + 1))) (xs (Int32.toNatClampNeg (x3 + 2))) s74) rfl rfl (Nat.le_of_ble_eq_true rfl) ⟨by decide, by decide⟩ (fun r75 s76 => ?_)
      refine q_icmp_eq (pc := 642) 749 dL_law_642 (by decide) ?_ ?_
      · refine q_iinc (pc := 749) 4 dL_law_749 rfl (by decide) (by decide) ?_
        refine q_goto (pc := 752) 18 dL_law_752 (by decide) ?_
        exact ih ((x3 + 4)) s76
      refine q_iconst (pc := 645) 0 dL_law_645 (by decide) ?_
      exact q_ireturn (pc := 646) dL_law_646
    refine q_sel (fun hx32_19 => ?_) (fun hx32_19 => ?_)
    · refine q_tabIn (pc := 32) 647 dL_law_32 (by rw [hx32_19]; decide) (by rw [hx32_19]; decide) (by rw [hx32_19]; rfl) (by decide) ?_
      refine q_aload_n (pc := 647) dL_law_647 rfl ?_
      refine q_aload_n (pc := 648) dL_law_648 rfl ?_
      refine q_iload_n (pc := 649) dL_law_649 rfl ?_
      refine q_iconst (pc := 650) 1 dL_law_650 (by decide) ?_
      refine q_iadd (pc := 651) dL_law_651 ?_
      refine q_sld (pc := 652) dL_law_652 ?_
      refine q_callVi (pc := 653) [.int ((xs (Int32.toNatClampNeg (x3 + 1))))] dL_law_653 lm_L_93 yX3_take_ok yX3_take_in h1 (by decide) rfl (sX3_take hK h1 (xs (Int32.toNatClampNeg (x3 + 1))) sg) rfl rfl (Nat.le_of_ble_eq_true rfl) ⟨by decide, by decide⟩ (fun r77 s78 => ?_)
      refine q_aload_n (pc := 656) dL_law_656 rfl ?_
      refine q_aload_n (pc := 657) dL_law_657 rfl ?_
      refine q_iload_n (pc := 658) dL_law_658 rfl ?_
      refine q_iconst (pc := 659) 1 dL_law_659 (by decide) ?_
      refine q_iadd (pc := 660) dL_law_660 ?_
      refine q_sld (pc := 661) dL_law_661 ?_
      refine q_callVi (pc := 662) [.int ((xs (Int32.toNatClampNeg (x3 + 1))))] dL_law_662 lm_L_96 yX4_take_ok yX4_take_in h2 (by decide) rfl (sX4_take hK h2 (xs (Int32.toNatClampNeg (x3 + 1))) s78) rfl rfl (Nat.le_of_ble_eq_true rfl) ⟨by decide, by decide⟩ (fun r79 s80 => ?_)
      refine q_icmp_eq (pc := 665) 749 dL_law_665 (by decide) ?_ ?_
      · refine q_iinc (pc := 749) 4 dL_law_749 rfl (by decide) (by decide) ?_
        refine q_goto (pc := 752) 18 dL_law_752 (by decide) ?_
        exact ih ((x3 + 4)) s80
      refine q_iconst (pc := 668) 0 dL_law_668 (by decide) ?_
      exact q_ireturn (pc := 669) dL_law_669
    refine q_sel (fun hx32_20 => ?_) (fun hx32_20 => ?_)
    · refine q_tabIn (pc := 32) 670 dL_law_32 (by rw [hx32_20]; decide) (by rw [hx32_20]; decide) (by rw [hx32_20]; rfl) (by decide) ?_
      refine q_aload_n (pc := 670) dL_law_670 rfl ?_
      refine q_aload_n (pc := 671) dL_law_671 rfl ?_
      refine q_iload_n (pc := 672) dL_law_672 rfl ?_
      refine q_iconst (pc := 673) 1 dL_law_673 (by decide) ?_
      refine q_iadd (pc := 674) dL_law_674 ?_
      refine q_sld (pc := 675) dL_law_675 ?_
      refine q_aload_n (pc := 676) dL_law_676 rfl ?_
      refine q_iload_n (pc := 677) dL_law_677 rfl ?_
      refine q_iconst (pc := 678) 2 dL_law_678 (by decide) ?_
      refine q_iadd (pc := 679) dL_law_679 ?_
      refine q_sld (pc := 680) dL_law_680 ?_
      refine q_aload_n (pc := 681) dL_law_681 rfl ?_
      refine q_iload_n (pc := 682) dL_law_682 rfl ?_
      refine q_iconst (pc := 683) 3 dL_law_683 (by decide) ?_
      refine q_iadd (pc := 684) dL_law_684 ?_
      refine q_sld (pc := 685) dL_law_685 ?_
      refine q_callVi (pc := 686) [.int ((xs (Int32.toNatClampNeg (x3 + 1)))), .int ((xs (Int32.toNatClampNeg (x3 + 2)))), .int ((xs (Int32.toNatClampNeg (x3 + 3))))] dL_law_686 lm_L_97 yX3_both_ok yX3_both_in h1 (by decide) rfl (sX3_both hK h1 (xs (Int32.toNatClampNeg (x3 + 1))) (xs (Int32.toNatClampNeg (x3 + 2))) (xs (Int32.toNatClampNeg (x3 + 3))) sg) rfl rfl (Nat.le_of_ble_eq_true rfl) ⟨by decide, by decide⟩ (fun r81 s82 => ?_)
      refine q_aload_n (pc := 689) dL_law_689 rfl ?_
      refine q_aload_n (pc := 690) dL_law_690 rfl ?_
      refine q_iload_n (pc := 691) dL_law_691 rfl ?_
      refine q_iconst (pc := 692) 1 dL_law_692 (by decide) ?_
      refine q_iadd (pc := 693) dL_law_693 ?_
      refine q_sld (pc := 694) dL_law_694 ?_
      refine q_aload_n (pc := 695) dL_law_695 rfl ?_
      refine q_iload_n (pc := 696) dL_law_696 rfl ?_
      refine q_iconst (pc := 697) 2 dL_law_697 (by decide) ?_
      refine q_iadd (pc := 698) dL_law_698 ?_
      refine q_sld (pc := 699) dL_law_699 ?_
      refine q_aload_n (pc := 700) dL_law_700 rfl ?_
      refine q_iload_n (pc := 701) dL_law_701 rfl ?_
      refine q_iconst (pc := 702) 3 dL_law_702 (by decide) ?_
      refine q_iadd (pc := 703) dL_law_703 ?_
      refine q_sld (pc := 704) dL_law_704 ?_
      refine q_callVi (pc := 705) [.int ((xs (Int32.toNatClampNeg (x3 + 1)))), .int ((xs (Int32.toNatClampNeg (x3 + 2)))), .int ((xs (Int32.toNatClampNeg (x3 + 3))))] dL_law_705 lm_L_100 yX4_both_ok yX4_both_in h2 (by decide) rfl (sX4_both hK h2 (xs (Int32.toNatClampNeg (x3 + 1))) (xs (Int32.toNatClampNeg (x3 + 2))) (xs (Int32.toNatClampNeg (x3 + 3))) s82) rfl rfl (Nat.le_of_ble_eq_true rfl) ⟨by decide, by decide⟩ (fun r83 s84 => ?_)
      refine q_icmp_eq (pc := 708) 749 dL_law_708 (by decide) ?_ ?_
      · refine q_iinc (pc := 749) 4 dL_law_749 rfl (by decide) (by decide) ?_
        refine q_goto (pc := 752) 18 dL_law_752 (by decide) ?_
        exact ih ((x3 + 4)) s84
      refine q_iconst (pc := 711) 0 dL_law_711 (by decide) ?_
      exact q_ireturn (pc := 712) dL_law_712
    refine q_sel (fun hx32_21 => ?_) (fun hx32_21 => ?_)
    · refine q_tabIn (pc := 32) 713 dL_law_32 (by rw [hx32_21]; decide) (by rw [hx32_21]; decide) (by rw [hx32_21]; rfl) (by decide) ?_
      refine q_aload_n (pc := 713) dL_law_713 rfl ?_
      refine q_callVi (pc := 714) [] dL_law_714 lm_L_101 yX3_end_ok yX3_end_in h1 (by decide) rfl (sX3_end hK h1 sg) rfl rfl (Nat.le_of_ble_eq_true rfl) ⟨by decide, by decide⟩ (fun r85 s86 => ?_)
      refine q_aload_n (pc := 717) dL_law_717 rfl ?_
      refine q_callVi (pc := 718) [] dL_law_718 lm_L_104 yX4_end_ok yX4_end_in h2 (by decide) rfl (sX4_end hK h2 s86) rfl rfl (Nat.le_of_ble_eq_true rfl) ⟨by decide, by decide⟩ (fun r87 s88 => ?_)
      refine q_icmp_eq (pc := 721) 749 dL_law_721 (by decide) ?_ ?_
      · refine q_iinc (pc := 749) 4 dL_law_749 rfl (by decide) (by decide) ?_
        refine q_goto (pc := 752) 18 dL_law_752 (by decide) ?_
        exact ih ((x3 + 4)) s88
      refine q_iconst (pc := 724) 0 dL_law_724 (by decide) ?_
      exact q_ireturn (pc := 725) dL_law_725
    refine q_sel (fun hx32_22 => ?_) (fun hx32_22 => ?_)
    · refine q_tabIn (pc := 32) 726 dL_law_32 (by rw [hx32_22]; decide) (by rw [hx32_22]; decide) (by rw [hx32_22]; rfl) (by decide) ?_
      refine q_aload_n (pc := 726) dL_law_726 rfl ?_
      refine q_aload_n (pc := 727) dL_law_727 rfl ?_
      refine q_iload_n (pc := 728) dL_law_728 rfl ?_
      refine q_iconst (pc := 729) 1 dL_law_729 (by decide) ?_
      refine q_iadd (pc := 730) dL_law_730 ?_
      refine q_sld (pc := 731) dL_law_731 ?_
      refine q_callVi (pc := 732) [.int ((xs (Int32.toNatClampNeg (x3 + 1))))] dL_law_732 lm_L_105 yX3_told_ok yX3_told_in h1 (by decide) rfl (sX3_told hK h1 (xs (Int32.toNatClampNeg (x3 + 1))) sg) rfl rfl (Nat.le_of_ble_eq_true rfl) ⟨by decide, by decide⟩ (fun r89 s90 => ?_)
      refine q_aload_n (pc := 735) dL_law_735 rfl ?_
      refine q_aload_n (pc := 736) dL_law_736 rfl ?_
      refine q_iload_n (pc := 737) dL_law_737 rfl ?_
      refine q_iconst (pc := 738) 1 dL_law_738 (by decide) ?_
      refine q_iadd (pc := 739) dL_law_739 ?_
      refine q_sld (pc := 740) dL_law_740 ?_
      refine q_callVi (pc := 741) [.int ((xs (Int32.toNatClampNeg (x3 + 1))))] dL_law_741 lm_L_108 yX4_told_ok yX4_told_in h2 (by decide) rfl (sX4_told hK h2 (xs (Int32.toNatClampNeg (x3 + 1))) s90) rfl rfl (Nat.le_of_ble_eq_true rfl) ⟨by decide, by decide⟩ (fun r91 s92 => ?_)
      refine q_icmp_eq (pc := 744) 749 dL_law_744 (by decide) ?_ ?_
      · refine q_iinc (pc := 749) 4 dL_law_749 rfl (by decide) (by decide) ?_
        refine q_goto (pc := 752) 18 dL_law_752 (by decide) ?_
        exact ih ((x3 + 4)) s92
      refine q_iconst (pc := 747) 0 dL_law_747 (by decide) ?_
      exact q_ireturn (pc := 748) dL_law_748
    refine q_tabOut (pc := 32) 749 dL_law_32 (by have := qne 0 0 (by decide) hx32_0; have := qne 1 1 (by decide) hx32_1; have := qne 2 2 (by decide) hx32_2; have := qne 3 3 (by decide) hx32_3; have := qne 4 4 (by decide) hx32_4; have := qne 5 5 (by decide) hx32_5; have := qne 6 6 (by decide) hx32_6; have := qne 7 7 (by decide) hx32_7; have := qne 8 8 (by decide) hx32_8; have := qne 9 9 (by decide) hx32_9; have := qne 10 10 (by decide) hx32_10; have := qne 11 11 (by decide) hx32_11; have := qne 12 12 (by decide) hx32_12; have := qne 13 13 (by decide) hx32_13; have := qne 14 14 (by decide) hx32_14; have := qne 15 15 (by decide) hx32_15; have := qne 16 16 (by decide) hx32_16; have := qne 17 17 (by decide) hx32_17; have := qne 18 18 (by decide) hx32_18; have := qne 19 19 (by decide) hx32_19; have := qne 20 20 (by decide) hx32_20; have := qne 21 21 (by decide) hx32_21; have := qne 22 22 (by decide) hx32_22; omega) (by decide) ?_
    refine q_iinc (pc := 749) 4 dL_law_749 rfl (by decide) (by decide) ?_
    refine q_goto (pc := 752) 18 dL_law_752 (by decide) ?_
    exact ih ((x3 + 4)) sg
