section
-- ===== PART A: goes FIRST, ahead of the names: the tables' words, and 'selects' of the private methods out of them =====
/-- a private method of a class that the tables say can be made, by its rows of tables_1 -/
def lw_okq (q : MethodName × Nat) : Prop := (q.1.cls ≠ "java/lang/invoke/MethodHandle" ∧ q.1.cls ≠ "java/lang/invoke/VarHandle") ∧ Cond.instantiable q.1.cls q.2 ∈ tables_1 ∧ Cond.privateMethod q.1 ∈ tables_1 ∧ Cond.instanceMethod q.1 ∈ tables_1
theorem lw_p0 : lw_okq (⟨"LineSearch", "wholeTrips", "(I)I"⟩, 11) := ⟨⟨by decide +kernel, by decide +kernel⟩, List.mem_of_getElem? (i := 8) (by decide +kernel), List.mem_of_getElem? (i := 205) (by decide +kernel), List.mem_of_getElem? (i := 206) (by decide +kernel)⟩
theorem lw_p1 : lw_okq (⟨"LineSearch", "wayTo", "(II)I"⟩, 11) := ⟨⟨by decide +kernel, by decide +kernel⟩, List.mem_of_getElem? (i := 8) (by decide +kernel), List.mem_of_getElem? (i := 225) (by decide +kernel), List.mem_of_getElem? (i := 226) (by decide +kernel)⟩
theorem lw_p2 : lw_okq (⟨"LineSearch", "countMissed", "()I"⟩, 11) := ⟨⟨by decide +kernel, by decide +kernel⟩, List.mem_of_getElem? (i := 8) (by decide +kernel), List.mem_of_getElem? (i := 248) (by decide +kernel), List.mem_of_getElem? (i := 249) (by decide +kernel)⟩
theorem lw_p3 : lw_okq (⟨"LineSearch", "worstPlace", "()I"⟩, 11) := ⟨⟨by decide +kernel, by decide +kernel⟩, List.mem_of_getElem? (i := 8) (by decide +kernel), List.mem_of_getElem? (i := 259) (by decide +kernel), List.mem_of_getElem? (i := 260) (by decide +kernel)⟩
theorem lw_p4 : lw_okq (⟨"LineSearch", "findMean", "()V"⟩, 11) := ⟨⟨by decide +kernel, by decide +kernel⟩, List.mem_of_getElem? (i := 8) (by decide +kernel), List.mem_of_getElem? (i := 279) (by decide +kernel), List.mem_of_getElem? (i := 280) (by decide +kernel)⟩
theorem lw_p5 : lw_okq (⟨"LineSearch$Outlook", "sweep", "()V"⟩, 8) := ⟨⟨by decide +kernel, by decide +kernel⟩, List.mem_of_getElem? (i := 61) (by decide +kernel), List.mem_of_getElem? (i := 291) (by decide +kernel), List.mem_of_getElem? (i := 292) (by decide +kernel)⟩
theorem lw_p6 : lw_okq (⟨"LineSearch$Outlook", "lengthOf", "(I)I"⟩, 8) := ⟨⟨by decide +kernel, by decide +kernel⟩, List.mem_of_getElem? (i := 61) (by decide +kernel), List.mem_of_getElem? (i := 295) (by decide +kernel), List.mem_of_getElem? (i := 296) (by decide +kernel)⟩
theorem lw_p7 : lw_okq (⟨"LineSearch$Outlook", "settle", "(III)V"⟩, 8) := ⟨⟨by decide +kernel, by decide +kernel⟩, List.mem_of_getElem? (i := 61) (by decide +kernel), List.mem_of_getElem? (i := 299) (by decide +kernel), List.mem_of_getElem? (i := 300) (by decide +kernel)⟩
theorem lw_p8 : lw_okq (⟨"LineSearch$Outlook", "through", "(III)I"⟩, 8) := ⟨⟨by decide +kernel, by decide +kernel⟩, List.mem_of_getElem? (i := 61) (by decide +kernel), List.mem_of_getElem? (i := 303) (by decide +kernel), List.mem_of_getElem? (i := 304) (by decide +kernel)⟩
theorem lw_p9 : lw_okq (⟨"LineSearch$Outlook", "offer", "(IIII)V"⟩, 8) := ⟨⟨by decide +kernel, by decide +kernel⟩, List.mem_of_getElem? (i := 61) (by decide +kernel), List.mem_of_getElem? (i := 313) (by decide +kernel), List.mem_of_getElem? (i := 314) (by decide +kernel)⟩
theorem lw_p10 : lw_okq (⟨"LineSearch$Outlook", "write", "(ILLineSearch$Plan;)V"⟩, 8) := ⟨⟨by decide +kernel, by decide +kernel⟩, List.mem_of_getElem? (i := 61) (by decide +kernel), List.mem_of_getElem? (i := 317) (by decide +kernel), List.mem_of_getElem? (i := 318) (by decide +kernel)⟩
theorem lw_p11 : lw_okq (⟨"LineSearch$Outlook", "firstTrip", "(I)I"⟩, 8) := ⟨⟨by decide +kernel, by decide +kernel⟩, List.mem_of_getElem? (i := 61) (by decide +kernel), List.mem_of_getElem? (i := 322) (by decide +kernel), List.mem_of_getElem? (i := 323) (by decide +kernel)⟩
theorem lw_p12 : lw_okq (⟨"LineSearch$Outlook", "costOf", "(II)I"⟩, 8) := ⟨⟨by decide +kernel, by decide +kernel⟩, List.mem_of_getElem? (i := 61) (by decide +kernel), List.mem_of_getElem? (i := 326) (by decide +kernel), List.mem_of_getElem? (i := 327) (by decide +kernel)⟩
theorem lw_p13 : lw_okq (⟨"LineSearch$Outlook", "stateAfter", "(II)I"⟩, 8) := ⟨⟨by decide +kernel, by decide +kernel⟩, List.mem_of_getElem? (i := 61) (by decide +kernel), List.mem_of_getElem? (i := 330) (by decide +kernel), List.mem_of_getElem? (i := 331) (by decide +kernel)⟩
theorem lw_p14 : lw_okq (⟨"LineSearch", "findWorst", "()V"⟩, 11) := ⟨⟨by decide +kernel, by decide +kernel⟩, List.mem_of_getElem? (i := 8) (by decide +kernel), List.mem_of_getElem? (i := 351) (by decide +kernel), List.mem_of_getElem? (i := 352) (by decide +kernel)⟩
theorem lw_p15 : lw_okq (⟨"LineSearch$Outlook", "capBy", "(I)V"⟩, 8) := ⟨⟨by decide +kernel, by decide +kernel⟩, List.mem_of_getElem? (i := 61) (by decide +kernel), List.mem_of_getElem? (i := 359) (by decide +kernel), List.mem_of_getElem? (i := 360) (by decide +kernel)⟩
def lw_privs_1 : List (MethodName × Nat) := [(⟨"LineSearch", "wholeTrips", "(I)I"⟩, 11), (⟨"LineSearch", "wayTo", "(II)I"⟩, 11), (⟨"LineSearch", "countMissed", "()I"⟩, 11), (⟨"LineSearch", "worstPlace", "()I"⟩, 11), (⟨"LineSearch", "findMean", "()V"⟩, 11), (⟨"LineSearch$Outlook", "sweep", "()V"⟩, 8), (⟨"LineSearch$Outlook", "lengthOf", "(I)I"⟩, 8), (⟨"LineSearch$Outlook", "settle", "(III)V"⟩, 8), (⟨"LineSearch$Outlook", "through", "(III)I"⟩, 8), (⟨"LineSearch$Outlook", "offer", "(IIII)V"⟩, 8), (⟨"LineSearch$Outlook", "write", "(ILLineSearch$Plan;)V"⟩, 8), (⟨"LineSearch$Outlook", "firstTrip", "(I)I"⟩, 8), (⟨"LineSearch$Outlook", "costOf", "(II)I"⟩, 8), (⟨"LineSearch$Outlook", "stateAfter", "(II)I"⟩, 8), (⟨"LineSearch", "findWorst", "()V"⟩, 11), (⟨"LineSearch$Outlook", "capBy", "(I)V"⟩, 8)]
theorem lw_r1 : ∀ q ∈ lw_privs_1, lw_okq q := List.forall_mem_cons.mpr ⟨lw_p0, List.forall_mem_cons.mpr ⟨lw_p1, List.forall_mem_cons.mpr ⟨lw_p2, List.forall_mem_cons.mpr ⟨lw_p3, List.forall_mem_cons.mpr ⟨lw_p4, List.forall_mem_cons.mpr ⟨lw_p5, List.forall_mem_cons.mpr ⟨lw_p6, List.forall_mem_cons.mpr ⟨lw_p7, List.forall_mem_cons.mpr ⟨lw_p8, List.forall_mem_cons.mpr ⟨lw_p9, List.forall_mem_cons.mpr ⟨lw_p10, List.forall_mem_cons.mpr ⟨lw_p11, List.forall_mem_cons.mpr ⟨lw_p12, List.forall_mem_cons.mpr ⟨lw_p13, List.forall_mem_cons.mpr ⟨lw_p14, List.forall_mem_cons.mpr ⟨lw_p15, fun _ h => absurd h List.not_mem_nil⟩⟩⟩⟩⟩⟩⟩⟩⟩⟩⟩⟩⟩⟩⟩⟩
theorem lw_p16 : lw_okq (⟨"LineSearch", "worstUpper", "()I"⟩, 11) := ⟨⟨by decide +kernel, by decide +kernel⟩, List.mem_of_getElem? (i := 8) (by decide +kernel), List.mem_of_getElem? (i := 363) (by decide +kernel), List.mem_of_getElem? (i := 364) (by decide +kernel)⟩
theorem lw_p17 : lw_okq (⟨"LineSearch", "tripThatMeets", "(II)I"⟩, 11) := ⟨⟨by decide +kernel, by decide +kernel⟩, List.mem_of_getElem? (i := 8) (by decide +kernel), List.mem_of_getElem? (i := 388) (by decide +kernel), List.mem_of_getElem? (i := 389) (by decide +kernel)⟩
theorem lw_p18 : lw_okq (⟨"LineSearchModel", "begin", "()V"⟩, 15) := ⟨⟨by decide +kernel, by decide +kernel⟩, List.mem_of_getElem? (i := 405) (by decide +kernel), List.mem_of_getElem? (i := 411) (by decide +kernel), List.mem_of_getElem? (i := 412) (by decide +kernel)⟩
theorem lw_p19 : lw_okq (⟨"LineSearchModel", "isPlace", "(II)Z"⟩, 15) := ⟨⟨by decide +kernel, by decide +kernel⟩, List.mem_of_getElem? (i := 405) (by decide +kernel), List.mem_of_getElem? (i := 476) (by decide +kernel), List.mem_of_getElem? (i := 477) (by decide +kernel)⟩
theorem lw_p20 : lw_okq (⟨"LineSearchModel", "costAhead", "(I)I"⟩, 15) := ⟨⟨by decide +kernel, by decide +kernel⟩, List.mem_of_getElem? (i := 405) (by decide +kernel), List.mem_of_getElem? (i := 492) (by decide +kernel), List.mem_of_getElem? (i := 493) (by decide +kernel)⟩
theorem lw_p21 : lw_okq (⟨"LineSearchModel", "wayOf", "(II)I"⟩, 15) := ⟨⟨by decide +kernel, by decide +kernel⟩, List.mem_of_getElem? (i := 405) (by decide +kernel), List.mem_of_getElem? (i := 508) (by decide +kernel), List.mem_of_getElem? (i := 509) (by decide +kernel)⟩
theorem lw_p22 : lw_okq (⟨"LineSearchModel", "comes", "(II)I"⟩, 15) := ⟨⟨by decide +kernel, by decide +kernel⟩, List.mem_of_getElem? (i := 405) (by decide +kernel), List.mem_of_getElem? (i := 512) (by decide +kernel), List.mem_of_getElem? (i := 513) (by decide +kernel)⟩
theorem lw_p23 : lw_okq (⟨"LineSearchModel", "missedAt", "(I)I"⟩, 15) := ⟨⟨by decide +kernel, by decide +kernel⟩, List.mem_of_getElem? (i := 405) (by decide +kernel), List.mem_of_getElem? (i := 530) (by decide +kernel), List.mem_of_getElem? (i := 531) (by decide +kernel)⟩
theorem lw_p24 : lw_okq (⟨"LineSearchModel", "layLeast", "()V"⟩, 15) := ⟨⟨by decide +kernel, by decide +kernel⟩, List.mem_of_getElem? (i := 405) (by decide +kernel), List.mem_of_getElem? (i := 550) (by decide +kernel), List.mem_of_getElem? (i := 551) (by decide +kernel)⟩
theorem lw_p25 : lw_okq (⟨"LineSearchModel", "lastState", "()I"⟩, 15) := ⟨⟨by decide +kernel, by decide +kernel⟩, List.mem_of_getElem? (i := 405) (by decide +kernel), List.mem_of_getElem? (i := 554) (by decide +kernel), List.mem_of_getElem? (i := 555) (by decide +kernel)⟩
theorem lw_p26 : lw_okq (⟨"LineSearchModel", "isState", "(I)Z"⟩, 15) := ⟨⟨by decide +kernel, by decide +kernel⟩, List.mem_of_getElem? (i := 405) (by decide +kernel), List.mem_of_getElem? (i := 558) (by decide +kernel), List.mem_of_getElem? (i := 559) (by decide +kernel)⟩
theorem lw_p27 : lw_okq (⟨"LineSearchModel", "adds", "(II)I"⟩, 15) := ⟨⟨by decide +kernel, by decide +kernel⟩, List.mem_of_getElem? (i := 405) (by decide +kernel), List.mem_of_getElem? (i := 569) (by decide +kernel), List.mem_of_getElem? (i := 570) (by decide +kernel)⟩
theorem lw_p28 : lw_okq (⟨"LineSearchModel", "rest", "(I)I"⟩, 15) := ⟨⟨by decide +kernel, by decide +kernel⟩, List.mem_of_getElem? (i := 405) (by decide +kernel), List.mem_of_getElem? (i := 573) (by decide +kernel), List.mem_of_getElem? (i := 574) (by decide +kernel)⟩
theorem lw_p29 : lw_okq (⟨"LineSearchModel", "layMeanPlan", "()V"⟩, 15) := ⟨⟨by decide +kernel, by decide +kernel⟩, List.mem_of_getElem? (i := 405) (by decide +kernel), List.mem_of_getElem? (i := 581) (by decide +kernel), List.mem_of_getElem? (i := 582) (by decide +kernel)⟩
theorem lw_p30 : lw_okq (⟨"LineSearchModel", "planAt", "(I)I"⟩, 15) := ⟨⟨by decide +kernel, by decide +kernel⟩, List.mem_of_getElem? (i := 405) (by decide +kernel), List.mem_of_getElem? (i := 585) (by decide +kernel), List.mem_of_getElem? (i := 586) (by decide +kernel)⟩
theorem lw_p31 : lw_okq (⟨"LineSearchModel", "findWorst", "()V"⟩, 15) := ⟨⟨by decide +kernel, by decide +kernel⟩, List.mem_of_getElem? (i := 405) (by decide +kernel), List.mem_of_getElem? (i := 593) (by decide +kernel), List.mem_of_getElem? (i := 594) (by decide +kernel)⟩
def lw_privs_2 : List (MethodName × Nat) := [(⟨"LineSearch", "worstUpper", "()I"⟩, 11), (⟨"LineSearch", "tripThatMeets", "(II)I"⟩, 11), (⟨"LineSearchModel", "begin", "()V"⟩, 15), (⟨"LineSearchModel", "isPlace", "(II)Z"⟩, 15), (⟨"LineSearchModel", "costAhead", "(I)I"⟩, 15), (⟨"LineSearchModel", "wayOf", "(II)I"⟩, 15), (⟨"LineSearchModel", "comes", "(II)I"⟩, 15), (⟨"LineSearchModel", "missedAt", "(I)I"⟩, 15), (⟨"LineSearchModel", "layLeast", "()V"⟩, 15), (⟨"LineSearchModel", "lastState", "()I"⟩, 15), (⟨"LineSearchModel", "isState", "(I)Z"⟩, 15), (⟨"LineSearchModel", "adds", "(II)I"⟩, 15), (⟨"LineSearchModel", "rest", "(I)I"⟩, 15), (⟨"LineSearchModel", "layMeanPlan", "()V"⟩, 15), (⟨"LineSearchModel", "planAt", "(I)I"⟩, 15), (⟨"LineSearchModel", "findWorst", "()V"⟩, 15)]
theorem lw_r2 : ∀ q ∈ lw_privs_2, lw_okq q := List.forall_mem_cons.mpr ⟨lw_p16, List.forall_mem_cons.mpr ⟨lw_p17, List.forall_mem_cons.mpr ⟨lw_p18, List.forall_mem_cons.mpr ⟨lw_p19, List.forall_mem_cons.mpr ⟨lw_p20, List.forall_mem_cons.mpr ⟨lw_p21, List.forall_mem_cons.mpr ⟨lw_p22, List.forall_mem_cons.mpr ⟨lw_p23, List.forall_mem_cons.mpr ⟨lw_p24, List.forall_mem_cons.mpr ⟨lw_p25, List.forall_mem_cons.mpr ⟨lw_p26, List.forall_mem_cons.mpr ⟨lw_p27, List.forall_mem_cons.mpr ⟨lw_p28, List.forall_mem_cons.mpr ⟨lw_p29, List.forall_mem_cons.mpr ⟨lw_p30, List.forall_mem_cons.mpr ⟨lw_p31, fun _ h => absurd h List.not_mem_nil⟩⟩⟩⟩⟩⟩⟩⟩⟩⟩⟩⟩⟩⟩⟩⟩
theorem lw_p32 : lw_okq (⟨"LineSearchModel", "layMost", "(II)V"⟩, 15) := ⟨⟨by decide +kernel, by decide +kernel⟩, List.mem_of_getElem? (i := 405) (by decide +kernel), List.mem_of_getElem? (i := 598) (by decide +kernel), List.mem_of_getElem? (i := 599) (by decide +kernel)⟩
theorem lw_p33 : lw_okq (⟨"LineSearchModel", "layWorstPlan", "()V"⟩, 15) := ⟨⟨by decide +kernel, by decide +kernel⟩, List.mem_of_getElem? (i := 405) (by decide +kernel), List.mem_of_getElem? (i := 607) (by decide +kernel), List.mem_of_getElem? (i := 608) (by decide +kernel)⟩
theorem lw_p34 : lw_okq (⟨"LineSearchModel", "comesBy", "(III)I"⟩, 15) := ⟨⟨by decide +kernel, by decide +kernel⟩, List.mem_of_getElem? (i := 405) (by decide +kernel), List.mem_of_getElem? (i := 623) (by decide +kernel), List.mem_of_getElem? (i := 624) (by decide +kernel)⟩
theorem lw_p35 : lw_okq (⟨"LineSearchModel", "aheadOf", "(I)I"⟩, 15) := ⟨⟨by decide +kernel, by decide +kernel⟩, List.mem_of_getElem? (i := 405) (by decide +kernel), List.mem_of_getElem? (i := 627) (by decide +kernel), List.mem_of_getElem? (i := 628) (by decide +kernel)⟩
def lw_privs_3 : List (MethodName × Nat) := [(⟨"LineSearchModel", "layMost", "(II)V"⟩, 15), (⟨"LineSearchModel", "layWorstPlan", "()V"⟩, 15), (⟨"LineSearchModel", "comesBy", "(III)I"⟩, 15), (⟨"LineSearchModel", "aheadOf", "(I)I"⟩, 15)]
theorem lw_r3 : ∀ q ∈ lw_privs_3, lw_okq q := List.forall_mem_cons.mpr ⟨lw_p32, List.forall_mem_cons.mpr ⟨lw_p33, List.forall_mem_cons.mpr ⟨lw_p34, List.forall_mem_cons.mpr ⟨lw_p35, fun _ h => absurd h List.not_mem_nil⟩⟩⟩⟩
def lw_privs : List (MethodName × Nat) := lw_privs_1 ++ (lw_privs_2 ++ (lw_privs_3))
def lw_tbl : List Cond := k2_sels lw_privs ++ tables_1
theorem lw_privs_ok : ∀ q ∈ lw_privs, lw_okq q := by
  show ∀ q ∈ lw_privs_1 ++ (lw_privs_2 ++ (lw_privs_3)), lw_okq q
  exact List.forall_mem_append.mpr ⟨lw_r1, List.forall_mem_append.mpr ⟨lw_r2, lw_r3⟩⟩
end
section
/-! ===== BEGIN words of one list among another's, by their places ===== -/
theorem goodIn_r {big : List Cond} (ws : List Cond) (ps : List Nat) (hp : ws = ps.filterMap (fun i => big[i]?)) (h : ws.all goodWord = true) : GoodIn big ws := by
  intro w hw
  have h1 := List.all_eq_true.mp h w hw
  rw [hp] at hw
  obtain ⟨i, -, hi⟩ := List.mem_filterMap.mp hw
  have hm : w ∈ big := by first | exact List.mem_of_getElem? hi | exact List.getElem?_mem hi
  exact ⟨hm, good_of_word h1⟩
theorem goodIn_app {big a b : List Cond} (ha : GoodIn big a) (hb : GoodIn big b) : GoodIn big (a ++ b) := fun w h => (List.mem_append.mp h).elim (ha w) (hb w)
theorem goodIn_ca {big a b : List Cond} {c : Cond} (ha : GoodIn big (c :: a)) (hb : GoodIn big b) : GoodIn big (c :: (a ++ b)) := fun w h => (List.mem_cons.mp h).elim (fun e => ha w (List.mem_cons.mpr (Or.inl e))) (fun h => (List.mem_append.mp h).elim (fun h => ha w (List.mem_cons.mpr (Or.inr h))) (hb w))
theorem goodIn_sub {big ws : List Cond} (hm : ∀ w ∈ ws, w ∈ big) (h : ws.all goodWord = true) : GoodIn big ws := fun w hw => ⟨hm w hw, good_of_word (List.all_eq_true.mp h w hw)⟩
/-! ===== END ===== -/

/-! ===== BEGIN printed: names, fields, word lists, decode rows ===== -/
def RX0 : String := "LineSearch$Ground"
def TX0 : u_T := fun k => match k with
  | 0 => ("LineSearch$Ground", "rays", "I", false)
  | 1 => ("LineSearch$Ground", "reach", "I", false)
  | _ => ("LineSearch$Ground", "shares", "[I", true)
def tyX0 : Nat → FieldType := fun k => match k with
  | 0 => .int
  | 1 => .int
  | _ => .array .int
abbrev wsX00 : List Cond := u_ws RX0 TX0 3
theorem nmX0 : ∀ a, a < 3 → ∀ b, b < 3 → a ≠ b → (TX0 a).2.1 ≠ (TX0 b).2.1 := by decide +kernel
theorem tyX0_ok : ∀ k, k < 3 → parseFieldDescriptor (TX0 k).2.2.1 = some (tyX0 k) := by decide +kernel
abbrev cX0_init : ByteArray := prog_2_method_1_code
def yX0_init : MethodName := ⟨RX0, "<init>", "()V"⟩
abbrev cX0_lay : ByteArray := prog_2_method_2_code
def yX0_lay : MethodName := ⟨RX0, "lay", "(II)V"⟩
abbrev cX0_isOf : ByteArray := prog_2_method_3_code
def yX0_isOf : MethodName := ⟨RX0, "isOf", "(II)Z"⟩
abbrev cX0_has : ByteArray := prog_2_method_4_code
def yX0_has : MethodName := ⟨RX0, "has", "(II)Z"⟩
abbrev cX0_shareAt : ByteArray := prog_2_method_5_code
def yX0_shareAt : MethodName := ⟨RX0, "shareAt", "(II)I"⟩
abbrev cX0_setShare : ByteArray := prog_2_method_6_code
def yX0_setShare : MethodName := ⟨RX0, "setShare", "(III)V"⟩
abbrev cX0_allShares : ByteArray := prog_2_method_7_code
def yX0_allShares : MethodName := ⟨RX0, "allShares", "()I"⟩
abbrev cX0_sharedSteps : ByteArray := prog_2_method_8_code
def yX0_sharedSteps : MethodName := ⟨RX0, "sharedSteps", "()I"⟩
def RX1 : String := "LineSearch$Outlook"
def TX1 : u_T := fun k => match k with
  | 0 => ("LineSearch$Outlook", "rays", "I", false)
  | 1 => ("LineSearch$Outlook", "reach", "I", false)
  | 2 => ("LineSearch$Outlook", "caps", "[I", true)
  | 3 => ("LineSearch$Outlook", "prices", "[I", true)
  | 4 => ("LineSearch$Outlook", "basePrice", "I", false)
  | 5 => ("LineSearch$Outlook", "most", "[I", true)
  | 6 => ("LineSearch$Outlook", "mostOnRay", "[I", true)
  | _ => ("LineSearch$Outlook", "gone", "[I", true)
def tyX1 : Nat → FieldType := fun k => match k with
  | 0 => .int
  | 1 => .int
  | 2 => .array .int
  | 3 => .array .int
  | 4 => .int
  | 5 => .array .int
  | 6 => .array .int
  | _ => .array .int
abbrev wsX10 : List Cond := u_ws RX1 TX1 8
theorem nmX1 : ∀ a, a < 8 → ∀ b, b < 8 → a ≠ b → (TX1 a).2.1 ≠ (TX1 b).2.1 := by decide +kernel
theorem tyX1_ok : ∀ k, k < 8 → parseFieldDescriptor (TX1 k).2.2.1 = some (tyX1 k) := by decide +kernel
abbrev cX1_init : ByteArray := prog_3_method_1_code
def yX1_init : MethodName := ⟨RX1, "<init>", "()V"⟩
abbrev cX1_planMean : ByteArray := prog_3_method_2_code
def yX1_planMean : MethodName := ⟨RX1, "planMean", "(LLineSearch$Ground;LLineSearch$Plan;)I"⟩
abbrev cX1_planWorst : ByteArray := prog_3_method_3_code
def yX1_planWorst : MethodName := ⟨RX1, "planWorst", "(LLineSearch$Ground;LLineSearch$Plan;)I"⟩
abbrev cX1_capBy : ByteArray := prog_3_method_4_code
def yX1_capBy : MethodName := ⟨RX1, "capBy", "(I)V"⟩
abbrev cX1_sweep : ByteArray := prog_3_method_5_code
def yX1_sweep : MethodName := ⟨RX1, "sweep", "()V"⟩
abbrev cX1_lengthOf : ByteArray := prog_3_method_6_code
def yX1_lengthOf : MethodName := ⟨RX1, "lengthOf", "(I)I"⟩
abbrev cX1_settle : ByteArray := prog_3_method_7_code
def yX1_settle : MethodName := ⟨RX1, "settle", "(III)V"⟩
abbrev cX1_through : ByteArray := prog_3_method_8_code
def yX1_through : MethodName := ⟨RX1, "through", "(III)I"⟩
abbrev cX1_offer : ByteArray := prog_3_method_9_code
def yX1_offer : MethodName := ⟨RX1, "offer", "(IIII)V"⟩
abbrev cX1_write : ByteArray := prog_3_method_10_code
def yX1_write : MethodName := ⟨RX1, "write", "(ILLineSearch$Plan;)V"⟩
abbrev cX1_firstTrip : ByteArray := prog_3_method_11_code
def yX1_firstTrip : MethodName := ⟨RX1, "firstTrip", "(I)I"⟩
abbrev cX1_costOf : ByteArray := prog_3_method_12_code
def yX1_costOf : MethodName := ⟨RX1, "costOf", "(II)I"⟩
abbrev cX1_stateAfter : ByteArray := prog_3_method_13_code
def yX1_stateAfter : MethodName := ⟨RX1, "stateAfter", "(II)I"⟩
def RX2 : String := "LineSearch$Plan"
def TX2 : u_T := fun k => match k with
  | 0 => ("LineSearch$Plan", "onRay", "[I", true)
  | 1 => ("LineSearch$Plan", "toSteps", "[I", true)
  | _ => ("LineSearch$Plan", "count", "I", false)
def tyX2 : Nat → FieldType := fun k => match k with
  | 0 => .array .int
  | 1 => .array .int
  | _ => .int
abbrev wsX20 : List Cond := u_ws RX2 TX2 3
theorem nmX2 : ∀ a, a < 3 → ∀ b, b < 3 → a ≠ b → (TX2 a).2.1 ≠ (TX2 b).2.1 := by decide +kernel
theorem tyX2_ok : ∀ k, k < 3 → parseFieldDescriptor (TX2 k).2.2.1 = some (tyX2 k) := by decide +kernel
abbrev cX2_init : ByteArray := prog_4_method_1_code
def yX2_init : MethodName := ⟨RX2, "<init>", "()V"⟩
abbrev cX2_has : ByteArray := prog_4_method_2_code
def yX2_has : MethodName := ⟨RX2, "has", "(I)Z"⟩
abbrev cX2_rayOf : ByteArray := prog_4_method_3_code
def yX2_rayOf : MethodName := ⟨RX2, "rayOf", "(I)I"⟩
abbrev cX2_stepsOf : ByteArray := prog_4_method_4_code
def yX2_stepsOf : MethodName := ⟨RX2, "stepsOf", "(I)I"⟩
abbrev cX2_add : ByteArray := prog_4_method_5_code
def yX2_add : MethodName := ⟨RX2, "add", "(II)Z"⟩
abbrev cX2_removeLast : ByteArray := prog_4_method_6_code
def yX2_removeLast : MethodName := ⟨RX2, "removeLast", "()Z"⟩
abbrev cX2_empty : ByteArray := prog_4_method_7_code
def yX2_empty : MethodName := ⟨RX2, "empty", "()V"⟩
abbrev cX2_copy : ByteArray := prog_4_method_8_code
def yX2_copy : MethodName := ⟨RX2, "copy", "(LLineSearch$Plan;)V"⟩
abbrev cX2_isFor : ByteArray := prog_4_method_9_code
def yX2_isFor : MethodName := ⟨RX2, "isFor", "(II)Z"⟩
abbrev cX2_firstTo : ByteArray := prog_4_method_10_code
def yX2_firstTo : MethodName := ⟨RX2, "firstTo", "(III)I"⟩
abbrev cX2_stepsAhead : ByteArray := prog_4_method_11_code
def yX2_stepsAhead : MethodName := ⟨RX2, "stepsAhead", "(II)I"⟩
abbrev cX2_farthest : ByteArray := prog_4_method_12_code
def yX2_farthest : MethodName := ⟨RX2, "farthest", "(II)I"⟩
def RX3 : String := "LineSearch"
def TX3 : u_T := fun k => match k with
  | 0 => ("LineSearch", "out", "I", false)
  | 1 => ("LineSearch", "back", "I", false)
  | 2 => ("LineSearch", "ground", "LLineSearch$Ground;", true)
  | 3 => ("LineSearch", "plan", "LLineSearch$Plan;", true)
  | 4 => ("LineSearch", "outlook", "LLineSearch$Outlook;", true)
  | 5 => ("LineSearch", "meanPlan", "LLineSearch$Plan;", true)
  | 6 => ("LineSearch", "worstPlan", "LLineSearch$Plan;", true)
  | 7 => ("LineSearch", "meanKnown", "Z", false)
  | 8 => ("LineSearch", "worstKnown", "Z", false)
  | 9 => ("LineSearch", "meanSteps", "I", false)
  | _ => ("LineSearch", "worstParts", "I", false)
def tyX3 : Nat → FieldType := fun k => match k with
  | 0 => .int
  | 1 => .int
  | 2 => .object "LineSearch$Ground"
  | 3 => .object "LineSearch$Plan"
  | 4 => .object "LineSearch$Outlook"
  | 5 => .object "LineSearch$Plan"
  | 6 => .object "LineSearch$Plan"
  | 7 => .boolean
  | 8 => .boolean
  | 9 => .int
  | _ => .int
abbrev wsX30 : List Cond := u_ws RX3 TX3 11
theorem nmX3 : ∀ a, a < 11 → ∀ b, b < 11 → a ≠ b → (TX3 a).2.1 ≠ (TX3 b).2.1 := by decide +kernel
theorem tyX3_ok : ∀ k, k < 11 → parseFieldDescriptor (TX3 k).2.2.1 = some (tyX3 k) := by decide +kernel
abbrev cX3_init : ByteArray := prog_1_method_1_code
def yX3_init : MethodName := ⟨RX3, "<init>", "()V"⟩
abbrev cX3_rays : ByteArray := prog_1_method_2_code
def yX3_rays : MethodName := ⟨RX3, "rays", "(II)I"⟩
abbrev cX3_costs : ByteArray := prog_1_method_3_code
def yX3_costs : MethodName := ⟨RX3, "costs", "(II)I"⟩
abbrev cX3_share : ByteArray := prog_1_method_4_code
def yX3_share : MethodName := ⟨RX3, "share", "(III)I"⟩
abbrev cX3_shareOf : ByteArray := prog_1_method_5_code
def yX3_shareOf : MethodName := ⟨RX3, "shareOf", "(II)I"⟩
abbrev cX3_trip : ByteArray := prog_1_method_6_code
def yX3_trip : MethodName := ⟨RX3, "trip", "(II)I"⟩
abbrev cX3_tripOf : ByteArray := prog_1_method_7_code
def yX3_tripOf : MethodName := ⟨RX3, "tripOf", "(II)I"⟩
abbrev cX3_drop : ByteArray := prog_1_method_8_code
def yX3_drop : MethodName := ⟨RX3, "drop", "()I"⟩
abbrev cX3_clear : ByteArray := prog_1_method_9_code
def yX3_clear : MethodName := ⟨RX3, "clear", "()I"⟩
abbrev cX3_way : ByteArray := prog_1_method_10_code
def yX3_way : MethodName := ⟨RX3, "way", "(II)I"⟩
abbrev cX3_late : ByteArray := prog_1_method_11_code
def yX3_late : MethodName := ⟨RX3, "late", "(III)I"⟩
abbrev cX3_worst : ByteArray := prog_1_method_12_code
def yX3_worst : MethodName := ⟨RX3, "worst", "(I)I"⟩
abbrev cX3_mean : ByteArray := prog_1_method_13_code
def yX3_mean : MethodName := ⟨RX3, "mean", "()I"⟩
abbrev cX3_missed : ByteArray := prog_1_method_14_code
def yX3_missed : MethodName := ⟨RX3, "missed", "(I)I"⟩
abbrev cX3_finds : ByteArray := prog_1_method_15_code
def yX3_finds : MethodName := ⟨RX3, "finds", "(I)I"⟩
abbrev cX3_leastMean : ByteArray := prog_1_method_16_code
def yX3_leastMean : MethodName := ⟨RX3, "leastMean", "()I"⟩
abbrev cX3_meanTrip : ByteArray := prog_1_method_17_code
def yX3_meanTrip : MethodName := ⟨RX3, "meanTrip", "(I)I"⟩
abbrev cX3_leastWorst : ByteArray := prog_1_method_18_code
def yX3_leastWorst : MethodName := ⟨RX3, "leastWorst", "(I)I"⟩
abbrev cX3_worstTrip : ByteArray := prog_1_method_19_code
def yX3_worstTrip : MethodName := ⟨RX3, "worstTrip", "(I)I"⟩
abbrev cX3_within : ByteArray := prog_1_method_20_code
def yX3_within : MethodName := ⟨RX3, "within", "(II)I"⟩
abbrev cX3_take : ByteArray := prog_1_method_21_code
def yX3_take : MethodName := ⟨RX3, "take", "(I)I"⟩
abbrev cX3_both : ByteArray := prog_1_method_22_code
def yX3_both : MethodName := ⟨RX3, "both", "(III)I"⟩
abbrev cX3_end : ByteArray := prog_1_method_23_code
def yX3_end : MethodName := ⟨RX3, "end", "()I"⟩
abbrev cX3_told : ByteArray := prog_1_method_24_code
def yX3_told : MethodName := ⟨RX3, "told", "(I)I"⟩
abbrev cX3_wholeTrips : ByteArray := prog_1_method_25_code
def yX3_wholeTrips : MethodName := ⟨RX3, "wholeTrips", "(I)I"⟩
abbrev cX3_wayTo : ByteArray := prog_1_method_26_code
def yX3_wayTo : MethodName := ⟨RX3, "wayTo", "(II)I"⟩
abbrev cX3_countMissed : ByteArray := prog_1_method_27_code
def yX3_countMissed : MethodName := ⟨RX3, "countMissed", "()I"⟩
abbrev cX3_worstPlace : ByteArray := prog_1_method_28_code
def yX3_worstPlace : MethodName := ⟨RX3, "worstPlace", "()I"⟩
abbrev cX3_tripThatMeets : ByteArray := prog_1_method_29_code
def yX3_tripThatMeets : MethodName := ⟨RX3, "tripThatMeets", "(II)I"⟩
abbrev cX3_placeOf : ByteArray := prog_1_method_30_code
def yX3_placeOf : MethodName := ⟨RX3, "placeOf", "(LLineSearch$Plan;I)I"⟩
abbrev cX3_findMean : ByteArray := prog_1_method_31_code
def yX3_findMean : MethodName := ⟨RX3, "findMean", "()V"⟩
abbrev cX3_findWorst : ByteArray := prog_1_method_32_code
def yX3_findWorst : MethodName := ⟨RX3, "findWorst", "()V"⟩
abbrev cX3_worstUpper : ByteArray := prog_1_method_33_code
def yX3_worstUpper : MethodName := ⟨RX3, "worstUpper", "()I"⟩
abbrev cX3_lowest : ByteArray := prog_1_method_34_code
def yX3_lowest : MethodName := ⟨RX3, "lowest", "(III)I"⟩
abbrev cX3_commonDivisor : ByteArray := prog_1_method_35_code
def yX3_commonDivisor : MethodName := ⟨RX3, "commonDivisor", "(II)I"⟩
abbrev cX3_at : ByteArray := prog_1_method_36_code
def yX3_at : MethodName := ⟨RX3, "at", "([II)I"⟩
abbrev cX3_put : ByteArray := prog_1_method_37_code
def yX3_put : MethodName := ⟨RX3, "put", "([III)V"⟩
abbrev cX3_putAll : ByteArray := prog_1_method_38_code
def yX3_putAll : MethodName := ⟨RX3, "putAll", "([II)V"⟩
def RX4 : String := "LineSearchModel"
def TX4 : u_T := fun k => match k with
  | 0 => ("LineSearchModel", "rays", "I", false)
  | 1 => ("LineSearchModel", "steps", "I", false)
  | 2 => ("LineSearchModel", "out", "I", false)
  | 3 => ("LineSearchModel", "back", "I", false)
  | 4 => ("LineSearchModel", "share", "[I", true)
  | 5 => ("LineSearchModel", "trips", "I", false)
  | 6 => ("LineSearchModel", "ray", "[I", true)
  | 7 => ("LineSearchModel", "far", "[I", true)
  | 8 => ("LineSearchModel", "least", "[I", true)
  | 9 => ("LineSearchModel", "most", "[I", true)
  | 10 => ("LineSearchModel", "planned", "I", false)
  | 11 => ("LineSearchModel", "plan", "[I", true)
  | 12 => ("LineSearchModel", "worstUp", "I", false)
  | 13 => ("LineSearchModel", "worstLow", "I", false)
  | _ => ("LineSearchModel", "worstFor", "I", false)
def tyX4 : Nat → FieldType := fun k => match k with
  | 0 => .int
  | 1 => .int
  | 2 => .int
  | 3 => .int
  | 4 => .array .int
  | 5 => .int
  | 6 => .array .int
  | 7 => .array .int
  | 8 => .array .int
  | 9 => .array .int
  | 10 => .int
  | 11 => .array .int
  | 12 => .int
  | 13 => .int
  | _ => .int
abbrev wsX40 : List Cond := u_ws RX4 TX4 15
theorem nmX4 : ∀ a, a < 15 → ∀ b, b < 15 → a ≠ b → (TX4 a).2.1 ≠ (TX4 b).2.1 := by decide +kernel
theorem tyX4_ok : ∀ k, k < 15 → parseFieldDescriptor (TX4 k).2.2.1 = some (tyX4 k) := by decide +kernel
abbrev cX4_init : ByteArray := prog_6_method_1_code
def yX4_init : MethodName := ⟨RX4, "<init>", "()V"⟩
abbrev cX4_in : ByteArray := prog_6_method_2_code
def yX4_in : MethodName := ⟨RX4, "in", "(III)Z"⟩
abbrev cX4_begin : ByteArray := prog_6_method_3_code
def yX4_begin : MethodName := ⟨RX4, "begin", "()V"⟩
abbrev cX4_isPlace : ByteArray := prog_6_method_4_code
def yX4_isPlace : MethodName := ⟨RX4, "isPlace", "(II)Z"⟩
abbrev cX4_rays : ByteArray := prog_6_method_5_code
def yX4_rays : MethodName := ⟨RX4, "rays", "(II)I"⟩
abbrev cX4_costs : ByteArray := prog_6_method_6_code
def yX4_costs : MethodName := ⟨RX4, "costs", "(II)I"⟩
abbrev cX4_share : ByteArray := prog_6_method_7_code
def yX4_share : MethodName := ⟨RX4, "share", "(III)I"⟩
abbrev cX4_shareOf : ByteArray := prog_6_method_8_code
def yX4_shareOf : MethodName := ⟨RX4, "shareOf", "(II)I"⟩
abbrev cX4_trip : ByteArray := prog_6_method_9_code
def yX4_trip : MethodName := ⟨RX4, "trip", "(II)I"⟩
abbrev cX4_costAhead : ByteArray := prog_6_method_10_code
def yX4_costAhead : MethodName := ⟨RX4, "costAhead", "(I)I"⟩
abbrev cX4_tripOf : ByteArray := prog_6_method_11_code
def yX4_tripOf : MethodName := ⟨RX4, "tripOf", "(II)I"⟩
abbrev cX4_drop : ByteArray := prog_6_method_12_code
def yX4_drop : MethodName := ⟨RX4, "drop", "()I"⟩
abbrev cX4_clear : ByteArray := prog_6_method_13_code
def yX4_clear : MethodName := ⟨RX4, "clear", "()I"⟩
abbrev cX4_comes : ByteArray := prog_6_method_14_code
def yX4_comes : MethodName := ⟨RX4, "comes", "(II)I"⟩
abbrev cX4_wayOf : ByteArray := prog_6_method_15_code
def yX4_wayOf : MethodName := ⟨RX4, "wayOf", "(II)I"⟩
abbrev cX4_way : ByteArray := prog_6_method_16_code
def yX4_way : MethodName := ⟨RX4, "way", "(II)I"⟩
abbrev cX4_common : ByteArray := prog_6_method_17_code
def yX4_common : MethodName := ⟨RX4, "common", "(II)I"⟩
abbrev cX4_term : ByteArray := prog_6_method_18_code
def yX4_term : MethodName := ⟨RX4, "term", "(III)I"⟩
abbrev cX4_late : ByteArray := prog_6_method_19_code
def yX4_late : MethodName := ⟨RX4, "late", "(III)I"⟩
abbrev cX4_missedAt : ByteArray := prog_6_method_20_code
def yX4_missedAt : MethodName := ⟨RX4, "missedAt", "(I)I"⟩
abbrev cX4_worst : ByteArray := prog_6_method_21_code
def yX4_worst : MethodName := ⟨RX4, "worst", "(I)I"⟩
abbrev cX4_mean : ByteArray := prog_6_method_22_code
def yX4_mean : MethodName := ⟨RX4, "mean", "()I"⟩
abbrev cX4_missed : ByteArray := prog_6_method_23_code
def yX4_missed : MethodName := ⟨RX4, "missed", "(I)I"⟩
abbrev cX4_finds : ByteArray := prog_6_method_24_code
def yX4_finds : MethodName := ⟨RX4, "finds", "(I)I"⟩
abbrev cX4_nines : ByteArray := prog_6_method_25_code
def yX4_nines : MethodName := ⟨RX4, "nines", "(I)I"⟩
abbrev cX4_gone : ByteArray := prog_6_method_26_code
def yX4_gone : MethodName := ⟨RX4, "gone", "(II)I"⟩
abbrev cX4_lastState : ByteArray := prog_6_method_27_code
def yX4_lastState : MethodName := ⟨RX4, "lastState", "()I"⟩
abbrev cX4_isState : ByteArray := prog_6_method_28_code
def yX4_isState : MethodName := ⟨RX4, "isState", "(I)Z"⟩
abbrev cX4_rest : ByteArray := prog_6_method_29_code
def yX4_rest : MethodName := ⟨RX4, "rest", "(I)I"⟩
abbrev cX4_adds : ByteArray := prog_6_method_30_code
def yX4_adds : MethodName := ⟨RX4, "adds", "(II)I"⟩
abbrev cX4_layLeast : ByteArray := prog_6_method_31_code
def yX4_layLeast : MethodName := ⟨RX4, "layLeast", "()V"⟩
abbrev cX4_leastMean : ByteArray := prog_6_method_32_code
def yX4_leastMean : MethodName := ⟨RX4, "leastMean", "()I"⟩
abbrev cX4_layMeanPlan : ByteArray := prog_6_method_33_code
def yX4_layMeanPlan : MethodName := ⟨RX4, "layMeanPlan", "()V"⟩
abbrev cX4_planAt : ByteArray := prog_6_method_34_code
def yX4_planAt : MethodName := ⟨RX4, "planAt", "(I)I"⟩
abbrev cX4_meanTrip : ByteArray := prog_6_method_35_code
def yX4_meanTrip : MethodName := ⟨RX4, "meanTrip", "(I)I"⟩
abbrev cX4_layMost : ByteArray := prog_6_method_36_code
def yX4_layMost : MethodName := ⟨RX4, "layMost", "(II)V"⟩
abbrev cX4_findWorst : ByteArray := prog_6_method_37_code
def yX4_findWorst : MethodName := ⟨RX4, "findWorst", "()V"⟩
abbrev cX4_leastWorst : ByteArray := prog_6_method_38_code
def yX4_leastWorst : MethodName := ⟨RX4, "leastWorst", "(I)I"⟩
abbrev cX4_layWorstPlan : ByteArray := prog_6_method_39_code
def yX4_layWorstPlan : MethodName := ⟨RX4, "layWorstPlan", "()V"⟩
abbrev cX4_worstTrip : ByteArray := prog_6_method_40_code
def yX4_worstTrip : MethodName := ⟨RX4, "worstTrip", "(I)I"⟩
abbrev cX4_within : ByteArray := prog_6_method_41_code
def yX4_within : MethodName := ⟨RX4, "within", "(II)I"⟩
abbrev cX4_take : ByteArray := prog_6_method_42_code
def yX4_take : MethodName := ⟨RX4, "take", "(I)I"⟩
abbrev cX4_comesBy : ByteArray := prog_6_method_43_code
def yX4_comesBy : MethodName := ⟨RX4, "comesBy", "(III)I"⟩
abbrev cX4_aheadOf : ByteArray := prog_6_method_44_code
def yX4_aheadOf : MethodName := ⟨RX4, "aheadOf", "(I)I"⟩
abbrev cX4_both : ByteArray := prog_6_method_45_code
def yX4_both : MethodName := ⟨RX4, "both", "(III)I"⟩
abbrev cX4_end : ByteArray := prog_6_method_46_code
def yX4_end : MethodName := ⟨RX4, "end", "()I"⟩
abbrev cX4_told : ByteArray := prog_6_method_47_code
def yX4_told : MethodName := ⟨RX4, "told", "(I)I"⟩
def RJ9 : String := "java/lang/Math"
def TJ9 : u_T := fun k => match k with
  | _ => ("", "", "", false)
def tyJ9 : Nat → FieldType := fun k => match k with
  | _ => .int
abbrev wsJ90 : List Cond := u_ws RJ9 TJ9 0
theorem nmJ9 : ∀ a, a < 0 → ∀ b, b < 0 → a ≠ b → (TJ9 a).2.1 ≠ (TJ9 b).2.1 := by decide +kernel
theorem tyJ9_ok : ∀ k, k < 0 → parseFieldDescriptor (TJ9 k).2.2.1 = some (tyJ9 k) := by decide +kernel
abbrev cJ9_max_7cf53 : ByteArray := prog_7_method_65_code
def yJ9_max_7cf53 : MethodName := ⟨RJ9, "max", "(II)I"⟩
abbrev cJ9_min_7cf53 : ByteArray := prog_7_method_69_code
def yJ9_min_7cf53 : MethodName := ⟨RJ9, "min", "(II)I"⟩
def RL : String := "LineSearchLaw"
abbrev cL_law : ByteArray := code
def yL_law : MethodName := ⟨RL, "law", "([I)Z"⟩
end
section
theorem dX0_init_0 : decode cX0_init 0 = .ok (.aload_n 0, 1) := by decide +kernel
theorem dX0_init_1 : decode cX0_init 1 = .ok (.invokespecial 3, 3) := by decide +kernel
theorem dX0_init_4 : decode cX0_init 4 = .ok (.aload_n 0, 1) := by decide +kernel
theorem dX0_init_5 : decode cX0_init 5 = .ok (.bipush 27, 2) := by decide +kernel
theorem dX0_init_7 : decode cX0_init 7 = .ok (.newarray .int, 2) := by decide +kernel
theorem dX0_init_9 : decode cX0_init 9 = .ok (.putfield 9, 3) := by decide +kernel
theorem dX0_init_12 : decode cX0_init 12 = .ok (.aload_n 0, 1) := by decide +kernel
theorem dX0_init_13 : decode cX0_init 13 = .ok (.iconst 2, 1) := by decide +kernel
theorem dX0_init_14 : decode cX0_init 14 = .ok (.iconst 5, 1) := by decide +kernel
theorem dX0_init_15 : decode cX0_init 15 = .ok (.invokevirtual 15, 3) := by decide +kernel
theorem dX0_init_18 : decode cX0_init 18 = .ok (.return_, 1) := by decide +kernel
theorem dX0_lay_0 : decode cX0_lay 0 = .ok (.aload_n 0, 1) := by decide +kernel
theorem dX0_lay_1 : decode cX0_lay 1 = .ok (.iload_n 1, 1) := by decide +kernel
theorem dX0_lay_2 : decode cX0_lay 2 = .ok (.putfield 19, 3) := by decide +kernel
theorem dX0_lay_5 : decode cX0_lay 5 = .ok (.aload_n 0, 1) := by decide +kernel
theorem dX0_lay_6 : decode cX0_lay 6 = .ok (.iload_n 2, 1) := by decide +kernel
theorem dX0_lay_7 : decode cX0_lay 7 = .ok (.putfield 23, 3) := by decide +kernel
theorem dX0_lay_10 : decode cX0_lay 10 = .ok (.aload_n 0, 1) := by decide +kernel
theorem dX0_lay_11 : decode cX0_lay 11 = .ok (.getfield 9, 3) := by decide +kernel
theorem dX0_lay_14 : decode cX0_lay 14 = .ok (.iconst 1, 1) := by decide +kernel
theorem dX0_lay_15 : decode cX0_lay 15 = .ok (.invokestatic 26, 3) := by decide +kernel
theorem dX0_lay_18 : decode cX0_lay 18 = .ok (.return_, 1) := by decide +kernel
theorem dX0_isOf_0 : decode cX0_isOf 0 = .ok (.aload_n 0, 1) := by decide +kernel
theorem dX0_isOf_1 : decode cX0_isOf 1 = .ok (.getfield 19, 3) := by decide +kernel
theorem dX0_isOf_4 : decode cX0_isOf 4 = .ok (.iload_n 1, 1) := by decide +kernel
theorem dX0_isOf_5 : decode cX0_isOf 5 = .ok (.if_icmp .ne 15, 3) := by decide +kernel
theorem dX0_isOf_8 : decode cX0_isOf 8 = .ok (.aload_n 0, 1) := by decide +kernel
theorem dX0_isOf_9 : decode cX0_isOf 9 = .ok (.getfield 23, 3) := by decide +kernel
theorem dX0_isOf_12 : decode cX0_isOf 12 = .ok (.iload_n 2, 1) := by decide +kernel
theorem dX0_isOf_13 : decode cX0_isOf 13 = .ok (.if_icmp .ne 7, 3) := by decide +kernel
theorem dX0_isOf_16 : decode cX0_isOf 16 = .ok (.iconst 1, 1) := by decide +kernel
theorem dX0_isOf_17 : decode cX0_isOf 17 = .ok (.goto 4, 3) := by decide +kernel
theorem dX0_isOf_20 : decode cX0_isOf 20 = .ok (.iconst 0, 1) := by decide +kernel
theorem dX0_isOf_21 : decode cX0_isOf 21 = .ok (.ireturn, 1) := by decide +kernel
theorem dX0_has_0 : decode cX0_has 0 = .ok (.iload_n 1, 1) := by decide +kernel
theorem dX0_has_1 : decode cX0_has 1 = .ok (.ifCond .lt 28, 3) := by decide +kernel
theorem dX0_has_4 : decode cX0_has 4 = .ok (.iload_n 1, 1) := by decide +kernel
theorem dX0_has_5 : decode cX0_has 5 = .ok (.aload_n 0, 1) := by decide +kernel
theorem dX0_has_6 : decode cX0_has 6 = .ok (.getfield 19, 3) := by decide +kernel
theorem dX0_has_9 : decode cX0_has 9 = .ok (.if_icmp .ge 20, 3) := by decide +kernel
theorem dX0_has_12 : decode cX0_has 12 = .ok (.iload_n 2, 1) := by decide +kernel
theorem dX0_has_13 : decode cX0_has 13 = .ok (.iconst 1, 1) := by decide +kernel
theorem dX0_has_14 : decode cX0_has 14 = .ok (.if_icmp .lt 15, 3) := by decide +kernel
theorem dX0_has_17 : decode cX0_has 17 = .ok (.iload_n 2, 1) := by decide +kernel
theorem dX0_has_18 : decode cX0_has 18 = .ok (.aload_n 0, 1) := by decide +kernel
theorem dX0_has_19 : decode cX0_has 19 = .ok (.getfield 23, 3) := by decide +kernel
theorem dX0_has_22 : decode cX0_has 22 = .ok (.if_icmp .gt 7, 3) := by decide +kernel
theorem dX0_has_25 : decode cX0_has 25 = .ok (.iconst 1, 1) := by decide +kernel
theorem dX0_has_26 : decode cX0_has 26 = .ok (.goto 4, 3) := by decide +kernel
theorem dX0_has_29 : decode cX0_has 29 = .ok (.iconst 0, 1) := by decide +kernel
theorem dX0_has_30 : decode cX0_has 30 = .ok (.ireturn, 1) := by decide +kernel
theorem dX0_shareAt_0 : decode cX0_shareAt 0 = .ok (.aload_n 0, 1) := by decide +kernel
theorem dX0_shareAt_1 : decode cX0_shareAt 1 = .ok (.iload_n 1, 1) := by decide +kernel
theorem dX0_shareAt_2 : decode cX0_shareAt 2 = .ok (.iload_n 2, 1) := by decide +kernel
theorem dX0_shareAt_3 : decode cX0_shareAt 3 = .ok (.invokevirtual 30, 3) := by decide +kernel
theorem dX0_shareAt_6 : decode cX0_shareAt 6 = .ok (.ifCond .eq 19, 3) := by decide +kernel
theorem dX0_shareAt_9 : decode cX0_shareAt 9 = .ok (.aload_n 0, 1) := by decide +kernel
theorem dX0_shareAt_10 : decode cX0_shareAt 10 = .ok (.getfield 9, 3) := by decide +kernel
theorem dX0_shareAt_13 : decode cX0_shareAt 13 = .ok (.iload_n 1, 1) := by decide +kernel
theorem dX0_shareAt_14 : decode cX0_shareAt 14 = .ok (.bipush 9, 2) := by decide +kernel
theorem dX0_shareAt_16 : decode cX0_shareAt 16 = .ok (.imul, 1) := by decide +kernel
theorem dX0_shareAt_17 : decode cX0_shareAt 17 = .ok (.iload_n 2, 1) := by decide +kernel
theorem dX0_shareAt_18 : decode cX0_shareAt 18 = .ok (.iadd, 1) := by decide +kernel
theorem dX0_shareAt_19 : decode cX0_shareAt 19 = .ok (.invokestatic 34, 3) := by decide +kernel
theorem dX0_shareAt_22 : decode cX0_shareAt 22 = .ok (.goto 4, 3) := by decide +kernel
theorem dX0_shareAt_25 : decode cX0_shareAt 25 = .ok (.iconst 0, 1) := by decide +kernel
theorem dX0_shareAt_26 : decode cX0_shareAt 26 = .ok (.ireturn, 1) := by decide +kernel
theorem dX0_setShare_0 : decode cX0_setShare 0 = .ok (.aload_n 0, 1) := by decide +kernel
theorem dX0_setShare_1 : decode cX0_setShare 1 = .ok (.iload_n 1, 1) := by decide +kernel
theorem dX0_setShare_2 : decode cX0_setShare 2 = .ok (.iload_n 2, 1) := by decide +kernel
theorem dX0_setShare_3 : decode cX0_setShare 3 = .ok (.invokevirtual 30, 3) := by decide +kernel
theorem dX0_setShare_6 : decode cX0_setShare 6 = .ok (.ifCond .eq 17, 3) := by decide +kernel
theorem dX0_setShare_9 : decode cX0_setShare 9 = .ok (.aload_n 0, 1) := by decide +kernel
theorem dX0_setShare_10 : decode cX0_setShare 10 = .ok (.getfield 9, 3) := by decide +kernel
theorem dX0_setShare_13 : decode cX0_setShare 13 = .ok (.iload_n 1, 1) := by decide +kernel
theorem dX0_setShare_14 : decode cX0_setShare 14 = .ok (.bipush 9, 2) := by decide +kernel
theorem dX0_setShare_16 : decode cX0_setShare 16 = .ok (.imul, 1) := by decide +kernel
theorem dX0_setShare_17 : decode cX0_setShare 17 = .ok (.iload_n 2, 1) := by decide +kernel
theorem dX0_setShare_18 : decode cX0_setShare 18 = .ok (.iadd, 1) := by decide +kernel
theorem dX0_setShare_19 : decode cX0_setShare 19 = .ok (.iload_n 3, 1) := by decide +kernel
theorem dX0_setShare_20 : decode cX0_setShare 20 = .ok (.invokestatic 38, 3) := by decide +kernel
theorem dX0_setShare_23 : decode cX0_setShare 23 = .ok (.return_, 1) := by decide +kernel
theorem dX0_allShares_0 : decode cX0_allShares 0 = .ok (.iconst 0, 1) := by decide +kernel
theorem dX0_allShares_1 : decode cX0_allShares 1 = .ok (.istore_n 1, 1) := by decide +kernel
theorem dX0_allShares_2 : decode cX0_allShares 2 = .ok (.iconst 0, 1) := by decide +kernel
theorem dX0_allShares_3 : decode cX0_allShares 3 = .ok (.istore_n 2, 1) := by decide +kernel
theorem dX0_allShares_4 : decode cX0_allShares 4 = .ok (.iload_n 2, 1) := by decide +kernel
theorem dX0_allShares_5 : decode cX0_allShares 5 = .ok (.aload_n 0, 1) := by decide +kernel
theorem dX0_allShares_6 : decode cX0_allShares 6 = .ok (.getfield 19, 3) := by decide +kernel
theorem dX0_allShares_9 : decode cX0_allShares 9 = .ok (.if_icmp .ge 34, 3) := by decide +kernel
theorem dX0_allShares_12 : decode cX0_allShares 12 = .ok (.iconst 1, 1) := by decide +kernel
theorem dX0_allShares_13 : decode cX0_allShares 13 = .ok (.istore_n 3, 1) := by decide +kernel
theorem dX0_allShares_14 : decode cX0_allShares 14 = .ok (.iload_n 3, 1) := by decide +kernel
theorem dX0_allShares_15 : decode cX0_allShares 15 = .ok (.aload_n 0, 1) := by decide +kernel
theorem dX0_allShares_16 : decode cX0_allShares 16 = .ok (.getfield 23, 3) := by decide +kernel
theorem dX0_allShares_19 : decode cX0_allShares 19 = .ok (.if_icmp .gt 18, 3) := by decide +kernel
theorem dX0_allShares_22 : decode cX0_allShares 22 = .ok (.iload_n 1, 1) := by decide +kernel
theorem dX0_allShares_23 : decode cX0_allShares 23 = .ok (.aload_n 0, 1) := by decide +kernel
theorem dX0_allShares_24 : decode cX0_allShares 24 = .ok (.iload_n 2, 1) := by decide +kernel
theorem dX0_allShares_25 : decode cX0_allShares 25 = .ok (.iload_n 3, 1) := by decide +kernel
theorem dX0_allShares_26 : decode cX0_allShares 26 = .ok (.invokevirtual 42, 3) := by decide +kernel
theorem dX0_allShares_29 : decode cX0_allShares 29 = .ok (.iadd, 1) := by decide +kernel
theorem dX0_allShares_30 : decode cX0_allShares 30 = .ok (.istore_n 1, 1) := by decide +kernel
theorem dX0_allShares_31 : decode cX0_allShares 31 = .ok (.iinc 3 1, 3) := by decide +kernel
theorem dX0_allShares_34 : decode cX0_allShares 34 = .ok (.goto (-20), 3) := by decide +kernel
theorem dX0_allShares_37 : decode cX0_allShares 37 = .ok (.iinc 2 1, 3) := by decide +kernel
theorem dX0_allShares_40 : decode cX0_allShares 40 = .ok (.goto (-36), 3) := by decide +kernel
theorem dX0_allShares_43 : decode cX0_allShares 43 = .ok (.iload_n 1, 1) := by decide +kernel
theorem dX0_allShares_44 : decode cX0_allShares 44 = .ok (.ireturn, 1) := by decide +kernel
theorem dX0_sharedSteps_0 : decode cX0_sharedSteps 0 = .ok (.iconst 0, 1) := by decide +kernel
theorem dX0_sharedSteps_1 : decode cX0_sharedSteps 1 = .ok (.istore_n 1, 1) := by decide +kernel
theorem dX0_sharedSteps_2 : decode cX0_sharedSteps 2 = .ok (.iconst 0, 1) := by decide +kernel
theorem dX0_sharedSteps_3 : decode cX0_sharedSteps 3 = .ok (.istore_n 2, 1) := by decide +kernel
theorem dX0_sharedSteps_4 : decode cX0_sharedSteps 4 = .ok (.iload_n 2, 1) := by decide +kernel
theorem dX0_sharedSteps_5 : decode cX0_sharedSteps 5 = .ok (.aload_n 0, 1) := by decide +kernel
theorem dX0_sharedSteps_6 : decode cX0_sharedSteps 6 = .ok (.getfield 19, 3) := by decide +kernel
theorem dX0_sharedSteps_9 : decode cX0_sharedSteps 9 = .ok (.if_icmp .ge 36, 3) := by decide +kernel
theorem dX0_sharedSteps_12 : decode cX0_sharedSteps 12 = .ok (.iconst 1, 1) := by decide +kernel
theorem dX0_sharedSteps_13 : decode cX0_sharedSteps 13 = .ok (.istore_n 3, 1) := by decide +kernel
theorem dX0_sharedSteps_14 : decode cX0_sharedSteps 14 = .ok (.iload_n 3, 1) := by decide +kernel
theorem dX0_sharedSteps_15 : decode cX0_sharedSteps 15 = .ok (.aload_n 0, 1) := by decide +kernel
theorem dX0_sharedSteps_16 : decode cX0_sharedSteps 16 = .ok (.getfield 23, 3) := by decide +kernel
theorem dX0_sharedSteps_19 : decode cX0_sharedSteps 19 = .ok (.if_icmp .gt 20, 3) := by decide +kernel
theorem dX0_sharedSteps_22 : decode cX0_sharedSteps 22 = .ok (.iload_n 1, 1) := by decide +kernel
theorem dX0_sharedSteps_23 : decode cX0_sharedSteps 23 = .ok (.aload_n 0, 1) := by decide +kernel
theorem dX0_sharedSteps_24 : decode cX0_sharedSteps 24 = .ok (.iload_n 2, 1) := by decide +kernel
theorem dX0_sharedSteps_25 : decode cX0_sharedSteps 25 = .ok (.iload_n 3, 1) := by decide +kernel
theorem dX0_sharedSteps_26 : decode cX0_sharedSteps 26 = .ok (.invokevirtual 42, 3) := by decide +kernel
theorem dX0_sharedSteps_29 : decode cX0_sharedSteps 29 = .ok (.iload_n 3, 1) := by decide +kernel
theorem dX0_sharedSteps_30 : decode cX0_sharedSteps 30 = .ok (.imul, 1) := by decide +kernel
theorem dX0_sharedSteps_31 : decode cX0_sharedSteps 31 = .ok (.iadd, 1) := by decide +kernel
theorem dX0_sharedSteps_32 : decode cX0_sharedSteps 32 = .ok (.istore_n 1, 1) := by decide +kernel
theorem dX0_sharedSteps_33 : decode cX0_sharedSteps 33 = .ok (.iinc 3 1, 3) := by decide +kernel
theorem dX0_sharedSteps_36 : decode cX0_sharedSteps 36 = .ok (.goto (-22), 3) := by decide +kernel
theorem dX0_sharedSteps_39 : decode cX0_sharedSteps 39 = .ok (.iinc 2 1, 3) := by decide +kernel
theorem dX0_sharedSteps_42 : decode cX0_sharedSteps 42 = .ok (.goto (-38), 3) := by decide +kernel
theorem dX0_sharedSteps_45 : decode cX0_sharedSteps 45 = .ok (.iload_n 1, 1) := by decide +kernel
theorem dX0_sharedSteps_46 : decode cX0_sharedSteps 46 = .ok (.ireturn, 1) := by decide +kernel
theorem dX1_init_0 : decode cX1_init 0 = .ok (.aload_n 0, 1) := by decide +kernel
theorem dX1_init_1 : decode cX1_init 1 = .ok (.invokespecial 3, 3) := by decide +kernel
theorem dX1_init_4 : decode cX1_init 4 = .ok (.aload_n 0, 1) := by decide +kernel
theorem dX1_init_5 : decode cX1_init 5 = .ok (.iconst 0, 1) := by decide +kernel
theorem dX1_init_6 : decode cX1_init 6 = .ok (.putfield 9, 3) := by decide +kernel
theorem dX1_init_9 : decode cX1_init 9 = .ok (.aload_n 0, 1) := by decide +kernel
theorem dX1_init_10 : decode cX1_init 10 = .ok (.iconst 0, 1) := by decide +kernel
theorem dX1_init_11 : decode cX1_init 11 = .ok (.putfield 15, 3) := by decide +kernel
theorem dX1_init_14 : decode cX1_init 14 = .ok (.aload_n 0, 1) := by decide +kernel
theorem dX1_init_15 : decode cX1_init 15 = .ok (.bipush 9, 2) := by decide +kernel
theorem dX1_init_17 : decode cX1_init 17 = .ok (.newarray .int, 2) := by decide +kernel
theorem dX1_init_19 : decode cX1_init 19 = .ok (.putfield 18, 3) := by decide +kernel
theorem dX1_init_22 : decode cX1_init 22 = .ok (.aload_n 0, 1) := by decide +kernel
theorem dX1_init_23 : decode cX1_init 23 = .ok (.bipush 27, 2) := by decide +kernel
theorem dX1_init_25 : decode cX1_init 25 = .ok (.newarray .int, 2) := by decide +kernel
theorem dX1_init_27 : decode cX1_init 27 = .ok (.putfield 22, 3) := by decide +kernel
theorem dX1_init_30 : decode cX1_init 30 = .ok (.aload_n 0, 1) := by decide +kernel
theorem dX1_init_31 : decode cX1_init 31 = .ok (.iconst 0, 1) := by decide +kernel
theorem dX1_init_32 : decode cX1_init 32 = .ok (.putfield 25, 3) := by decide +kernel
theorem dX1_init_35 : decode cX1_init 35 = .ok (.aload_n 0, 1) := by decide +kernel
theorem dX1_init_36 : decode cX1_init 36 = .ok (.sipush 729, 3) := by decide +kernel
theorem dX1_init_39 : decode cX1_init 39 = .ok (.newarray .int, 2) := by decide +kernel
theorem dX1_init_41 : decode cX1_init 41 = .ok (.putfield 28, 3) := by decide +kernel
theorem dX1_init_44 : decode cX1_init 44 = .ok (.aload_n 0, 1) := by decide +kernel
theorem dX1_init_45 : decode cX1_init 45 = .ok (.sipush 243, 3) := by decide +kernel
theorem dX1_init_48 : decode cX1_init 48 = .ok (.newarray .int, 2) := by decide +kernel
theorem dX1_init_50 : decode cX1_init 50 = .ok (.putfield 31, 3) := by decide +kernel
theorem dX1_init_53 : decode cX1_init 53 = .ok (.aload_n 0, 1) := by decide +kernel
theorem dX1_init_54 : decode cX1_init 54 = .ok (.iconst 3, 1) := by decide +kernel
theorem dX1_init_55 : decode cX1_init 55 = .ok (.newarray .int, 2) := by decide +kernel
theorem dX1_init_57 : decode cX1_init 57 = .ok (.putfield 34, 3) := by decide +kernel
theorem dX1_init_60 : decode cX1_init 60 = .ok (.return_, 1) := by decide +kernel
theorem dX1_planMean_0 : decode cX1_planMean 0 = .ok (.aload_n 0, 1) := by decide +kernel
theorem dX1_planMean_1 : decode cX1_planMean 1 = .ok (.aload_n 1, 1) := by decide +kernel
theorem dX1_planMean_2 : decode cX1_planMean 2 = .ok (.getfield 37, 3) := by decide +kernel
theorem dX1_planMean_5 : decode cX1_planMean 5 = .ok (.putfield 9, 3) := by decide +kernel
theorem dX1_planMean_8 : decode cX1_planMean 8 = .ok (.aload_n 0, 1) := by decide +kernel
theorem dX1_planMean_9 : decode cX1_planMean 9 = .ok (.aload_n 1, 1) := by decide +kernel
theorem dX1_planMean_10 : decode cX1_planMean 10 = .ok (.getfield 40, 3) := by decide +kernel
theorem dX1_planMean_13 : decode cX1_planMean 13 = .ok (.putfield 15, 3) := by decide +kernel
theorem dX1_planMean_16 : decode cX1_planMean 16 = .ok (.aload_n 0, 1) := by decide +kernel
theorem dX1_planMean_17 : decode cX1_planMean 17 = .ok (.iconst 0, 1) := by decide +kernel
theorem dX1_planMean_18 : decode cX1_planMean 18 = .ok (.putfield 25, 3) := by decide +kernel
theorem dX1_planMean_21 : decode cX1_planMean 21 = .ok (.iconst 0, 1) := by decide +kernel
theorem dX1_planMean_22 : decode cX1_planMean 22 = .ok (.istore_n 3, 1) := by decide +kernel
theorem dX1_planMean_23 : decode cX1_planMean 23 = .ok (.iload_n 3, 1) := by decide +kernel
theorem dX1_planMean_24 : decode cX1_planMean 24 = .ok (.iconst 3, 1) := by decide +kernel
theorem dX1_planMean_25 : decode cX1_planMean 25 = .ok (.if_icmp .ge 55, 3) := by decide +kernel
theorem dX1_planMean_28 : decode cX1_planMean 28 = .ok (.iconst 0, 1) := by decide +kernel
theorem dX1_planMean_29 : decode cX1_planMean 29 = .ok (.istore 4, 2) := by decide +kernel
theorem dX1_planMean_31 : decode cX1_planMean 31 = .ok (.bipush 8, 2) := by decide +kernel
theorem dX1_planMean_33 : decode cX1_planMean 33 = .ok (.istore 5, 2) := by decide +kernel
theorem dX1_planMean_35 : decode cX1_planMean 35 = .ok (.iload 5, 2) := by decide +kernel
theorem dX1_planMean_37 : decode cX1_planMean 37 = .ok (.ifCond .lt 37, 3) := by decide +kernel
theorem dX1_planMean_40 : decode cX1_planMean 40 = .ok (.aload_n 0, 1) := by decide +kernel
theorem dX1_planMean_41 : decode cX1_planMean 41 = .ok (.getfield 22, 3) := by decide +kernel
theorem dX1_planMean_44 : decode cX1_planMean 44 = .ok (.iload_n 3, 1) := by decide +kernel
theorem dX1_planMean_45 : decode cX1_planMean 45 = .ok (.bipush 9, 2) := by decide +kernel
theorem dX1_planMean_47 : decode cX1_planMean 47 = .ok (.imul, 1) := by decide +kernel
theorem dX1_planMean_48 : decode cX1_planMean 48 = .ok (.iload 5, 2) := by decide +kernel
theorem dX1_planMean_50 : decode cX1_planMean 50 = .ok (.iadd, 1) := by decide +kernel
theorem dX1_planMean_51 : decode cX1_planMean 51 = .ok (.iload 4, 2) := by decide +kernel
theorem dX1_planMean_53 : decode cX1_planMean 53 = .ok (.invokestatic 41, 3) := by decide +kernel
theorem dX1_planMean_56 : decode cX1_planMean 56 = .ok (.iload 4, 2) := by decide +kernel
theorem dX1_planMean_58 : decode cX1_planMean 58 = .ok (.aload_n 1, 1) := by decide +kernel
theorem dX1_planMean_59 : decode cX1_planMean 59 = .ok (.iload_n 3, 1) := by decide +kernel
theorem dX1_planMean_60 : decode cX1_planMean 60 = .ok (.iload 5, 2) := by decide +kernel
theorem dX1_planMean_62 : decode cX1_planMean 62 = .ok (.invokevirtual 45, 3) := by decide +kernel
theorem dX1_planMean_65 : decode cX1_planMean 65 = .ok (.iadd, 1) := by decide +kernel
theorem dX1_planMean_66 : decode cX1_planMean 66 = .ok (.istore 4, 2) := by decide +kernel
theorem dX1_planMean_68 : decode cX1_planMean 68 = .ok (.iinc 5 (-1), 3) := by decide +kernel
theorem dX1_planMean_71 : decode cX1_planMean 71 = .ok (.goto (-36), 3) := by decide +kernel
theorem dX1_planMean_74 : decode cX1_planMean 74 = .ok (.iinc 3 1, 3) := by decide +kernel
theorem dX1_planMean_77 : decode cX1_planMean 77 = .ok (.goto (-54), 3) := by decide +kernel
theorem dX1_planMean_80 : decode cX1_planMean 80 = .ok (.aload_n 0, 1) := by decide +kernel
theorem dX1_planMean_81 : decode cX1_planMean 81 = .ok (.getfield 18, 3) := by decide +kernel
theorem dX1_planMean_84 : decode cX1_planMean 84 = .ok (.ldc 49, 2) := by decide +kernel
theorem dX1_planMean_86 : decode cX1_planMean 86 = .ok (.invokestatic 50, 3) := by decide +kernel
theorem dX1_planMean_89 : decode cX1_planMean 89 = .ok (.aload_n 0, 1) := by decide +kernel
theorem dX1_planMean_90 : decode cX1_planMean 90 = .ok (.invokevirtual 54, 3) := by decide +kernel
theorem dX1_planMean_93 : decode cX1_planMean 93 = .ok (.aload_n 0, 1) := by decide +kernel
theorem dX1_planMean_94 : decode cX1_planMean 94 = .ok (.getfield 28, 3) := by decide +kernel
theorem dX1_planMean_97 : decode cX1_planMean 97 = .ok (.iconst 0, 1) := by decide +kernel
theorem dX1_planMean_98 : decode cX1_planMean 98 = .ok (.invokestatic 57, 3) := by decide +kernel
theorem dX1_planMean_101 : decode cX1_planMean 101 = .ok (.istore_n 3, 1) := by decide +kernel
theorem dX1_planMean_102 : decode cX1_planMean 102 = .ok (.aload_n 0, 1) := by decide +kernel
theorem dX1_planMean_103 : decode cX1_planMean 103 = .ok (.iload_n 3, 1) := by decide +kernel
theorem dX1_planMean_104 : decode cX1_planMean 104 = .ok (.aload_n 2, 1) := by decide +kernel
theorem dX1_planMean_105 : decode cX1_planMean 105 = .ok (.invokevirtual 61, 3) := by decide +kernel
theorem dX1_planMean_108 : decode cX1_planMean 108 = .ok (.ldc 49, 2) := by decide +kernel
theorem dX1_planMean_110 : decode cX1_planMean 110 = .ok (.iload_n 3, 1) := by decide +kernel
theorem dX1_planMean_111 : decode cX1_planMean 111 = .ok (.isub, 1) := by decide +kernel
theorem dX1_planMean_112 : decode cX1_planMean 112 = .ok (.ireturn, 1) := by decide +kernel
theorem dX1_planWorst_0 : decode cX1_planWorst 0 = .ok (.aload_n 0, 1) := by decide +kernel
theorem dX1_planWorst_1 : decode cX1_planWorst 1 = .ok (.aload_n 1, 1) := by decide +kernel
theorem dX1_planWorst_2 : decode cX1_planWorst 2 = .ok (.getfield 37, 3) := by decide +kernel
theorem dX1_planWorst_5 : decode cX1_planWorst 5 = .ok (.putfield 9, 3) := by decide +kernel
theorem dX1_planWorst_8 : decode cX1_planWorst 8 = .ok (.aload_n 0, 1) := by decide +kernel
theorem dX1_planWorst_9 : decode cX1_planWorst 9 = .ok (.aload_n 1, 1) := by decide +kernel
theorem dX1_planWorst_10 : decode cX1_planWorst 10 = .ok (.getfield 40, 3) := by decide +kernel
theorem dX1_planWorst_13 : decode cX1_planWorst 13 = .ok (.putfield 15, 3) := by decide +kernel
theorem dX1_planWorst_16 : decode cX1_planWorst 16 = .ok (.aload_n 0, 1) := by decide +kernel
theorem dX1_planWorst_17 : decode cX1_planWorst 17 = .ok (.iconst 1, 1) := by decide +kernel
theorem dX1_planWorst_18 : decode cX1_planWorst 18 = .ok (.putfield 25, 3) := by decide +kernel
theorem dX1_planWorst_21 : decode cX1_planWorst 21 = .ok (.aload_n 0, 1) := by decide +kernel
theorem dX1_planWorst_22 : decode cX1_planWorst 22 = .ok (.getfield 22, 3) := by decide +kernel
theorem dX1_planWorst_25 : decode cX1_planWorst 25 = .ok (.iconst 0, 1) := by decide +kernel
theorem dX1_planWorst_26 : decode cX1_planWorst 26 = .ok (.invokestatic 50, 3) := by decide +kernel
theorem dX1_planWorst_29 : decode cX1_planWorst 29 = .ok (.iconst 0, 1) := by decide +kernel
theorem dX1_planWorst_30 : decode cX1_planWorst 30 = .ok (.istore_n 3, 1) := by decide +kernel
theorem dX1_planWorst_31 : decode cX1_planWorst 31 = .ok (.sipush 840, 3) := by decide +kernel
theorem dX1_planWorst_34 : decode cX1_planWorst 34 = .ok (.aload_n 0, 1) := by decide +kernel
theorem dX1_planWorst_35 : decode cX1_planWorst 35 = .ok (.getfield 15, 3) := by decide +kernel
theorem dX1_planWorst_38 : decode cX1_planWorst 38 = .ok (.imul, 1) := by decide +kernel
theorem dX1_planWorst_39 : decode cX1_planWorst 39 = .ok (.aload_n 0, 1) := by decide +kernel
theorem dX1_planWorst_40 : decode cX1_planWorst 40 = .ok (.getfield 9, 3) := by decide +kernel
theorem dX1_planWorst_43 : decode cX1_planWorst 43 = .ok (.iconst 1, 1) := by decide +kernel
theorem dX1_planWorst_44 : decode cX1_planWorst 44 = .ok (.isub, 1) := by decide +kernel
theorem dX1_planWorst_45 : decode cX1_planWorst 45 = .ok (.imul, 1) := by decide +kernel
theorem dX1_planWorst_46 : decode cX1_planWorst 46 = .ok (.istore 4, 2) := by decide +kernel
theorem dX1_planWorst_48 : decode cX1_planWorst 48 = .ok (.iconst 0, 1) := by decide +kernel
theorem dX1_planWorst_49 : decode cX1_planWorst 49 = .ok (.istore 5, 2) := by decide +kernel
theorem dX1_planWorst_51 : decode cX1_planWorst 51 = .ok (.iload 5, 2) := by decide +kernel
theorem dX1_planWorst_53 : decode cX1_planWorst 53 = .ok (.bipush 14, 2) := by decide +kernel
theorem dX1_planWorst_55 : decode cX1_planWorst 55 = .ok (.if_icmp .ge 56, 3) := by decide +kernel
theorem dX1_planWorst_58 : decode cX1_planWorst 58 = .ok (.iload 4, 2) := by decide +kernel
theorem dX1_planWorst_60 : decode cX1_planWorst 60 = .ok (.iload_n 3, 1) := by decide +kernel
theorem dX1_planWorst_61 : decode cX1_planWorst 61 = .ok (.isub, 1) := by decide +kernel
theorem dX1_planWorst_62 : decode cX1_planWorst 62 = .ok (.iconst 1, 1) := by decide +kernel
theorem dX1_planWorst_63 : decode cX1_planWorst 63 = .ok (.if_icmp .le 48, 3) := by decide +kernel
theorem dX1_planWorst_66 : decode cX1_planWorst 66 = .ok (.iload_n 3, 1) := by decide +kernel
theorem dX1_planWorst_67 : decode cX1_planWorst 67 = .ok (.iload 4, 2) := by decide +kernel
theorem dX1_planWorst_69 : decode cX1_planWorst 69 = .ok (.iadd, 1) := by decide +kernel
theorem dX1_planWorst_70 : decode cX1_planWorst 70 = .ok (.iconst 2, 1) := by decide +kernel
theorem dX1_planWorst_71 : decode cX1_planWorst 71 = .ok (.idiv, 1) := by decide +kernel
theorem dX1_planWorst_72 : decode cX1_planWorst 72 = .ok (.istore 6, 2) := by decide +kernel
theorem dX1_planWorst_74 : decode cX1_planWorst 74 = .ok (.aload_n 0, 1) := by decide +kernel
theorem dX1_planWorst_75 : decode cX1_planWorst 75 = .ok (.iload 6, 2) := by decide +kernel
theorem dX1_planWorst_77 : decode cX1_planWorst 77 = .ok (.invokevirtual 65, 3) := by decide +kernel
theorem dX1_planWorst_80 : decode cX1_planWorst 80 = .ok (.aload_n 0, 1) := by decide +kernel
theorem dX1_planWorst_81 : decode cX1_planWorst 81 = .ok (.invokevirtual 54, 3) := by decide +kernel
theorem dX1_planWorst_84 : decode cX1_planWorst 84 = .ok (.aload_n 0, 1) := by decide +kernel
theorem dX1_planWorst_85 : decode cX1_planWorst 85 = .ok (.getfield 28, 3) := by decide +kernel
theorem dX1_planWorst_88 : decode cX1_planWorst 88 = .ok (.iconst 0, 1) := by decide +kernel
theorem dX1_planWorst_89 : decode cX1_planWorst 89 = .ok (.invokestatic 57, 3) := by decide +kernel
theorem dX1_planWorst_92 : decode cX1_planWorst 92 = .ok (.ifCond .lt 10, 3) := by decide +kernel
theorem dX1_planWorst_95 : decode cX1_planWorst 95 = .ok (.iload 6, 2) := by decide +kernel
theorem dX1_planWorst_97 : decode cX1_planWorst 97 = .ok (.istore 4, 2) := by decide +kernel
theorem dX1_planWorst_99 : decode cX1_planWorst 99 = .ok (.goto 6, 3) := by decide +kernel
theorem dX1_planWorst_102 : decode cX1_planWorst 102 = .ok (.iload 6, 2) := by decide +kernel
theorem dX1_planWorst_104 : decode cX1_planWorst 104 = .ok (.istore_n 3, 1) := by decide +kernel
theorem dX1_planWorst_105 : decode cX1_planWorst 105 = .ok (.iinc 5 1, 3) := by decide +kernel
theorem dX1_planWorst_108 : decode cX1_planWorst 108 = .ok (.goto (-57), 3) := by decide +kernel
theorem dX1_planWorst_111 : decode cX1_planWorst 111 = .ok (.aload_n 0, 1) := by decide +kernel
theorem dX1_planWorst_112 : decode cX1_planWorst 112 = .ok (.iload 4, 2) := by decide +kernel
theorem dX1_planWorst_114 : decode cX1_planWorst 114 = .ok (.invokevirtual 65, 3) := by decide +kernel
theorem dX1_planWorst_117 : decode cX1_planWorst 117 = .ok (.aload_n 0, 1) := by decide +kernel
theorem dX1_planWorst_118 : decode cX1_planWorst 118 = .ok (.invokevirtual 54, 3) := by decide +kernel
theorem dX1_planWorst_121 : decode cX1_planWorst 121 = .ok (.aload_n 0, 1) := by decide +kernel
theorem dX1_planWorst_122 : decode cX1_planWorst 122 = .ok (.iconst 0, 1) := by decide +kernel
theorem dX1_planWorst_123 : decode cX1_planWorst 123 = .ok (.aload_n 2, 1) := by decide +kernel
theorem dX1_planWorst_124 : decode cX1_planWorst 124 = .ok (.invokevirtual 61, 3) := by decide +kernel
theorem dX1_planWorst_127 : decode cX1_planWorst 127 = .ok (.iload 4, 2) := by decide +kernel
theorem dX1_planWorst_129 : decode cX1_planWorst 129 = .ok (.ireturn, 1) := by decide +kernel
theorem dX1_capBy_0 : decode cX1_capBy 0 = .ok (.iconst 0, 1) := by decide +kernel
theorem dX1_capBy_1 : decode cX1_capBy 1 = .ok (.istore_n 2, 1) := by decide +kernel
theorem dX1_capBy_2 : decode cX1_capBy 2 = .ok (.iload_n 2, 1) := by decide +kernel
theorem dX1_capBy_3 : decode cX1_capBy 3 = .ok (.bipush 9, 2) := by decide +kernel
theorem dX1_capBy_5 : decode cX1_capBy 5 = .ok (.if_icmp .ge 24, 3) := by decide +kernel
theorem dX1_capBy_8 : decode cX1_capBy 8 = .ok (.aload_n 0, 1) := by decide +kernel
theorem dX1_capBy_9 : decode cX1_capBy 9 = .ok (.getfield 18, 3) := by decide +kernel
theorem dX1_capBy_12 : decode cX1_capBy 12 = .ok (.iload_n 2, 1) := by decide +kernel
theorem dX1_capBy_13 : decode cX1_capBy 13 = .ok (.iload_n 1, 1) := by decide +kernel
theorem dX1_capBy_14 : decode cX1_capBy 14 = .ok (.iload_n 2, 1) := by decide +kernel
theorem dX1_capBy_15 : decode cX1_capBy 15 = .ok (.imul, 1) := by decide +kernel
theorem dX1_capBy_16 : decode cX1_capBy 16 = .ok (.sipush 840, 3) := by decide +kernel
theorem dX1_capBy_19 : decode cX1_capBy 19 = .ok (.idiv, 1) := by decide +kernel
theorem dX1_capBy_20 : decode cX1_capBy 20 = .ok (.invokestatic 41, 3) := by decide +kernel
theorem dX1_capBy_23 : decode cX1_capBy 23 = .ok (.iinc 2 1, 3) := by decide +kernel
theorem dX1_capBy_26 : decode cX1_capBy 26 = .ok (.goto (-24), 3) := by decide +kernel
theorem dX1_capBy_29 : decode cX1_capBy 29 = .ok (.return_, 1) := by decide +kernel
theorem dX1_sweep_0 : decode cX1_sweep 0 = .ok (.aload_n 0, 1) := by decide +kernel
theorem dX1_sweep_1 : decode cX1_sweep 1 = .ok (.iconst 0, 1) := by decide +kernel
theorem dX1_sweep_2 : decode cX1_sweep 2 = .ok (.invokevirtual 69, 3) := by decide +kernel
theorem dX1_sweep_5 : decode cX1_sweep 5 = .ok (.istore_n 1, 1) := by decide +kernel
theorem dX1_sweep_6 : decode cX1_sweep 6 = .ok (.iload_n 1, 1) := by decide +kernel
theorem dX1_sweep_7 : decode cX1_sweep 7 = .ok (.ifCond .lt 48, 3) := by decide +kernel
theorem dX1_sweep_10 : decode cX1_sweep 10 = .ok (.aload_n 0, 1) := by decide +kernel
theorem dX1_sweep_11 : decode cX1_sweep 11 = .ok (.iconst 1, 1) := by decide +kernel
theorem dX1_sweep_12 : decode cX1_sweep 12 = .ok (.invokevirtual 69, 3) := by decide +kernel
theorem dX1_sweep_15 : decode cX1_sweep 15 = .ok (.istore_n 2, 1) := by decide +kernel
theorem dX1_sweep_16 : decode cX1_sweep 16 = .ok (.iload_n 2, 1) := by decide +kernel
theorem dX1_sweep_17 : decode cX1_sweep 17 = .ok (.ifCond .lt 32, 3) := by decide +kernel
theorem dX1_sweep_20 : decode cX1_sweep 20 = .ok (.aload_n 0, 1) := by decide +kernel
theorem dX1_sweep_21 : decode cX1_sweep 21 = .ok (.iconst 2, 1) := by decide +kernel
theorem dX1_sweep_22 : decode cX1_sweep 22 = .ok (.invokevirtual 69, 3) := by decide +kernel
theorem dX1_sweep_25 : decode cX1_sweep 25 = .ok (.istore_n 3, 1) := by decide +kernel
theorem dX1_sweep_26 : decode cX1_sweep 26 = .ok (.iload_n 3, 1) := by decide +kernel
theorem dX1_sweep_27 : decode cX1_sweep 27 = .ok (.ifCond .lt 16, 3) := by decide +kernel
theorem dX1_sweep_30 : decode cX1_sweep 30 = .ok (.aload_n 0, 1) := by decide +kernel
theorem dX1_sweep_31 : decode cX1_sweep 31 = .ok (.iload_n 1, 1) := by decide +kernel
theorem dX1_sweep_32 : decode cX1_sweep 32 = .ok (.iload_n 2, 1) := by decide +kernel
theorem dX1_sweep_33 : decode cX1_sweep 33 = .ok (.iload_n 3, 1) := by decide +kernel
theorem dX1_sweep_34 : decode cX1_sweep 34 = .ok (.invokevirtual 73, 3) := by decide +kernel
theorem dX1_sweep_37 : decode cX1_sweep 37 = .ok (.iinc 3 (-1), 3) := by decide +kernel
theorem dX1_sweep_40 : decode cX1_sweep 40 = .ok (.goto (-14), 3) := by decide +kernel
theorem dX1_sweep_43 : decode cX1_sweep 43 = .ok (.iinc 2 (-1), 3) := by decide +kernel
theorem dX1_sweep_46 : decode cX1_sweep 46 = .ok (.goto (-30), 3) := by decide +kernel
theorem dX1_sweep_49 : decode cX1_sweep 49 = .ok (.iinc 1 (-1), 3) := by decide +kernel
theorem dX1_sweep_52 : decode cX1_sweep 52 = .ok (.goto (-46), 3) := by decide +kernel
theorem dX1_sweep_55 : decode cX1_sweep 55 = .ok (.return_, 1) := by decide +kernel
theorem dX1_lengthOf_0 : decode cX1_lengthOf 0 = .ok (.iload_n 1, 1) := by decide +kernel
theorem dX1_lengthOf_1 : decode cX1_lengthOf 1 = .ok (.aload_n 0, 1) := by decide +kernel
theorem dX1_lengthOf_2 : decode cX1_lengthOf 2 = .ok (.getfield 9, 3) := by decide +kernel
theorem dX1_lengthOf_5 : decode cX1_lengthOf 5 = .ok (.if_icmp .ge 10, 3) := by decide +kernel
theorem dX1_lengthOf_8 : decode cX1_lengthOf 8 = .ok (.aload_n 0, 1) := by decide +kernel
theorem dX1_lengthOf_9 : decode cX1_lengthOf 9 = .ok (.getfield 15, 3) := by decide +kernel
theorem dX1_lengthOf_12 : decode cX1_lengthOf 12 = .ok (.goto 4, 3) := by decide +kernel
theorem dX1_lengthOf_15 : decode cX1_lengthOf 15 = .ok (.iconst 0, 1) := by decide +kernel
theorem dX1_lengthOf_16 : decode cX1_lengthOf 16 = .ok (.ireturn, 1) := by decide +kernel
theorem dX1_settle_0 : decode cX1_settle 0 = .ok (.iload_n 2, 1) := by decide +kernel
theorem dX1_settle_1 : decode cX1_settle 1 = .ok (.bipush 9, 2) := by decide +kernel
theorem dX1_settle_3 : decode cX1_settle 3 = .ok (.imul, 1) := by decide +kernel
theorem dX1_settle_4 : decode cX1_settle 4 = .ok (.iload_n 3, 1) := by decide +kernel
theorem dX1_settle_5 : decode cX1_settle 5 = .ok (.iadd, 1) := by decide +kernel
theorem dX1_settle_6 : decode cX1_settle 6 = .ok (.istore 4, 2) := by decide +kernel
theorem dX1_settle_8 : decode cX1_settle 8 = .ok (.bipush 81, 2) := by decide +kernel
theorem dX1_settle_10 : decode cX1_settle 10 = .ok (.iload_n 1, 1) := by decide +kernel
theorem dX1_settle_11 : decode cX1_settle 11 = .ok (.bipush 9, 2) := by decide +kernel
theorem dX1_settle_13 : decode cX1_settle 13 = .ok (.imul, 1) := by decide +kernel
theorem dX1_settle_14 : decode cX1_settle 14 = .ok (.iadd, 1) := by decide +kernel
theorem dX1_settle_15 : decode cX1_settle 15 = .ok (.iload_n 3, 1) := by decide +kernel
theorem dX1_settle_16 : decode cX1_settle 16 = .ok (.iadd, 1) := by decide +kernel
theorem dX1_settle_17 : decode cX1_settle 17 = .ok (.istore 5, 2) := by decide +kernel
theorem dX1_settle_19 : decode cX1_settle 19 = .ok (.sipush 162, 3) := by decide +kernel
theorem dX1_settle_22 : decode cX1_settle 22 = .ok (.iload_n 1, 1) := by decide +kernel
theorem dX1_settle_23 : decode cX1_settle 23 = .ok (.bipush 9, 2) := by decide +kernel
theorem dX1_settle_25 : decode cX1_settle 25 = .ok (.imul, 1) := by decide +kernel
theorem dX1_settle_26 : decode cX1_settle 26 = .ok (.iadd, 1) := by decide +kernel
theorem dX1_settle_27 : decode cX1_settle 27 = .ok (.iload_n 2, 1) := by decide +kernel
theorem dX1_settle_28 : decode cX1_settle 28 = .ok (.iadd, 1) := by decide +kernel
theorem dX1_settle_29 : decode cX1_settle 29 = .ok (.istore 6, 2) := by decide +kernel
theorem dX1_settle_31 : decode cX1_settle 31 = .ok (.aload_n 0, 1) := by decide +kernel
theorem dX1_settle_32 : decode cX1_settle 32 = .ok (.iconst 0, 1) := by decide +kernel
theorem dX1_settle_33 : decode cX1_settle 33 = .ok (.iload_n 1, 1) := by decide +kernel
theorem dX1_settle_34 : decode cX1_settle 34 = .ok (.iload 4, 2) := by decide +kernel
theorem dX1_settle_36 : decode cX1_settle 36 = .ok (.invokevirtual 77, 3) := by decide +kernel
theorem dX1_settle_39 : decode cX1_settle 39 = .ok (.aload_n 0, 1) := by decide +kernel
theorem dX1_settle_40 : decode cX1_settle 40 = .ok (.iconst 1, 1) := by decide +kernel
theorem dX1_settle_41 : decode cX1_settle 41 = .ok (.iload_n 2, 1) := by decide +kernel
theorem dX1_settle_42 : decode cX1_settle 42 = .ok (.iload 5, 2) := by decide +kernel
theorem dX1_settle_44 : decode cX1_settle 44 = .ok (.invokevirtual 77, 3) := by decide +kernel
theorem dX1_settle_47 : decode cX1_settle 47 = .ok (.aload_n 0, 1) := by decide +kernel
theorem dX1_settle_48 : decode cX1_settle 48 = .ok (.iconst 2, 1) := by decide +kernel
theorem dX1_settle_49 : decode cX1_settle 49 = .ok (.iload_n 3, 1) := by decide +kernel
theorem dX1_settle_50 : decode cX1_settle 50 = .ok (.iload 6, 2) := by decide +kernel
theorem dX1_settle_52 : decode cX1_settle 52 = .ok (.invokevirtual 77, 3) := by decide +kernel
theorem dX1_settle_55 : decode cX1_settle 55 = .ok (.invokestatic 81, 3) := by decide +kernel
theorem dX1_settle_58 : decode cX1_settle 58 = .ok (.invokestatic 81, 3) := by decide +kernel
theorem dX1_settle_61 : decode cX1_settle 61 = .ok (.istore 7, 2) := by decide +kernel
theorem dX1_settle_63 : decode cX1_settle 63 = .ok (.iload_n 1, 1) := by decide +kernel
theorem dX1_settle_64 : decode cX1_settle 64 = .ok (.aload_n 0, 1) := by decide +kernel
theorem dX1_settle_65 : decode cX1_settle 65 = .ok (.iconst 0, 1) := by decide +kernel
theorem dX1_settle_66 : decode cX1_settle 66 = .ok (.invokevirtual 69, 3) := by decide +kernel
theorem dX1_settle_69 : decode cX1_settle 69 = .ok (.if_icmp .ne 25, 3) := by decide +kernel
theorem dX1_settle_72 : decode cX1_settle 72 = .ok (.iload_n 2, 1) := by decide +kernel
theorem dX1_settle_73 : decode cX1_settle 73 = .ok (.aload_n 0, 1) := by decide +kernel
theorem dX1_settle_74 : decode cX1_settle 74 = .ok (.iconst 1, 1) := by decide +kernel
theorem dX1_settle_75 : decode cX1_settle 75 = .ok (.invokevirtual 69, 3) := by decide +kernel
theorem dX1_settle_78 : decode cX1_settle 78 = .ok (.if_icmp .ne 16, 3) := by decide +kernel
theorem dX1_settle_81 : decode cX1_settle 81 = .ok (.iload_n 3, 1) := by decide +kernel
theorem dX1_settle_82 : decode cX1_settle 82 = .ok (.aload_n 0, 1) := by decide +kernel
theorem dX1_settle_83 : decode cX1_settle 83 = .ok (.iconst 2, 1) := by decide +kernel
theorem dX1_settle_84 : decode cX1_settle 84 = .ok (.invokevirtual 69, 3) := by decide +kernel
theorem dX1_settle_87 : decode cX1_settle 87 = .ok (.if_icmp .ne 7, 3) := by decide +kernel
theorem dX1_settle_90 : decode cX1_settle 90 = .ok (.ldc 49, 2) := by decide +kernel
theorem dX1_settle_92 : decode cX1_settle 92 = .ok (.istore 7, 2) := by decide +kernel
theorem dX1_settle_94 : decode cX1_settle 94 = .ok (.aload_n 0, 1) := by decide +kernel
theorem dX1_settle_95 : decode cX1_settle 95 = .ok (.getfield 28, 3) := by decide +kernel
theorem dX1_settle_98 : decode cX1_settle 98 = .ok (.iload_n 1, 1) := by decide +kernel
theorem dX1_settle_99 : decode cX1_settle 99 = .ok (.bipush 9, 2) := by decide +kernel
theorem dX1_settle_101 : decode cX1_settle 101 = .ok (.imul, 1) := by decide +kernel
theorem dX1_settle_102 : decode cX1_settle 102 = .ok (.iload_n 2, 1) := by decide +kernel
theorem dX1_settle_103 : decode cX1_settle 103 = .ok (.iadd, 1) := by decide +kernel
theorem dX1_settle_104 : decode cX1_settle 104 = .ok (.bipush 9, 2) := by decide +kernel
theorem dX1_settle_106 : decode cX1_settle 106 = .ok (.imul, 1) := by decide +kernel
theorem dX1_settle_107 : decode cX1_settle 107 = .ok (.iload_n 3, 1) := by decide +kernel
theorem dX1_settle_108 : decode cX1_settle 108 = .ok (.iadd, 1) := by decide +kernel
theorem dX1_settle_109 : decode cX1_settle 109 = .ok (.iload 7, 2) := by decide +kernel
theorem dX1_settle_111 : decode cX1_settle 111 = .ok (.invokestatic 41, 3) := by decide +kernel
theorem dX1_settle_114 : decode cX1_settle 114 = .ok (.aload_n 0, 1) := by decide +kernel
theorem dX1_settle_115 : decode cX1_settle 115 = .ok (.getfield 25, 3) := by decide +kernel
theorem dX1_settle_118 : decode cX1_settle 118 = .ok (.aload_n 0, 1) := by decide +kernel
theorem dX1_settle_119 : decode cX1_settle 119 = .ok (.getfield 22, 3) := by decide +kernel
theorem dX1_settle_122 : decode cX1_settle 122 = .ok (.iload_n 1, 1) := by decide +kernel
theorem dX1_settle_123 : decode cX1_settle 123 = .ok (.invokestatic 57, 3) := by decide +kernel
theorem dX1_settle_126 : decode cX1_settle 126 = .ok (.iadd, 1) := by decide +kernel
theorem dX1_settle_127 : decode cX1_settle 127 = .ok (.aload_n 0, 1) := by decide +kernel
theorem dX1_settle_128 : decode cX1_settle 128 = .ok (.getfield 22, 3) := by decide +kernel
theorem dX1_settle_131 : decode cX1_settle 131 = .ok (.bipush 9, 2) := by decide +kernel
theorem dX1_settle_133 : decode cX1_settle 133 = .ok (.iload_n 2, 1) := by decide +kernel
theorem dX1_settle_134 : decode cX1_settle 134 = .ok (.iadd, 1) := by decide +kernel
theorem dX1_settle_135 : decode cX1_settle 135 = .ok (.invokestatic 57, 3) := by decide +kernel
theorem dX1_settle_138 : decode cX1_settle 138 = .ok (.iadd, 1) := by decide +kernel
theorem dX1_settle_139 : decode cX1_settle 139 = .ok (.aload_n 0, 1) := by decide +kernel
theorem dX1_settle_140 : decode cX1_settle 140 = .ok (.getfield 22, 3) := by decide +kernel
theorem dX1_settle_143 : decode cX1_settle 143 = .ok (.bipush 18, 2) := by decide +kernel
theorem dX1_settle_145 : decode cX1_settle 145 = .ok (.iload_n 3, 1) := by decide +kernel
theorem dX1_settle_146 : decode cX1_settle 146 = .ok (.iadd, 1) := by decide +kernel
theorem dX1_settle_147 : decode cX1_settle 147 = .ok (.invokestatic 57, 3) := by decide +kernel
theorem dX1_settle_150 : decode cX1_settle 150 = .ok (.iadd, 1) := by decide +kernel
theorem dX1_settle_151 : decode cX1_settle 151 = .ok (.istore 8, 2) := by decide +kernel
theorem dX1_settle_153 : decode cX1_settle 153 = .ok (.aload_n 0, 1) := by decide +kernel
theorem dX1_settle_154 : decode cX1_settle 154 = .ok (.iconst 0, 1) := by decide +kernel
theorem dX1_settle_155 : decode cX1_settle 155 = .ok (.iload_n 1, 1) := by decide +kernel
theorem dX1_settle_156 : decode cX1_settle 156 = .ok (.iload 4, 2) := by decide +kernel
theorem dX1_settle_158 : decode cX1_settle 158 = .ok (.iload 7, 2) := by decide +kernel
theorem dX1_settle_160 : decode cX1_settle 160 = .ok (.iload_n 1, 1) := by decide +kernel
theorem dX1_settle_161 : decode cX1_settle 161 = .ok (.iload 8, 2) := by decide +kernel
theorem dX1_settle_163 : decode cX1_settle 163 = .ok (.imul, 1) := by decide +kernel
theorem dX1_settle_164 : decode cX1_settle 164 = .ok (.isub, 1) := by decide +kernel
theorem dX1_settle_165 : decode cX1_settle 165 = .ok (.invokevirtual 86, 3) := by decide +kernel
theorem dX1_settle_168 : decode cX1_settle 168 = .ok (.aload_n 0, 1) := by decide +kernel
theorem dX1_settle_169 : decode cX1_settle 169 = .ok (.iconst 1, 1) := by decide +kernel
theorem dX1_settle_170 : decode cX1_settle 170 = .ok (.iload_n 2, 1) := by decide +kernel
theorem dX1_settle_171 : decode cX1_settle 171 = .ok (.iload 5, 2) := by decide +kernel
theorem dX1_settle_173 : decode cX1_settle 173 = .ok (.iload 7, 2) := by decide +kernel
theorem dX1_settle_175 : decode cX1_settle 175 = .ok (.iload_n 2, 1) := by decide +kernel
theorem dX1_settle_176 : decode cX1_settle 176 = .ok (.iload 8, 2) := by decide +kernel
theorem dX1_settle_178 : decode cX1_settle 178 = .ok (.imul, 1) := by decide +kernel
theorem dX1_settle_179 : decode cX1_settle 179 = .ok (.isub, 1) := by decide +kernel
theorem dX1_settle_180 : decode cX1_settle 180 = .ok (.invokevirtual 86, 3) := by decide +kernel
theorem dX1_settle_183 : decode cX1_settle 183 = .ok (.aload_n 0, 1) := by decide +kernel
theorem dX1_settle_184 : decode cX1_settle 184 = .ok (.iconst 2, 1) := by decide +kernel
theorem dX1_settle_185 : decode cX1_settle 185 = .ok (.iload_n 3, 1) := by decide +kernel
theorem dX1_settle_186 : decode cX1_settle 186 = .ok (.iload 6, 2) := by decide +kernel
theorem dX1_settle_188 : decode cX1_settle 188 = .ok (.iload 7, 2) := by decide +kernel
theorem dX1_settle_190 : decode cX1_settle 190 = .ok (.iload_n 3, 1) := by decide +kernel
theorem dX1_settle_191 : decode cX1_settle 191 = .ok (.iload 8, 2) := by decide +kernel
theorem dX1_settle_193 : decode cX1_settle 193 = .ok (.imul, 1) := by decide +kernel
theorem dX1_settle_194 : decode cX1_settle 194 = .ok (.isub, 1) := by decide +kernel
theorem dX1_settle_195 : decode cX1_settle 195 = .ok (.invokevirtual 86, 3) := by decide +kernel
theorem dX1_settle_198 : decode cX1_settle 198 = .ok (.return_, 1) := by decide +kernel
theorem dX1_through_0 : decode cX1_through 0 = .ok (.iload_n 2, 1) := by decide +kernel
theorem dX1_through_1 : decode cX1_through 1 = .ok (.aload_n 0, 1) := by decide +kernel
theorem dX1_through_2 : decode cX1_through 2 = .ok (.iload_n 1, 1) := by decide +kernel
theorem dX1_through_3 : decode cX1_through 3 = .ok (.invokevirtual 69, 3) := by decide +kernel
theorem dX1_through_6 : decode cX1_through 6 = .ok (.if_icmp .ge 27, 3) := by decide +kernel
theorem dX1_through_9 : decode cX1_through 9 = .ok (.aload_n 0, 1) := by decide +kernel
theorem dX1_through_10 : decode cX1_through 10 = .ok (.getfield 18, 3) := by decide +kernel
theorem dX1_through_13 : decode cX1_through 13 = .ok (.iload_n 2, 1) := by decide +kernel
theorem dX1_through_14 : decode cX1_through 14 = .ok (.iconst 1, 1) := by decide +kernel
theorem dX1_through_15 : decode cX1_through 15 = .ok (.iadd, 1) := by decide +kernel
theorem dX1_through_16 : decode cX1_through 16 = .ok (.invokestatic 57, 3) := by decide +kernel
theorem dX1_through_19 : decode cX1_through 19 = .ok (.aload_n 0, 1) := by decide +kernel
theorem dX1_through_20 : decode cX1_through 20 = .ok (.getfield 31, 3) := by decide +kernel
theorem dX1_through_23 : decode cX1_through 23 = .ok (.iload_n 3, 1) := by decide +kernel
theorem dX1_through_24 : decode cX1_through 24 = .ok (.invokestatic 57, 3) := by decide +kernel
theorem dX1_through_27 : decode cX1_through 27 = .ok (.invokestatic 90, 3) := by decide +kernel
theorem dX1_through_30 : decode cX1_through 30 = .ok (.goto 5, 3) := by decide +kernel
theorem dX1_through_33 : decode cX1_through 33 = .ok (.ldc 93, 2) := by decide +kernel
theorem dX1_through_35 : decode cX1_through 35 = .ok (.ireturn, 1) := by decide +kernel
theorem dX1_offer_0 : decode cX1_offer 0 = .ok (.iload_n 2, 1) := by decide +kernel
theorem dX1_offer_1 : decode cX1_offer 1 = .ok (.aload_n 0, 1) := by decide +kernel
theorem dX1_offer_2 : decode cX1_offer 2 = .ok (.iload_n 1, 1) := by decide +kernel
theorem dX1_offer_3 : decode cX1_offer 3 = .ok (.invokevirtual 69, 3) := by decide +kernel
theorem dX1_offer_6 : decode cX1_offer 6 = .ok (.if_icmp .ne 7, 3) := by decide +kernel
theorem dX1_offer_9 : decode cX1_offer 9 = .ok (.iconst 1, 1) := by decide +kernel
theorem dX1_offer_10 : decode cX1_offer 10 = .ok (.goto 4, 3) := by decide +kernel
theorem dX1_offer_13 : decode cX1_offer 13 = .ok (.iconst 0, 1) := by decide +kernel
theorem dX1_offer_14 : decode cX1_offer 14 = .ok (.istore 5, 2) := by decide +kernel
theorem dX1_offer_16 : decode cX1_offer 16 = .ok (.aload_n 0, 1) := by decide +kernel
theorem dX1_offer_17 : decode cX1_offer 17 = .ok (.getfield 31, 3) := by decide +kernel
theorem dX1_offer_20 : decode cX1_offer 20 = .ok (.iload_n 3, 1) := by decide +kernel
theorem dX1_offer_21 : decode cX1_offer 21 = .ok (.iload 5, 2) := by decide +kernel
theorem dX1_offer_23 : decode cX1_offer 23 = .ok (.ifCond .eq 8, 3) := by decide +kernel
theorem dX1_offer_26 : decode cX1_offer 26 = .ok (.iload 4, 2) := by decide +kernel
theorem dX1_offer_28 : decode cX1_offer 28 = .ok (.goto 16, 3) := by decide +kernel
theorem dX1_offer_31 : decode cX1_offer 31 = .ok (.iload 4, 2) := by decide +kernel
theorem dX1_offer_33 : decode cX1_offer 33 = .ok (.aload_n 0, 1) := by decide +kernel
theorem dX1_offer_34 : decode cX1_offer 34 = .ok (.getfield 31, 3) := by decide +kernel
theorem dX1_offer_37 : decode cX1_offer 37 = .ok (.iload_n 3, 1) := by decide +kernel
theorem dX1_offer_38 : decode cX1_offer 38 = .ok (.invokestatic 57, 3) := by decide +kernel
theorem dX1_offer_41 : decode cX1_offer 41 = .ok (.invokestatic 81, 3) := by decide +kernel
theorem dX1_offer_44 : decode cX1_offer 44 = .ok (.invokestatic 41, 3) := by decide +kernel
theorem dX1_offer_47 : decode cX1_offer 47 = .ok (.return_, 1) := by decide +kernel
theorem dX1_write_0 : decode cX1_write 0 = .ok (.aload_n 2, 1) := by decide +kernel
theorem dX1_write_1 : decode cX1_write 1 = .ok (.invokevirtual 94, 3) := by decide +kernel
theorem dX1_write_4 : decode cX1_write 4 = .ok (.aload_n 0, 1) := by decide +kernel
theorem dX1_write_5 : decode cX1_write 5 = .ok (.getfield 34, 3) := by decide +kernel
theorem dX1_write_8 : decode cX1_write 8 = .ok (.iconst 0, 1) := by decide +kernel
theorem dX1_write_9 : decode cX1_write 9 = .ok (.invokestatic 50, 3) := by decide +kernel
theorem dX1_write_12 : decode cX1_write 12 = .ok (.iload_n 1, 1) := by decide +kernel
theorem dX1_write_13 : decode cX1_write 13 = .ok (.istore_n 3, 1) := by decide +kernel
theorem dX1_write_14 : decode cX1_write 14 = .ok (.iconst 0, 1) := by decide +kernel
theorem dX1_write_15 : decode cX1_write 15 = .ok (.istore 4, 2) := by decide +kernel
theorem dX1_write_17 : decode cX1_write 17 = .ok (.iload 4, 2) := by decide +kernel
theorem dX1_write_19 : decode cX1_write 19 = .ok (.bipush 30, 2) := by decide +kernel
theorem dX1_write_21 : decode cX1_write 21 = .ok (.if_icmp .ge 69, 3) := by decide +kernel
theorem dX1_write_24 : decode cX1_write 24 = .ok (.aload_n 0, 1) := by decide +kernel
theorem dX1_write_25 : decode cX1_write 25 = .ok (.iload_n 3, 1) := by decide +kernel
theorem dX1_write_26 : decode cX1_write 26 = .ok (.invokevirtual 99, 3) := by decide +kernel
theorem dX1_write_29 : decode cX1_write 29 = .ok (.istore 5, 2) := by decide +kernel
theorem dX1_write_31 : decode cX1_write 31 = .ok (.iload 5, 2) := by decide +kernel
theorem dX1_write_33 : decode cX1_write 33 = .ok (.bipush (-6), 2) := by decide +kernel
theorem dX1_write_35 : decode cX1_write 35 = .ok (.if_icmp .ne 4, 3) := by decide +kernel
theorem dX1_write_38 : decode cX1_write 38 = .ok (.return_, 1) := by decide +kernel
theorem dX1_write_39 : decode cX1_write 39 = .ok (.iload 5, 2) := by decide +kernel
theorem dX1_write_41 : decode cX1_write 41 = .ok (.bipush 10, 2) := by decide +kernel
theorem dX1_write_43 : decode cX1_write 43 = .ok (.idiv, 1) := by decide +kernel
theorem dX1_write_44 : decode cX1_write 44 = .ok (.istore 6, 2) := by decide +kernel
theorem dX1_write_46 : decode cX1_write 46 = .ok (.iload 5, 2) := by decide +kernel
theorem dX1_write_48 : decode cX1_write 48 = .ok (.bipush 10, 2) := by decide +kernel
theorem dX1_write_50 : decode cX1_write 50 = .ok (.irem, 1) := by decide +kernel
theorem dX1_write_51 : decode cX1_write 51 = .ok (.istore 7, 2) := by decide +kernel
theorem dX1_write_53 : decode cX1_write 53 = .ok (.aload_n 2, 1) := by decide +kernel
theorem dX1_write_54 : decode cX1_write 54 = .ok (.iload 6, 2) := by decide +kernel
theorem dX1_write_56 : decode cX1_write 56 = .ok (.iload 7, 2) := by decide +kernel
theorem dX1_write_58 : decode cX1_write 58 = .ok (.invokevirtual 102, 3) := by decide +kernel
theorem dX1_write_61 : decode cX1_write 61 = .ok (.pop, 1) := by decide +kernel
theorem dX1_write_62 : decode cX1_write 62 = .ok (.iload_n 3, 1) := by decide +kernel
theorem dX1_write_63 : decode cX1_write 63 = .ok (.aload_n 0, 1) := by decide +kernel
theorem dX1_write_64 : decode cX1_write 64 = .ok (.iload 6, 2) := by decide +kernel
theorem dX1_write_66 : decode cX1_write 66 = .ok (.iload 7, 2) := by decide +kernel
theorem dX1_write_68 : decode cX1_write 68 = .ok (.invokevirtual 106, 3) := by decide +kernel
theorem dX1_write_71 : decode cX1_write 71 = .ok (.iadd, 1) := by decide +kernel
theorem dX1_write_72 : decode cX1_write 72 = .ok (.istore_n 3, 1) := by decide +kernel
theorem dX1_write_73 : decode cX1_write 73 = .ok (.aload_n 0, 1) := by decide +kernel
theorem dX1_write_74 : decode cX1_write 74 = .ok (.getfield 34, 3) := by decide +kernel
theorem dX1_write_77 : decode cX1_write 77 = .ok (.iload 6, 2) := by decide +kernel
theorem dX1_write_79 : decode cX1_write 79 = .ok (.iload 7, 2) := by decide +kernel
theorem dX1_write_81 : decode cX1_write 81 = .ok (.invokestatic 41, 3) := by decide +kernel
theorem dX1_write_84 : decode cX1_write 84 = .ok (.iinc 4 1, 3) := by decide +kernel
theorem dX1_write_87 : decode cX1_write 87 = .ok (.goto (-70), 3) := by decide +kernel
theorem dX1_write_90 : decode cX1_write 90 = .ok (.return_, 1) := by decide +kernel
theorem dX1_firstTrip_0 : decode cX1_firstTrip 0 = .ok (.iconst 0, 1) := by decide +kernel
theorem dX1_firstTrip_1 : decode cX1_firstTrip 1 = .ok (.istore_n 2, 1) := by decide +kernel
theorem dX1_firstTrip_2 : decode cX1_firstTrip 2 = .ok (.iload_n 2, 1) := by decide +kernel
theorem dX1_firstTrip_3 : decode cX1_firstTrip 3 = .ok (.aload_n 0, 1) := by decide +kernel
theorem dX1_firstTrip_4 : decode cX1_firstTrip 4 = .ok (.getfield 9, 3) := by decide +kernel
theorem dX1_firstTrip_7 : decode cX1_firstTrip 7 = .ok (.if_icmp .ge 87, 3) := by decide +kernel
theorem dX1_firstTrip_10 : decode cX1_firstTrip 10 = .ok (.aload_n 0, 1) := by decide +kernel
theorem dX1_firstTrip_11 : decode cX1_firstTrip 11 = .ok (.getfield 34, 3) := by decide +kernel
theorem dX1_firstTrip_14 : decode cX1_firstTrip 14 = .ok (.iload_n 2, 1) := by decide +kernel
theorem dX1_firstTrip_15 : decode cX1_firstTrip 15 = .ok (.invokestatic 57, 3) := by decide +kernel
theorem dX1_firstTrip_18 : decode cX1_firstTrip 18 = .ok (.iconst 1, 1) := by decide +kernel
theorem dX1_firstTrip_19 : decode cX1_firstTrip 19 = .ok (.iadd, 1) := by decide +kernel
theorem dX1_firstTrip_20 : decode cX1_firstTrip 20 = .ok (.istore_n 3, 1) := by decide +kernel
theorem dX1_firstTrip_21 : decode cX1_firstTrip 21 = .ok (.iload_n 1, 1) := by decide +kernel
theorem dX1_firstTrip_22 : decode cX1_firstTrip 22 = .ok (.aload_n 0, 1) := by decide +kernel
theorem dX1_firstTrip_23 : decode cX1_firstTrip 23 = .ok (.getfield 18, 3) := by decide +kernel
theorem dX1_firstTrip_26 : decode cX1_firstTrip 26 = .ok (.iload_n 3, 1) := by decide +kernel
theorem dX1_firstTrip_27 : decode cX1_firstTrip 27 = .ok (.invokestatic 57, 3) := by decide +kernel
theorem dX1_firstTrip_30 : decode cX1_firstTrip 30 = .ok (.if_icmp .le 6, 3) := by decide +kernel
theorem dX1_firstTrip_33 : decode cX1_firstTrip 33 = .ok (.goto 55, 3) := by decide +kernel
theorem dX1_firstTrip_36 : decode cX1_firstTrip 36 = .ok (.iload_n 3, 1) := by decide +kernel
theorem dX1_firstTrip_37 : decode cX1_firstTrip 37 = .ok (.istore 4, 2) := by decide +kernel
theorem dX1_firstTrip_39 : decode cX1_firstTrip 39 = .ok (.iload 4, 2) := by decide +kernel
theorem dX1_firstTrip_41 : decode cX1_firstTrip 41 = .ok (.aload_n 0, 1) := by decide +kernel
theorem dX1_firstTrip_42 : decode cX1_firstTrip 42 = .ok (.getfield 15, 3) := by decide +kernel
theorem dX1_firstTrip_45 : decode cX1_firstTrip 45 = .ok (.if_icmp .gt 43, 3) := by decide +kernel
theorem dX1_firstTrip_48 : decode cX1_firstTrip 48 = .ok (.iload_n 1, 1) := by decide +kernel
theorem dX1_firstTrip_49 : decode cX1_firstTrip 49 = .ok (.aload_n 0, 1) := by decide +kernel
theorem dX1_firstTrip_50 : decode cX1_firstTrip 50 = .ok (.iload_n 2, 1) := by decide +kernel
theorem dX1_firstTrip_51 : decode cX1_firstTrip 51 = .ok (.iload 4, 2) := by decide +kernel
theorem dX1_firstTrip_53 : decode cX1_firstTrip 53 = .ok (.invokevirtual 106, 3) := by decide +kernel
theorem dX1_firstTrip_56 : decode cX1_firstTrip 56 = .ok (.iadd, 1) := by decide +kernel
theorem dX1_firstTrip_57 : decode cX1_firstTrip 57 = .ok (.aload_n 0, 1) := by decide +kernel
theorem dX1_firstTrip_58 : decode cX1_firstTrip 58 = .ok (.getfield 28, 3) := by decide +kernel
theorem dX1_firstTrip_61 : decode cX1_firstTrip 61 = .ok (.aload_n 0, 1) := by decide +kernel
theorem dX1_firstTrip_62 : decode cX1_firstTrip 62 = .ok (.iload_n 2, 1) := by decide +kernel
theorem dX1_firstTrip_63 : decode cX1_firstTrip 63 = .ok (.iload 4, 2) := by decide +kernel
theorem dX1_firstTrip_65 : decode cX1_firstTrip 65 = .ok (.invokevirtual 109, 3) := by decide +kernel
theorem dX1_firstTrip_68 : decode cX1_firstTrip 68 = .ok (.invokestatic 57, 3) := by decide +kernel
theorem dX1_firstTrip_71 : decode cX1_firstTrip 71 = .ok (.if_icmp .gt 11, 3) := by decide +kernel
theorem dX1_firstTrip_74 : decode cX1_firstTrip 74 = .ok (.bipush 10, 2) := by decide +kernel
theorem dX1_firstTrip_76 : decode cX1_firstTrip 76 = .ok (.iload_n 2, 1) := by decide +kernel
theorem dX1_firstTrip_77 : decode cX1_firstTrip 77 = .ok (.imul, 1) := by decide +kernel
theorem dX1_firstTrip_78 : decode cX1_firstTrip 78 = .ok (.iload 4, 2) := by decide +kernel
theorem dX1_firstTrip_80 : decode cX1_firstTrip 80 = .ok (.iadd, 1) := by decide +kernel
theorem dX1_firstTrip_81 : decode cX1_firstTrip 81 = .ok (.ireturn, 1) := by decide +kernel
theorem dX1_firstTrip_82 : decode cX1_firstTrip 82 = .ok (.iinc 4 1, 3) := by decide +kernel
theorem dX1_firstTrip_85 : decode cX1_firstTrip 85 = .ok (.goto (-46), 3) := by decide +kernel
theorem dX1_firstTrip_88 : decode cX1_firstTrip 88 = .ok (.iinc 2 1, 3) := by decide +kernel
theorem dX1_firstTrip_91 : decode cX1_firstTrip 91 = .ok (.goto (-89), 3) := by decide +kernel
theorem dX1_firstTrip_94 : decode cX1_firstTrip 94 = .ok (.bipush (-6), 2) := by decide +kernel
theorem dX1_firstTrip_96 : decode cX1_firstTrip 96 = .ok (.ireturn, 1) := by decide +kernel
theorem dX1_costOf_0 : decode cX1_costOf 0 = .ok (.aload_n 0, 1) := by decide +kernel
theorem dX1_costOf_1 : decode cX1_costOf 1 = .ok (.getfield 25, 3) := by decide +kernel
theorem dX1_costOf_4 : decode cX1_costOf 4 = .ok (.istore_n 3, 1) := by decide +kernel
theorem dX1_costOf_5 : decode cX1_costOf 5 = .ok (.iconst 0, 1) := by decide +kernel
theorem dX1_costOf_6 : decode cX1_costOf 6 = .ok (.istore 4, 2) := by decide +kernel
theorem dX1_costOf_8 : decode cX1_costOf 8 = .ok (.iload 4, 2) := by decide +kernel
theorem dX1_costOf_10 : decode cX1_costOf 10 = .ok (.iconst 3, 1) := by decide +kernel
theorem dX1_costOf_11 : decode cX1_costOf 11 = .ok (.if_icmp .ge 44, 3) := by decide +kernel
theorem dX1_costOf_14 : decode cX1_costOf 14 = .ok (.iload_n 3, 1) := by decide +kernel
theorem dX1_costOf_15 : decode cX1_costOf 15 = .ok (.aload_n 0, 1) := by decide +kernel
theorem dX1_costOf_16 : decode cX1_costOf 16 = .ok (.getfield 22, 3) := by decide +kernel
theorem dX1_costOf_19 : decode cX1_costOf 19 = .ok (.iload 4, 2) := by decide +kernel
theorem dX1_costOf_21 : decode cX1_costOf 21 = .ok (.bipush 9, 2) := by decide +kernel
theorem dX1_costOf_23 : decode cX1_costOf 23 = .ok (.imul, 1) := by decide +kernel
theorem dX1_costOf_24 : decode cX1_costOf 24 = .ok (.iload 4, 2) := by decide +kernel
theorem dX1_costOf_26 : decode cX1_costOf 26 = .ok (.iload_n 1, 1) := by decide +kernel
theorem dX1_costOf_27 : decode cX1_costOf 27 = .ok (.if_icmp .ne 7, 3) := by decide +kernel
theorem dX1_costOf_30 : decode cX1_costOf 30 = .ok (.iload_n 2, 1) := by decide +kernel
theorem dX1_costOf_31 : decode cX1_costOf 31 = .ok (.goto 12, 3) := by decide +kernel
theorem dX1_costOf_34 : decode cX1_costOf 34 = .ok (.aload_n 0, 1) := by decide +kernel
theorem dX1_costOf_35 : decode cX1_costOf 35 = .ok (.getfield 34, 3) := by decide +kernel
theorem dX1_costOf_38 : decode cX1_costOf 38 = .ok (.iload 4, 2) := by decide +kernel
theorem dX1_costOf_40 : decode cX1_costOf 40 = .ok (.invokestatic 57, 3) := by decide +kernel
theorem dX1_costOf_43 : decode cX1_costOf 43 = .ok (.iadd, 1) := by decide +kernel
theorem dX1_costOf_44 : decode cX1_costOf 44 = .ok (.invokestatic 57, 3) := by decide +kernel
theorem dX1_costOf_47 : decode cX1_costOf 47 = .ok (.iadd, 1) := by decide +kernel
theorem dX1_costOf_48 : decode cX1_costOf 48 = .ok (.istore_n 3, 1) := by decide +kernel
theorem dX1_costOf_49 : decode cX1_costOf 49 = .ok (.iinc 4 1, 3) := by decide +kernel
theorem dX1_costOf_52 : decode cX1_costOf 52 = .ok (.goto (-44), 3) := by decide +kernel
theorem dX1_costOf_55 : decode cX1_costOf 55 = .ok (.iload_n 3, 1) := by decide +kernel
theorem dX1_costOf_56 : decode cX1_costOf 56 = .ok (.iload_n 2, 1) := by decide +kernel
theorem dX1_costOf_57 : decode cX1_costOf 57 = .ok (.imul, 1) := by decide +kernel
theorem dX1_costOf_58 : decode cX1_costOf 58 = .ok (.ireturn, 1) := by decide +kernel
theorem dX1_stateAfter_0 : decode cX1_stateAfter 0 = .ok (.iconst 0, 1) := by decide +kernel
theorem dX1_stateAfter_1 : decode cX1_stateAfter 1 = .ok (.istore_n 3, 1) := by decide +kernel
theorem dX1_stateAfter_2 : decode cX1_stateAfter 2 = .ok (.iconst 0, 1) := by decide +kernel
theorem dX1_stateAfter_3 : decode cX1_stateAfter 3 = .ok (.istore 4, 2) := by decide +kernel
theorem dX1_stateAfter_5 : decode cX1_stateAfter 5 = .ok (.iload 4, 2) := by decide +kernel
theorem dX1_stateAfter_7 : decode cX1_stateAfter 7 = .ok (.iconst 3, 1) := by decide +kernel
theorem dX1_stateAfter_8 : decode cX1_stateAfter 8 = .ok (.if_icmp .ge 34, 3) := by decide +kernel
theorem dX1_stateAfter_11 : decode cX1_stateAfter 11 = .ok (.iload_n 3, 1) := by decide +kernel
theorem dX1_stateAfter_12 : decode cX1_stateAfter 12 = .ok (.bipush 9, 2) := by decide +kernel
theorem dX1_stateAfter_14 : decode cX1_stateAfter 14 = .ok (.imul, 1) := by decide +kernel
theorem dX1_stateAfter_15 : decode cX1_stateAfter 15 = .ok (.iload 4, 2) := by decide +kernel
theorem dX1_stateAfter_17 : decode cX1_stateAfter 17 = .ok (.iload_n 1, 1) := by decide +kernel
theorem dX1_stateAfter_18 : decode cX1_stateAfter 18 = .ok (.if_icmp .ne 7, 3) := by decide +kernel
theorem dX1_stateAfter_21 : decode cX1_stateAfter 21 = .ok (.iload_n 2, 1) := by decide +kernel
theorem dX1_stateAfter_22 : decode cX1_stateAfter 22 = .ok (.goto 12, 3) := by decide +kernel
theorem dX1_stateAfter_25 : decode cX1_stateAfter 25 = .ok (.aload_n 0, 1) := by decide +kernel
theorem dX1_stateAfter_26 : decode cX1_stateAfter 26 = .ok (.getfield 34, 3) := by decide +kernel
theorem dX1_stateAfter_29 : decode cX1_stateAfter 29 = .ok (.iload 4, 2) := by decide +kernel
theorem dX1_stateAfter_31 : decode cX1_stateAfter 31 = .ok (.invokestatic 57, 3) := by decide +kernel
theorem dX1_stateAfter_34 : decode cX1_stateAfter 34 = .ok (.iadd, 1) := by decide +kernel
theorem dX1_stateAfter_35 : decode cX1_stateAfter 35 = .ok (.istore_n 3, 1) := by decide +kernel
theorem dX1_stateAfter_36 : decode cX1_stateAfter 36 = .ok (.iinc 4 1, 3) := by decide +kernel
theorem dX1_stateAfter_39 : decode cX1_stateAfter 39 = .ok (.goto (-34), 3) := by decide +kernel
theorem dX1_stateAfter_42 : decode cX1_stateAfter 42 = .ok (.iload_n 3, 1) := by decide +kernel
theorem dX1_stateAfter_43 : decode cX1_stateAfter 43 = .ok (.ireturn, 1) := by decide +kernel
theorem dX2_init_0 : decode cX2_init 0 = .ok (.aload_n 0, 1) := by decide +kernel
theorem dX2_init_1 : decode cX2_init 1 = .ok (.invokespecial 3, 3) := by decide +kernel
theorem dX2_init_4 : decode cX2_init 4 = .ok (.aload_n 0, 1) := by decide +kernel
theorem dX2_init_5 : decode cX2_init 5 = .ok (.bipush 30, 2) := by decide +kernel
theorem dX2_init_7 : decode cX2_init 7 = .ok (.newarray .int, 2) := by decide +kernel
theorem dX2_init_9 : decode cX2_init 9 = .ok (.putfield 9, 3) := by decide +kernel
theorem dX2_init_12 : decode cX2_init 12 = .ok (.aload_n 0, 1) := by decide +kernel
theorem dX2_init_13 : decode cX2_init 13 = .ok (.bipush 30, 2) := by decide +kernel
theorem dX2_init_15 : decode cX2_init 15 = .ok (.newarray .int, 2) := by decide +kernel
theorem dX2_init_17 : decode cX2_init 17 = .ok (.putfield 15, 3) := by decide +kernel
theorem dX2_init_20 : decode cX2_init 20 = .ok (.aload_n 0, 1) := by decide +kernel
theorem dX2_init_21 : decode cX2_init 21 = .ok (.iconst 0, 1) := by decide +kernel
theorem dX2_init_22 : decode cX2_init 22 = .ok (.putfield 18, 3) := by decide +kernel
theorem dX2_init_25 : decode cX2_init 25 = .ok (.return_, 1) := by decide +kernel
theorem dX2_has_0 : decode cX2_has 0 = .ok (.iload_n 1, 1) := by decide +kernel
theorem dX2_has_1 : decode cX2_has 1 = .ok (.ifCond .lt 15, 3) := by decide +kernel
theorem dX2_has_4 : decode cX2_has 4 = .ok (.iload_n 1, 1) := by decide +kernel
theorem dX2_has_5 : decode cX2_has 5 = .ok (.aload_n 0, 1) := by decide +kernel
theorem dX2_has_6 : decode cX2_has 6 = .ok (.getfield 18, 3) := by decide +kernel
theorem dX2_has_9 : decode cX2_has 9 = .ok (.if_icmp .ge 7, 3) := by decide +kernel
theorem dX2_has_12 : decode cX2_has 12 = .ok (.iconst 1, 1) := by decide +kernel
theorem dX2_has_13 : decode cX2_has 13 = .ok (.goto 4, 3) := by decide +kernel
theorem dX2_has_16 : decode cX2_has 16 = .ok (.iconst 0, 1) := by decide +kernel
theorem dX2_has_17 : decode cX2_has 17 = .ok (.ireturn, 1) := by decide +kernel
theorem dX2_rayOf_0 : decode cX2_rayOf 0 = .ok (.aload_n 0, 1) := by decide +kernel
theorem dX2_rayOf_1 : decode cX2_rayOf 1 = .ok (.iload_n 1, 1) := by decide +kernel
theorem dX2_rayOf_2 : decode cX2_rayOf 2 = .ok (.invokevirtual 22, 3) := by decide +kernel
theorem dX2_rayOf_5 : decode cX2_rayOf 5 = .ok (.ifCond .eq 14, 3) := by decide +kernel
theorem dX2_rayOf_8 : decode cX2_rayOf 8 = .ok (.aload_n 0, 1) := by decide +kernel
theorem dX2_rayOf_9 : decode cX2_rayOf 9 = .ok (.getfield 9, 3) := by decide +kernel
theorem dX2_rayOf_12 : decode cX2_rayOf 12 = .ok (.iload_n 1, 1) := by decide +kernel
theorem dX2_rayOf_13 : decode cX2_rayOf 13 = .ok (.invokestatic 26, 3) := by decide +kernel
theorem dX2_rayOf_16 : decode cX2_rayOf 16 = .ok (.goto 4, 3) := by decide +kernel
theorem dX2_rayOf_19 : decode cX2_rayOf 19 = .ok (.iconst 0, 1) := by decide +kernel
theorem dX2_rayOf_20 : decode cX2_rayOf 20 = .ok (.ireturn, 1) := by decide +kernel
theorem dX2_stepsOf_0 : decode cX2_stepsOf 0 = .ok (.aload_n 0, 1) := by decide +kernel
theorem dX2_stepsOf_1 : decode cX2_stepsOf 1 = .ok (.iload_n 1, 1) := by decide +kernel
theorem dX2_stepsOf_2 : decode cX2_stepsOf 2 = .ok (.invokevirtual 22, 3) := by decide +kernel
theorem dX2_stepsOf_5 : decode cX2_stepsOf 5 = .ok (.ifCond .eq 14, 3) := by decide +kernel
theorem dX2_stepsOf_8 : decode cX2_stepsOf 8 = .ok (.aload_n 0, 1) := by decide +kernel
theorem dX2_stepsOf_9 : decode cX2_stepsOf 9 = .ok (.getfield 15, 3) := by decide +kernel
theorem dX2_stepsOf_12 : decode cX2_stepsOf 12 = .ok (.iload_n 1, 1) := by decide +kernel
theorem dX2_stepsOf_13 : decode cX2_stepsOf 13 = .ok (.invokestatic 26, 3) := by decide +kernel
theorem dX2_stepsOf_16 : decode cX2_stepsOf 16 = .ok (.goto 4, 3) := by decide +kernel
theorem dX2_stepsOf_19 : decode cX2_stepsOf 19 = .ok (.iconst 0, 1) := by decide +kernel
theorem dX2_stepsOf_20 : decode cX2_stepsOf 20 = .ok (.ireturn, 1) := by decide +kernel
theorem dX2_add_0 : decode cX2_add 0 = .ok (.aload_n 0, 1) := by decide +kernel
theorem dX2_add_1 : decode cX2_add 1 = .ok (.getfield 18, 3) := by decide +kernel
theorem dX2_add_4 : decode cX2_add 4 = .ok (.bipush 30, 2) := by decide +kernel
theorem dX2_add_6 : decode cX2_add 6 = .ok (.if_icmp .lt 5, 3) := by decide +kernel
theorem dX2_add_9 : decode cX2_add 9 = .ok (.iconst 0, 1) := by decide +kernel
theorem dX2_add_10 : decode cX2_add 10 = .ok (.ireturn, 1) := by decide +kernel
theorem dX2_add_11 : decode cX2_add 11 = .ok (.aload_n 0, 1) := by decide +kernel
theorem dX2_add_12 : decode cX2_add 12 = .ok (.getfield 9, 3) := by decide +kernel
theorem dX2_add_15 : decode cX2_add 15 = .ok (.aload_n 0, 1) := by decide +kernel
theorem dX2_add_16 : decode cX2_add 16 = .ok (.getfield 18, 3) := by decide +kernel
theorem dX2_add_19 : decode cX2_add 19 = .ok (.iload_n 1, 1) := by decide +kernel
theorem dX2_add_20 : decode cX2_add 20 = .ok (.invokestatic 30, 3) := by decide +kernel
theorem dX2_add_23 : decode cX2_add 23 = .ok (.aload_n 0, 1) := by decide +kernel
theorem dX2_add_24 : decode cX2_add 24 = .ok (.getfield 15, 3) := by decide +kernel
theorem dX2_add_27 : decode cX2_add 27 = .ok (.aload_n 0, 1) := by decide +kernel
theorem dX2_add_28 : decode cX2_add 28 = .ok (.getfield 18, 3) := by decide +kernel
theorem dX2_add_31 : decode cX2_add 31 = .ok (.iload_n 2, 1) := by decide +kernel
theorem dX2_add_32 : decode cX2_add 32 = .ok (.invokestatic 30, 3) := by decide +kernel
theorem dX2_add_35 : decode cX2_add 35 = .ok (.aload_n 0, 1) := by decide +kernel
theorem dX2_add_36 : decode cX2_add 36 = .ok (.dup, 1) := by decide +kernel
theorem dX2_add_37 : decode cX2_add 37 = .ok (.getfield 18, 3) := by decide +kernel
theorem dX2_add_40 : decode cX2_add 40 = .ok (.iconst 1, 1) := by decide +kernel
theorem dX2_add_41 : decode cX2_add 41 = .ok (.iadd, 1) := by decide +kernel
theorem dX2_add_42 : decode cX2_add 42 = .ok (.putfield 18, 3) := by decide +kernel
theorem dX2_add_45 : decode cX2_add 45 = .ok (.iconst 1, 1) := by decide +kernel
theorem dX2_add_46 : decode cX2_add 46 = .ok (.ireturn, 1) := by decide +kernel
theorem dX2_removeLast_0 : decode cX2_removeLast 0 = .ok (.aload_n 0, 1) := by decide +kernel
theorem dX2_removeLast_1 : decode cX2_removeLast 1 = .ok (.getfield 18, 3) := by decide +kernel
theorem dX2_removeLast_4 : decode cX2_removeLast 4 = .ok (.iconst 1, 1) := by decide +kernel
theorem dX2_removeLast_5 : decode cX2_removeLast 5 = .ok (.if_icmp .ge 5, 3) := by decide +kernel
theorem dX2_removeLast_8 : decode cX2_removeLast 8 = .ok (.iconst 0, 1) := by decide +kernel
theorem dX2_removeLast_9 : decode cX2_removeLast 9 = .ok (.ireturn, 1) := by decide +kernel
theorem dX2_removeLast_10 : decode cX2_removeLast 10 = .ok (.aload_n 0, 1) := by decide +kernel
theorem dX2_removeLast_11 : decode cX2_removeLast 11 = .ok (.dup, 1) := by decide +kernel
theorem dX2_removeLast_12 : decode cX2_removeLast 12 = .ok (.getfield 18, 3) := by decide +kernel
theorem dX2_removeLast_15 : decode cX2_removeLast 15 = .ok (.iconst 1, 1) := by decide +kernel
theorem dX2_removeLast_16 : decode cX2_removeLast 16 = .ok (.isub, 1) := by decide +kernel
theorem dX2_removeLast_17 : decode cX2_removeLast 17 = .ok (.putfield 18, 3) := by decide +kernel
theorem dX2_removeLast_20 : decode cX2_removeLast 20 = .ok (.iconst 1, 1) := by decide +kernel
theorem dX2_removeLast_21 : decode cX2_removeLast 21 = .ok (.ireturn, 1) := by decide +kernel
theorem dX2_empty_0 : decode cX2_empty 0 = .ok (.aload_n 0, 1) := by decide +kernel
theorem dX2_empty_1 : decode cX2_empty 1 = .ok (.iconst 0, 1) := by decide +kernel
theorem dX2_empty_2 : decode cX2_empty 2 = .ok (.putfield 18, 3) := by decide +kernel
theorem dX2_empty_5 : decode cX2_empty 5 = .ok (.return_, 1) := by decide +kernel
theorem dX2_copy_0 : decode cX2_copy 0 = .ok (.aload_n 0, 1) := by decide +kernel
theorem dX2_copy_1 : decode cX2_copy 1 = .ok (.iconst 0, 1) := by decide +kernel
theorem dX2_copy_2 : decode cX2_copy 2 = .ok (.putfield 18, 3) := by decide +kernel
theorem dX2_copy_5 : decode cX2_copy 5 = .ok (.iconst 0, 1) := by decide +kernel
theorem dX2_copy_6 : decode cX2_copy 6 = .ok (.istore_n 2, 1) := by decide +kernel
theorem dX2_copy_7 : decode cX2_copy 7 = .ok (.iload_n 2, 1) := by decide +kernel
theorem dX2_copy_8 : decode cX2_copy 8 = .ok (.aload_n 1, 1) := by decide +kernel
theorem dX2_copy_9 : decode cX2_copy 9 = .ok (.getfield 18, 3) := by decide +kernel
theorem dX2_copy_12 : decode cX2_copy 12 = .ok (.if_icmp .ge 24, 3) := by decide +kernel
theorem dX2_copy_15 : decode cX2_copy 15 = .ok (.aload_n 0, 1) := by decide +kernel
theorem dX2_copy_16 : decode cX2_copy 16 = .ok (.aload_n 1, 1) := by decide +kernel
theorem dX2_copy_17 : decode cX2_copy 17 = .ok (.iload_n 2, 1) := by decide +kernel
theorem dX2_copy_18 : decode cX2_copy 18 = .ok (.invokevirtual 34, 3) := by decide +kernel
theorem dX2_copy_21 : decode cX2_copy 21 = .ok (.aload_n 1, 1) := by decide +kernel
theorem dX2_copy_22 : decode cX2_copy 22 = .ok (.iload_n 2, 1) := by decide +kernel
theorem dX2_copy_23 : decode cX2_copy 23 = .ok (.invokevirtual 38, 3) := by decide +kernel
theorem dX2_copy_26 : decode cX2_copy 26 = .ok (.invokevirtual 41, 3) := by decide +kernel
theorem dX2_copy_29 : decode cX2_copy 29 = .ok (.pop, 1) := by decide +kernel
theorem dX2_copy_30 : decode cX2_copy 30 = .ok (.iinc 2 1, 3) := by decide +kernel
theorem dX2_copy_33 : decode cX2_copy 33 = .ok (.goto (-26), 3) := by decide +kernel
theorem dX2_copy_36 : decode cX2_copy 36 = .ok (.return_, 1) := by decide +kernel
theorem dX2_isFor_0 : decode cX2_isFor 0 = .ok (.iload_n 0, 1) := by decide +kernel
theorem dX2_isFor_1 : decode cX2_isFor 1 = .ok (.iconst (-1), 1) := by decide +kernel
theorem dX2_isFor_2 : decode cX2_isFor 2 = .ok (.if_icmp .eq 10, 3) := by decide +kernel
theorem dX2_isFor_5 : decode cX2_isFor 5 = .ok (.iload_n 1, 1) := by decide +kernel
theorem dX2_isFor_6 : decode cX2_isFor 6 = .ok (.iconst 2, 1) := by decide +kernel
theorem dX2_isFor_7 : decode cX2_isFor 7 = .ok (.irem, 1) := by decide +kernel
theorem dX2_isFor_8 : decode cX2_isFor 8 = .ok (.iload_n 0, 1) := by decide +kernel
theorem dX2_isFor_9 : decode cX2_isFor 9 = .ok (.if_icmp .ne 7, 3) := by decide +kernel
theorem dX2_isFor_12 : decode cX2_isFor 12 = .ok (.iconst 1, 1) := by decide +kernel
theorem dX2_isFor_13 : decode cX2_isFor 13 = .ok (.goto 4, 3) := by decide +kernel
theorem dX2_isFor_16 : decode cX2_isFor 16 = .ok (.iconst 0, 1) := by decide +kernel
theorem dX2_isFor_17 : decode cX2_isFor 17 = .ok (.ireturn, 1) := by decide +kernel
theorem dX2_firstTo_0 : decode cX2_firstTo 0 = .ok (.iconst 0, 1) := by decide +kernel
theorem dX2_firstTo_1 : decode cX2_firstTo 1 = .ok (.istore 4, 2) := by decide +kernel
theorem dX2_firstTo_3 : decode cX2_firstTo 3 = .ok (.iload 4, 2) := by decide +kernel
theorem dX2_firstTo_5 : decode cX2_firstTo 5 = .ok (.aload_n 0, 1) := by decide +kernel
theorem dX2_firstTo_6 : decode cX2_firstTo 6 = .ok (.getfield 18, 3) := by decide +kernel
theorem dX2_firstTo_9 : decode cX2_firstTo 9 = .ok (.if_icmp .ge 41, 3) := by decide +kernel
theorem dX2_firstTo_12 : decode cX2_firstTo 12 = .ok (.iload_n 3, 1) := by decide +kernel
theorem dX2_firstTo_13 : decode cX2_firstTo 13 = .ok (.iload 4, 2) := by decide +kernel
theorem dX2_firstTo_15 : decode cX2_firstTo 15 = .ok (.invokestatic 45, 3) := by decide +kernel
theorem dX2_firstTo_18 : decode cX2_firstTo 18 = .ok (.ifCond .eq 26, 3) := by decide +kernel
theorem dX2_firstTo_21 : decode cX2_firstTo 21 = .ok (.aload_n 0, 1) := by decide +kernel
theorem dX2_firstTo_22 : decode cX2_firstTo 22 = .ok (.iload 4, 2) := by decide +kernel
theorem dX2_firstTo_24 : decode cX2_firstTo 24 = .ok (.invokevirtual 34, 3) := by decide +kernel
theorem dX2_firstTo_27 : decode cX2_firstTo 27 = .ok (.iload_n 1, 1) := by decide +kernel
theorem dX2_firstTo_28 : decode cX2_firstTo 28 = .ok (.if_icmp .ne 16, 3) := by decide +kernel
theorem dX2_firstTo_31 : decode cX2_firstTo 31 = .ok (.aload_n 0, 1) := by decide +kernel
theorem dX2_firstTo_32 : decode cX2_firstTo 32 = .ok (.iload 4, 2) := by decide +kernel
theorem dX2_firstTo_34 : decode cX2_firstTo 34 = .ok (.invokevirtual 38, 3) := by decide +kernel
theorem dX2_firstTo_37 : decode cX2_firstTo 37 = .ok (.iload_n 2, 1) := by decide +kernel
theorem dX2_firstTo_38 : decode cX2_firstTo 38 = .ok (.if_icmp .lt 6, 3) := by decide +kernel
theorem dX2_firstTo_41 : decode cX2_firstTo 41 = .ok (.iload 4, 2) := by decide +kernel
theorem dX2_firstTo_43 : decode cX2_firstTo 43 = .ok (.ireturn, 1) := by decide +kernel
theorem dX2_firstTo_44 : decode cX2_firstTo 44 = .ok (.iinc 4 1, 3) := by decide +kernel
theorem dX2_firstTo_47 : decode cX2_firstTo 47 = .ok (.goto (-44), 3) := by decide +kernel
theorem dX2_firstTo_50 : decode cX2_firstTo 50 = .ok (.iconst (-1), 1) := by decide +kernel
theorem dX2_firstTo_51 : decode cX2_firstTo 51 = .ok (.ireturn, 1) := by decide +kernel
theorem dX2_stepsAhead_0 : decode cX2_stepsAhead 0 = .ok (.iconst 0, 1) := by decide +kernel
theorem dX2_stepsAhead_1 : decode cX2_stepsAhead 1 = .ok (.istore_n 3, 1) := by decide +kernel
theorem dX2_stepsAhead_2 : decode cX2_stepsAhead 2 = .ok (.iconst 0, 1) := by decide +kernel
theorem dX2_stepsAhead_3 : decode cX2_stepsAhead 3 = .ok (.istore 4, 2) := by decide +kernel
theorem dX2_stepsAhead_5 : decode cX2_stepsAhead 5 = .ok (.iload 4, 2) := by decide +kernel
theorem dX2_stepsAhead_7 : decode cX2_stepsAhead 7 = .ok (.iload_n 1, 1) := by decide +kernel
theorem dX2_stepsAhead_8 : decode cX2_stepsAhead 8 = .ok (.if_icmp .ge 36, 3) := by decide +kernel
theorem dX2_stepsAhead_11 : decode cX2_stepsAhead 11 = .ok (.iload 4, 2) := by decide +kernel
theorem dX2_stepsAhead_13 : decode cX2_stepsAhead 13 = .ok (.aload_n 0, 1) := by decide +kernel
theorem dX2_stepsAhead_14 : decode cX2_stepsAhead 14 = .ok (.getfield 18, 3) := by decide +kernel
theorem dX2_stepsAhead_17 : decode cX2_stepsAhead 17 = .ok (.if_icmp .ge 27, 3) := by decide +kernel
theorem dX2_stepsAhead_20 : decode cX2_stepsAhead 20 = .ok (.iload_n 2, 1) := by decide +kernel
theorem dX2_stepsAhead_21 : decode cX2_stepsAhead 21 = .ok (.iload 4, 2) := by decide +kernel
theorem dX2_stepsAhead_23 : decode cX2_stepsAhead 23 = .ok (.invokestatic 45, 3) := by decide +kernel
theorem dX2_stepsAhead_26 : decode cX2_stepsAhead 26 = .ok (.ifCond .eq 12, 3) := by decide +kernel
theorem dX2_stepsAhead_29 : decode cX2_stepsAhead 29 = .ok (.iload_n 3, 1) := by decide +kernel
theorem dX2_stepsAhead_30 : decode cX2_stepsAhead 30 = .ok (.aload_n 0, 1) := by decide +kernel
theorem dX2_stepsAhead_31 : decode cX2_stepsAhead 31 = .ok (.iload 4, 2) := by decide +kernel
theorem dX2_stepsAhead_33 : decode cX2_stepsAhead 33 = .ok (.invokevirtual 38, 3) := by decide +kernel
theorem dX2_stepsAhead_36 : decode cX2_stepsAhead 36 = .ok (.iadd, 1) := by decide +kernel
theorem dX2_stepsAhead_37 : decode cX2_stepsAhead 37 = .ok (.istore_n 3, 1) := by decide +kernel
theorem dX2_stepsAhead_38 : decode cX2_stepsAhead 38 = .ok (.iinc 4 1, 3) := by decide +kernel
theorem dX2_stepsAhead_41 : decode cX2_stepsAhead 41 = .ok (.goto (-36), 3) := by decide +kernel
theorem dX2_stepsAhead_44 : decode cX2_stepsAhead 44 = .ok (.iload_n 3, 1) := by decide +kernel
theorem dX2_stepsAhead_45 : decode cX2_stepsAhead 45 = .ok (.ireturn, 1) := by decide +kernel
theorem dX2_farthest_0 : decode cX2_farthest 0 = .ok (.iconst 0, 1) := by decide +kernel
theorem dX2_farthest_1 : decode cX2_farthest 1 = .ok (.istore_n 3, 1) := by decide +kernel
theorem dX2_farthest_2 : decode cX2_farthest 2 = .ok (.iconst 0, 1) := by decide +kernel
theorem dX2_farthest_3 : decode cX2_farthest 3 = .ok (.istore 4, 2) := by decide +kernel
theorem dX2_farthest_5 : decode cX2_farthest 5 = .ok (.iload 4, 2) := by decide +kernel
theorem dX2_farthest_7 : decode cX2_farthest 7 = .ok (.iload_n 2, 1) := by decide +kernel
theorem dX2_farthest_8 : decode cX2_farthest 8 = .ok (.if_icmp .ge 39, 3) := by decide +kernel
theorem dX2_farthest_11 : decode cX2_farthest 11 = .ok (.iload 4, 2) := by decide +kernel
theorem dX2_farthest_13 : decode cX2_farthest 13 = .ok (.aload_n 0, 1) := by decide +kernel
theorem dX2_farthest_14 : decode cX2_farthest 14 = .ok (.getfield 18, 3) := by decide +kernel
theorem dX2_farthest_17 : decode cX2_farthest 17 = .ok (.if_icmp .ge 30, 3) := by decide +kernel
theorem dX2_farthest_20 : decode cX2_farthest 20 = .ok (.aload_n 0, 1) := by decide +kernel
theorem dX2_farthest_21 : decode cX2_farthest 21 = .ok (.iload 4, 2) := by decide +kernel
theorem dX2_farthest_23 : decode cX2_farthest 23 = .ok (.invokevirtual 34, 3) := by decide +kernel
theorem dX2_farthest_26 : decode cX2_farthest 26 = .ok (.iload_n 1, 1) := by decide +kernel
theorem dX2_farthest_27 : decode cX2_farthest 27 = .ok (.if_icmp .ne 14, 3) := by decide +kernel
theorem dX2_farthest_30 : decode cX2_farthest 30 = .ok (.iload_n 3, 1) := by decide +kernel
theorem dX2_farthest_31 : decode cX2_farthest 31 = .ok (.aload_n 0, 1) := by decide +kernel
theorem dX2_farthest_32 : decode cX2_farthest 32 = .ok (.iload 4, 2) := by decide +kernel
theorem dX2_farthest_34 : decode cX2_farthest 34 = .ok (.invokevirtual 38, 3) := by decide +kernel
theorem dX2_farthest_37 : decode cX2_farthest 37 = .ok (.invokestatic 48, 3) := by decide +kernel
theorem dX2_farthest_40 : decode cX2_farthest 40 = .ok (.istore_n 3, 1) := by decide +kernel
theorem dX2_farthest_41 : decode cX2_farthest 41 = .ok (.iinc 4 1, 3) := by decide +kernel
theorem dX2_farthest_44 : decode cX2_farthest 44 = .ok (.goto (-39), 3) := by decide +kernel
theorem dX2_farthest_47 : decode cX2_farthest 47 = .ok (.iload_n 3, 1) := by decide +kernel
theorem dX2_farthest_48 : decode cX2_farthest 48 = .ok (.ireturn, 1) := by decide +kernel
end
section
theorem dX3_init_0 : decode cX3_init 0 = .ok (.aload_n 0, 1) := by decide +kernel
theorem dX3_init_1 : decode cX3_init 1 = .ok (.invokespecial 3, 3) := by decide +kernel
theorem dX3_init_4 : decode cX3_init 4 = .ok (.aload_n 0, 1) := by decide +kernel
theorem dX3_init_5 : decode cX3_init 5 = .ok (.iconst 1, 1) := by decide +kernel
theorem dX3_init_6 : decode cX3_init 6 = .ok (.putfield 9, 3) := by decide +kernel
theorem dX3_init_9 : decode cX3_init 9 = .ok (.aload_n 0, 1) := by decide +kernel
theorem dX3_init_10 : decode cX3_init 10 = .ok (.iconst 1, 1) := by decide +kernel
theorem dX3_init_11 : decode cX3_init 11 = .ok (.putfield 13, 3) := by decide +kernel
theorem dX3_init_14 : decode cX3_init 14 = .ok (.aload_n 0, 1) := by decide +kernel
theorem dX3_init_15 : decode cX3_init 15 = .ok (.new 16, 3) := by decide +kernel
theorem dX3_init_18 : decode cX3_init 18 = .ok (.dup, 1) := by decide +kernel
theorem dX3_init_19 : decode cX3_init 19 = .ok (.invokespecial 18, 3) := by decide +kernel
theorem dX3_init_22 : decode cX3_init 22 = .ok (.putfield 19, 3) := by decide +kernel
theorem dX3_init_25 : decode cX3_init 25 = .ok (.aload_n 0, 1) := by decide +kernel
theorem dX3_init_26 : decode cX3_init 26 = .ok (.new 23, 3) := by decide +kernel
theorem dX3_init_29 : decode cX3_init 29 = .ok (.dup, 1) := by decide +kernel
theorem dX3_init_30 : decode cX3_init 30 = .ok (.invokespecial 25, 3) := by decide +kernel
theorem dX3_init_33 : decode cX3_init 33 = .ok (.putfield 26, 3) := by decide +kernel
theorem dX3_init_36 : decode cX3_init 36 = .ok (.aload_n 0, 1) := by decide +kernel
theorem dX3_init_37 : decode cX3_init 37 = .ok (.new 30, 3) := by decide +kernel
theorem dX3_init_40 : decode cX3_init 40 = .ok (.dup, 1) := by decide +kernel
theorem dX3_init_41 : decode cX3_init 41 = .ok (.invokespecial 32, 3) := by decide +kernel
theorem dX3_init_44 : decode cX3_init 44 = .ok (.putfield 33, 3) := by decide +kernel
theorem dX3_init_47 : decode cX3_init 47 = .ok (.aload_n 0, 1) := by decide +kernel
theorem dX3_init_48 : decode cX3_init 48 = .ok (.new 23, 3) := by decide +kernel
theorem dX3_init_51 : decode cX3_init 51 = .ok (.dup, 1) := by decide +kernel
theorem dX3_init_52 : decode cX3_init 52 = .ok (.invokespecial 25, 3) := by decide +kernel
theorem dX3_init_55 : decode cX3_init 55 = .ok (.putfield 37, 3) := by decide +kernel
theorem dX3_init_58 : decode cX3_init 58 = .ok (.aload_n 0, 1) := by decide +kernel
theorem dX3_init_59 : decode cX3_init 59 = .ok (.new 23, 3) := by decide +kernel
theorem dX3_init_62 : decode cX3_init 62 = .ok (.dup, 1) := by decide +kernel
theorem dX3_init_63 : decode cX3_init 63 = .ok (.invokespecial 25, 3) := by decide +kernel
theorem dX3_init_66 : decode cX3_init 66 = .ok (.putfield 40, 3) := by decide +kernel
theorem dX3_init_69 : decode cX3_init 69 = .ok (.aload_n 0, 1) := by decide +kernel
theorem dX3_init_70 : decode cX3_init 70 = .ok (.iconst 0, 1) := by decide +kernel
theorem dX3_init_71 : decode cX3_init 71 = .ok (.putfield 43, 3) := by decide +kernel
theorem dX3_init_74 : decode cX3_init 74 = .ok (.aload_n 0, 1) := by decide +kernel
theorem dX3_init_75 : decode cX3_init 75 = .ok (.iconst 0, 1) := by decide +kernel
theorem dX3_init_76 : decode cX3_init 76 = .ok (.putfield 47, 3) := by decide +kernel
theorem dX3_init_79 : decode cX3_init 79 = .ok (.aload_n 0, 1) := by decide +kernel
theorem dX3_init_80 : decode cX3_init 80 = .ok (.iconst 0, 1) := by decide +kernel
theorem dX3_init_81 : decode cX3_init 81 = .ok (.putfield 50, 3) := by decide +kernel
theorem dX3_init_84 : decode cX3_init 84 = .ok (.aload_n 0, 1) := by decide +kernel
theorem dX3_init_85 : decode cX3_init 85 = .ok (.iconst 0, 1) := by decide +kernel
theorem dX3_init_86 : decode cX3_init 86 = .ok (.putfield 53, 3) := by decide +kernel
theorem dX3_init_89 : decode cX3_init 89 = .ok (.return_, 1) := by decide +kernel
theorem dX3_rays_0 : decode cX3_rays 0 = .ok (.iload_n 1, 1) := by decide +kernel
theorem dX3_rays_1 : decode cX3_rays 1 = .ok (.iconst 2, 1) := by decide +kernel
theorem dX3_rays_2 : decode cX3_rays 2 = .ok (.if_icmp .lt 19, 3) := by decide +kernel
theorem dX3_rays_5 : decode cX3_rays 5 = .ok (.iload_n 1, 1) := by decide +kernel
theorem dX3_rays_6 : decode cX3_rays 6 = .ok (.iconst 3, 1) := by decide +kernel
theorem dX3_rays_7 : decode cX3_rays 7 = .ok (.if_icmp .gt 14, 3) := by decide +kernel
theorem dX3_rays_10 : decode cX3_rays 10 = .ok (.iload_n 2, 1) := by decide +kernel
theorem dX3_rays_11 : decode cX3_rays 11 = .ok (.iconst 1, 1) := by decide +kernel
theorem dX3_rays_12 : decode cX3_rays 12 = .ok (.if_icmp .lt 9, 3) := by decide +kernel
theorem dX3_rays_15 : decode cX3_rays 15 = .ok (.iload_n 2, 1) := by decide +kernel
theorem dX3_rays_16 : decode cX3_rays 16 = .ok (.bipush 8, 2) := by decide +kernel
theorem dX3_rays_18 : decode cX3_rays 18 = .ok (.if_icmp .le 6, 3) := by decide +kernel
theorem dX3_rays_21 : decode cX3_rays 21 = .ok (.bipush (-2), 2) := by decide +kernel
theorem dX3_rays_23 : decode cX3_rays 23 = .ok (.ireturn, 1) := by decide +kernel
theorem dX3_rays_24 : decode cX3_rays 24 = .ok (.aload_n 0, 1) := by decide +kernel
theorem dX3_rays_25 : decode cX3_rays 25 = .ok (.getfield 19, 3) := by decide +kernel
theorem dX3_rays_28 : decode cX3_rays 28 = .ok (.iload_n 1, 1) := by decide +kernel
theorem dX3_rays_29 : decode cX3_rays 29 = .ok (.iload_n 2, 1) := by decide +kernel
theorem dX3_rays_30 : decode cX3_rays 30 = .ok (.invokevirtual 56, 3) := by decide +kernel
theorem dX3_rays_33 : decode cX3_rays 33 = .ok (.ifCond .ne 8, 3) := by decide +kernel
theorem dX3_rays_36 : decode cX3_rays 36 = .ok (.aload_n 0, 1) := by decide +kernel
theorem dX3_rays_37 : decode cX3_rays 37 = .ok (.iconst 0, 1) := by decide +kernel
theorem dX3_rays_38 : decode cX3_rays 38 = .ok (.putfield 47, 3) := by decide +kernel
theorem dX3_rays_41 : decode cX3_rays 41 = .ok (.aload_n 0, 1) := by decide +kernel
theorem dX3_rays_42 : decode cX3_rays 42 = .ok (.iconst 0, 1) := by decide +kernel
theorem dX3_rays_43 : decode cX3_rays 43 = .ok (.putfield 43, 3) := by decide +kernel
theorem dX3_rays_46 : decode cX3_rays 46 = .ok (.aload_n 0, 1) := by decide +kernel
theorem dX3_rays_47 : decode cX3_rays 47 = .ok (.getfield 19, 3) := by decide +kernel
theorem dX3_rays_50 : decode cX3_rays 50 = .ok (.iload_n 1, 1) := by decide +kernel
theorem dX3_rays_51 : decode cX3_rays 51 = .ok (.iload_n 2, 1) := by decide +kernel
theorem dX3_rays_52 : decode cX3_rays 52 = .ok (.invokevirtual 60, 3) := by decide +kernel
theorem dX3_rays_55 : decode cX3_rays 55 = .ok (.aload_n 0, 1) := by decide +kernel
theorem dX3_rays_56 : decode cX3_rays 56 = .ok (.getfield 26, 3) := by decide +kernel
theorem dX3_rays_59 : decode cX3_rays 59 = .ok (.invokevirtual 64, 3) := by decide +kernel
theorem dX3_rays_62 : decode cX3_rays 62 = .ok (.iload_n 1, 1) := by decide +kernel
theorem dX3_rays_63 : decode cX3_rays 63 = .ok (.iload_n 2, 1) := by decide +kernel
theorem dX3_rays_64 : decode cX3_rays 64 = .ok (.imul, 1) := by decide +kernel
theorem dX3_rays_65 : decode cX3_rays 65 = .ok (.ireturn, 1) := by decide +kernel
theorem dX3_costs_0 : decode cX3_costs 0 = .ok (.iload_n 1, 1) := by decide +kernel
theorem dX3_costs_1 : decode cX3_costs 1 = .ok (.iconst 1, 1) := by decide +kernel
theorem dX3_costs_2 : decode cX3_costs 2 = .ok (.if_icmp .lt 20, 3) := by decide +kernel
theorem dX3_costs_5 : decode cX3_costs 5 = .ok (.iload_n 1, 1) := by decide +kernel
theorem dX3_costs_6 : decode cX3_costs 6 = .ok (.bipush 9, 2) := by decide +kernel
theorem dX3_costs_8 : decode cX3_costs 8 = .ok (.if_icmp .gt 14, 3) := by decide +kernel
theorem dX3_costs_11 : decode cX3_costs 11 = .ok (.iload_n 2, 1) := by decide +kernel
theorem dX3_costs_12 : decode cX3_costs 12 = .ok (.iconst 1, 1) := by decide +kernel
theorem dX3_costs_13 : decode cX3_costs 13 = .ok (.if_icmp .lt 9, 3) := by decide +kernel
theorem dX3_costs_16 : decode cX3_costs 16 = .ok (.iload_n 2, 1) := by decide +kernel
theorem dX3_costs_17 : decode cX3_costs 17 = .ok (.bipush 9, 2) := by decide +kernel
theorem dX3_costs_19 : decode cX3_costs 19 = .ok (.if_icmp .le 6, 3) := by decide +kernel
theorem dX3_costs_22 : decode cX3_costs 22 = .ok (.bipush (-2), 2) := by decide +kernel
theorem dX3_costs_24 : decode cX3_costs 24 = .ok (.ireturn, 1) := by decide +kernel
theorem dX3_costs_25 : decode cX3_costs 25 = .ok (.aload_n 0, 1) := by decide +kernel
theorem dX3_costs_26 : decode cX3_costs 26 = .ok (.iload_n 1, 1) := by decide +kernel
theorem dX3_costs_27 : decode cX3_costs 27 = .ok (.putfield 9, 3) := by decide +kernel
theorem dX3_costs_30 : decode cX3_costs 30 = .ok (.aload_n 0, 1) := by decide +kernel
theorem dX3_costs_31 : decode cX3_costs 31 = .ok (.iload_n 2, 1) := by decide +kernel
theorem dX3_costs_32 : decode cX3_costs 32 = .ok (.putfield 13, 3) := by decide +kernel
theorem dX3_costs_35 : decode cX3_costs 35 = .ok (.iconst 1, 1) := by decide +kernel
theorem dX3_costs_36 : decode cX3_costs 36 = .ok (.ireturn, 1) := by decide +kernel
theorem dX3_share_0 : decode cX3_share 0 = .ok (.aload_n 0, 1) := by decide +kernel
theorem dX3_share_1 : decode cX3_share 1 = .ok (.getfield 19, 3) := by decide +kernel
theorem dX3_share_4 : decode cX3_share 4 = .ok (.iload_n 1, 1) := by decide +kernel
theorem dX3_share_5 : decode cX3_share 5 = .ok (.iload_n 2, 1) := by decide +kernel
theorem dX3_share_6 : decode cX3_share 6 = .ok (.invokevirtual 67, 3) := by decide +kernel
theorem dX3_share_9 : decode cX3_share 9 = .ok (.ifCond .ne 5, 3) := by decide +kernel
theorem dX3_share_12 : decode cX3_share 12 = .ok (.iconst (-1), 1) := by decide +kernel
theorem dX3_share_13 : decode cX3_share 13 = .ok (.ireturn, 1) := by decide +kernel
theorem dX3_share_14 : decode cX3_share 14 = .ok (.iload_n 3, 1) := by decide +kernel
theorem dX3_share_15 : decode cX3_share 15 = .ok (.ifCond .lt 9, 3) := by decide +kernel
theorem dX3_share_18 : decode cX3_share 18 = .ok (.iload_n 3, 1) := by decide +kernel
theorem dX3_share_19 : decode cX3_share 19 = .ok (.bipush 100, 2) := by decide +kernel
theorem dX3_share_21 : decode cX3_share 21 = .ok (.if_icmp .le 6, 3) := by decide +kernel
theorem dX3_share_24 : decode cX3_share 24 = .ok (.bipush (-2), 2) := by decide +kernel
theorem dX3_share_26 : decode cX3_share 26 = .ok (.ireturn, 1) := by decide +kernel
theorem dX3_share_27 : decode cX3_share 27 = .ok (.aload_n 0, 1) := by decide +kernel
theorem dX3_share_28 : decode cX3_share 28 = .ok (.getfield 19, 3) := by decide +kernel
theorem dX3_share_31 : decode cX3_share 31 = .ok (.iload_n 1, 1) := by decide +kernel
theorem dX3_share_32 : decode cX3_share 32 = .ok (.iload_n 2, 1) := by decide +kernel
theorem dX3_share_33 : decode cX3_share 33 = .ok (.invokevirtual 70, 3) := by decide +kernel
theorem dX3_share_36 : decode cX3_share 36 = .ok (.istore 4, 2) := by decide +kernel
theorem dX3_share_38 : decode cX3_share 38 = .ok (.aload_n 0, 1) := by decide +kernel
theorem dX3_share_39 : decode cX3_share 39 = .ok (.getfield 19, 3) := by decide +kernel
theorem dX3_share_42 : decode cX3_share 42 = .ok (.iload_n 1, 1) := by decide +kernel
theorem dX3_share_43 : decode cX3_share 43 = .ok (.iload_n 2, 1) := by decide +kernel
theorem dX3_share_44 : decode cX3_share 44 = .ok (.iload_n 3, 1) := by decide +kernel
theorem dX3_share_45 : decode cX3_share 45 = .ok (.invokevirtual 74, 3) := by decide +kernel
theorem dX3_share_48 : decode cX3_share 48 = .ok (.iload_n 3, 1) := by decide +kernel
theorem dX3_share_49 : decode cX3_share 49 = .ok (.iload 4, 2) := by decide +kernel
theorem dX3_share_51 : decode cX3_share 51 = .ok (.if_icmp .eq 8, 3) := by decide +kernel
theorem dX3_share_54 : decode cX3_share 54 = .ok (.aload_n 0, 1) := by decide +kernel
theorem dX3_share_55 : decode cX3_share 55 = .ok (.iconst 0, 1) := by decide +kernel
theorem dX3_share_56 : decode cX3_share 56 = .ok (.putfield 43, 3) := by decide +kernel
theorem dX3_share_59 : decode cX3_share 59 = .ok (.iload 4, 2) := by decide +kernel
theorem dX3_share_61 : decode cX3_share 61 = .ok (.ireturn, 1) := by decide +kernel
theorem dX3_shareOf_0 : decode cX3_shareOf 0 = .ok (.aload_n 0, 1) := by decide +kernel
theorem dX3_shareOf_1 : decode cX3_shareOf 1 = .ok (.getfield 19, 3) := by decide +kernel
theorem dX3_shareOf_4 : decode cX3_shareOf 4 = .ok (.iload_n 1, 1) := by decide +kernel
theorem dX3_shareOf_5 : decode cX3_shareOf 5 = .ok (.iload_n 2, 1) := by decide +kernel
theorem dX3_shareOf_6 : decode cX3_shareOf 6 = .ok (.invokevirtual 67, 3) := by decide +kernel
theorem dX3_shareOf_9 : decode cX3_shareOf 9 = .ok (.ifCond .eq 15, 3) := by decide +kernel
theorem dX3_shareOf_12 : decode cX3_shareOf 12 = .ok (.aload_n 0, 1) := by decide +kernel
theorem dX3_shareOf_13 : decode cX3_shareOf 13 = .ok (.getfield 19, 3) := by decide +kernel
theorem dX3_shareOf_16 : decode cX3_shareOf 16 = .ok (.iload_n 1, 1) := by decide +kernel
theorem dX3_shareOf_17 : decode cX3_shareOf 17 = .ok (.iload_n 2, 1) := by decide +kernel
theorem dX3_shareOf_18 : decode cX3_shareOf 18 = .ok (.invokevirtual 70, 3) := by decide +kernel
theorem dX3_shareOf_21 : decode cX3_shareOf 21 = .ok (.goto 4, 3) := by decide +kernel
theorem dX3_shareOf_24 : decode cX3_shareOf 24 = .ok (.iconst (-1), 1) := by decide +kernel
theorem dX3_shareOf_25 : decode cX3_shareOf 25 = .ok (.ireturn, 1) := by decide +kernel
theorem dX3_trip_0 : decode cX3_trip 0 = .ok (.aload_n 0, 1) := by decide +kernel
theorem dX3_trip_1 : decode cX3_trip 1 = .ok (.getfield 19, 3) := by decide +kernel
theorem dX3_trip_4 : decode cX3_trip 4 = .ok (.iload_n 1, 1) := by decide +kernel
theorem dX3_trip_5 : decode cX3_trip 5 = .ok (.iload_n 2, 1) := by decide +kernel
theorem dX3_trip_6 : decode cX3_trip 6 = .ok (.invokevirtual 67, 3) := by decide +kernel
theorem dX3_trip_9 : decode cX3_trip 9 = .ok (.ifCond .ne 5, 3) := by decide +kernel
theorem dX3_trip_12 : decode cX3_trip 12 = .ok (.iconst (-1), 1) := by decide +kernel
theorem dX3_trip_13 : decode cX3_trip 13 = .ok (.ireturn, 1) := by decide +kernel
theorem dX3_trip_14 : decode cX3_trip 14 = .ok (.aload_n 0, 1) := by decide +kernel
theorem dX3_trip_15 : decode cX3_trip 15 = .ok (.getfield 26, 3) := by decide +kernel
theorem dX3_trip_18 : decode cX3_trip 18 = .ok (.getfield 78, 3) := by decide +kernel
theorem dX3_trip_21 : decode cX3_trip 21 = .ok (.istore_n 3, 1) := by decide +kernel
theorem dX3_trip_22 : decode cX3_trip 22 = .ok (.aload_n 0, 1) := by decide +kernel
theorem dX3_trip_23 : decode cX3_trip 23 = .ok (.getfield 26, 3) := by decide +kernel
theorem dX3_trip_26 : decode cX3_trip 26 = .ok (.iload_n 1, 1) := by decide +kernel
theorem dX3_trip_27 : decode cX3_trip 27 = .ok (.iload_n 2, 1) := by decide +kernel
theorem dX3_trip_28 : decode cX3_trip 28 = .ok (.invokevirtual 81, 3) := by decide +kernel
theorem dX3_trip_31 : decode cX3_trip 31 = .ok (.ifCond .eq 7, 3) := by decide +kernel
theorem dX3_trip_34 : decode cX3_trip 34 = .ok (.iload_n 3, 1) := by decide +kernel
theorem dX3_trip_35 : decode cX3_trip 35 = .ok (.goto 5, 3) := by decide +kernel
theorem dX3_trip_38 : decode cX3_trip 38 = .ok (.bipush (-4), 2) := by decide +kernel
theorem dX3_trip_40 : decode cX3_trip 40 = .ok (.ireturn, 1) := by decide +kernel
theorem dX3_tripOf_0 : decode cX3_tripOf 0 = .ok (.aload_n 0, 1) := by decide +kernel
theorem dX3_tripOf_1 : decode cX3_tripOf 1 = .ok (.getfield 26, 3) := by decide +kernel
theorem dX3_tripOf_4 : decode cX3_tripOf 4 = .ok (.iload_n 1, 1) := by decide +kernel
theorem dX3_tripOf_5 : decode cX3_tripOf 5 = .ok (.invokevirtual 84, 3) := by decide +kernel
theorem dX3_tripOf_8 : decode cX3_tripOf 8 = .ok (.ifCond .ne 5, 3) := by decide +kernel
theorem dX3_tripOf_11 : decode cX3_tripOf 11 = .ok (.iconst (-1), 1) := by decide +kernel
theorem dX3_tripOf_12 : decode cX3_tripOf 12 = .ok (.ireturn, 1) := by decide +kernel
theorem dX3_tripOf_13 : decode cX3_tripOf 13 = .ok (.iload_n 2, 1) := by decide +kernel
theorem dX3_tripOf_14 : decode cX3_tripOf 14 = .ok (.tableswitch 58 0 2 #[26, 35, 44], 26) := by decide +kernel
theorem dX3_tripOf_40 : decode cX3_tripOf 40 = .ok (.aload_n 0, 1) := by decide +kernel
theorem dX3_tripOf_41 : decode cX3_tripOf 41 = .ok (.getfield 26, 3) := by decide +kernel
theorem dX3_tripOf_44 : decode cX3_tripOf 44 = .ok (.iload_n 1, 1) := by decide +kernel
theorem dX3_tripOf_45 : decode cX3_tripOf 45 = .ok (.invokevirtual 87, 3) := by decide +kernel
theorem dX3_tripOf_48 : decode cX3_tripOf 48 = .ok (.ireturn, 1) := by decide +kernel
theorem dX3_tripOf_49 : decode cX3_tripOf 49 = .ok (.aload_n 0, 1) := by decide +kernel
theorem dX3_tripOf_50 : decode cX3_tripOf 50 = .ok (.getfield 26, 3) := by decide +kernel
theorem dX3_tripOf_53 : decode cX3_tripOf 53 = .ok (.iload_n 1, 1) := by decide +kernel
theorem dX3_tripOf_54 : decode cX3_tripOf 54 = .ok (.invokevirtual 91, 3) := by decide +kernel
theorem dX3_tripOf_57 : decode cX3_tripOf 57 = .ok (.ireturn, 1) := by decide +kernel
theorem dX3_tripOf_58 : decode cX3_tripOf 58 = .ok (.aload_n 0, 1) := by decide +kernel
theorem dX3_tripOf_59 : decode cX3_tripOf 59 = .ok (.aload_n 0, 1) := by decide +kernel
theorem dX3_tripOf_60 : decode cX3_tripOf 60 = .ok (.getfield 26, 3) := by decide +kernel
theorem dX3_tripOf_63 : decode cX3_tripOf 63 = .ok (.iload_n 1, 1) := by decide +kernel
theorem dX3_tripOf_64 : decode cX3_tripOf 64 = .ok (.iconst (-1), 1) := by decide +kernel
theorem dX3_tripOf_65 : decode cX3_tripOf 65 = .ok (.invokevirtual 94, 3) := by decide +kernel
theorem dX3_tripOf_68 : decode cX3_tripOf 68 = .ok (.invokevirtual 97, 3) := by decide +kernel
theorem dX3_tripOf_71 : decode cX3_tripOf 71 = .ok (.ireturn, 1) := by decide +kernel
theorem dX3_tripOf_72 : decode cX3_tripOf 72 = .ok (.bipush (-2), 2) := by decide +kernel
theorem dX3_tripOf_74 : decode cX3_tripOf 74 = .ok (.ireturn, 1) := by decide +kernel
theorem dX3_drop_0 : decode cX3_drop 0 = .ok (.aload_n 0, 1) := by decide +kernel
theorem dX3_drop_1 : decode cX3_drop 1 = .ok (.getfield 26, 3) := by decide +kernel
theorem dX3_drop_4 : decode cX3_drop 4 = .ok (.invokevirtual 100, 3) := by decide +kernel
theorem dX3_drop_7 : decode cX3_drop 7 = .ok (.ifCond .eq 13, 3) := by decide +kernel
theorem dX3_drop_10 : decode cX3_drop 10 = .ok (.aload_n 0, 1) := by decide +kernel
theorem dX3_drop_11 : decode cX3_drop 11 = .ok (.getfield 26, 3) := by decide +kernel
theorem dX3_drop_14 : decode cX3_drop 14 = .ok (.getfield 78, 3) := by decide +kernel
theorem dX3_drop_17 : decode cX3_drop 17 = .ok (.goto 4, 3) := by decide +kernel
theorem dX3_drop_20 : decode cX3_drop 20 = .ok (.iconst (-1), 1) := by decide +kernel
theorem dX3_drop_21 : decode cX3_drop 21 = .ok (.ireturn, 1) := by decide +kernel
theorem dX3_clear_0 : decode cX3_clear 0 = .ok (.aload_n 0, 1) := by decide +kernel
theorem dX3_clear_1 : decode cX3_clear 1 = .ok (.getfield 26, 3) := by decide +kernel
theorem dX3_clear_4 : decode cX3_clear 4 = .ok (.getfield 78, 3) := by decide +kernel
theorem dX3_clear_7 : decode cX3_clear 7 = .ok (.istore_n 1, 1) := by decide +kernel
theorem dX3_clear_8 : decode cX3_clear 8 = .ok (.aload_n 0, 1) := by decide +kernel
theorem dX3_clear_9 : decode cX3_clear 9 = .ok (.getfield 26, 3) := by decide +kernel
theorem dX3_clear_12 : decode cX3_clear 12 = .ok (.invokevirtual 64, 3) := by decide +kernel
theorem dX3_clear_15 : decode cX3_clear 15 = .ok (.iload_n 1, 1) := by decide +kernel
theorem dX3_clear_16 : decode cX3_clear 16 = .ok (.ireturn, 1) := by decide +kernel
theorem dX3_way_0 : decode cX3_way 0 = .ok (.aload_n 0, 1) := by decide +kernel
theorem dX3_way_1 : decode cX3_way 1 = .ok (.getfield 19, 3) := by decide +kernel
theorem dX3_way_4 : decode cX3_way 4 = .ok (.iload_n 1, 1) := by decide +kernel
theorem dX3_way_5 : decode cX3_way 5 = .ok (.iload_n 2, 1) := by decide +kernel
theorem dX3_way_6 : decode cX3_way 6 = .ok (.invokevirtual 67, 3) := by decide +kernel
theorem dX3_way_9 : decode cX3_way 9 = .ok (.ifCond .eq 12, 3) := by decide +kernel
theorem dX3_way_12 : decode cX3_way 12 = .ok (.aload_n 0, 1) := by decide +kernel
theorem dX3_way_13 : decode cX3_way 13 = .ok (.iload_n 1, 1) := by decide +kernel
theorem dX3_way_14 : decode cX3_way 14 = .ok (.iload_n 2, 1) := by decide +kernel
theorem dX3_way_15 : decode cX3_way 15 = .ok (.invokevirtual 104, 3) := by decide +kernel
theorem dX3_way_18 : decode cX3_way 18 = .ok (.goto 4, 3) := by decide +kernel
theorem dX3_way_21 : decode cX3_way 21 = .ok (.iconst (-1), 1) := by decide +kernel
theorem dX3_way_22 : decode cX3_way 22 = .ok (.ireturn, 1) := by decide +kernel
theorem dX3_late_0 : decode cX3_late 0 = .ok (.aload_n 0, 1) := by decide +kernel
theorem dX3_late_1 : decode cX3_late 1 = .ok (.getfield 19, 3) := by decide +kernel
theorem dX3_late_4 : decode cX3_late 4 = .ok (.iload_n 1, 1) := by decide +kernel
theorem dX3_late_5 : decode cX3_late 5 = .ok (.iload_n 2, 1) := by decide +kernel
theorem dX3_late_6 : decode cX3_late 6 = .ok (.invokevirtual 67, 3) := by decide +kernel
theorem dX3_late_9 : decode cX3_late 9 = .ok (.ifCond .ne 5, 3) := by decide +kernel
theorem dX3_late_12 : decode cX3_late 12 = .ok (.iconst (-1), 1) := by decide +kernel
theorem dX3_late_13 : decode cX3_late 13 = .ok (.ireturn, 1) := by decide +kernel
theorem dX3_late_14 : decode cX3_late 14 = .ok (.iload_n 3, 1) := by decide +kernel
theorem dX3_late_15 : decode cX3_late 15 = .ok (.ifCond .lt 8, 3) := by decide +kernel
theorem dX3_late_18 : decode cX3_late 18 = .ok (.iload_n 3, 1) := by decide +kernel
theorem dX3_late_19 : decode cX3_late 19 = .ok (.iconst 1, 1) := by decide +kernel
theorem dX3_late_20 : decode cX3_late 20 = .ok (.if_icmp .le 6, 3) := by decide +kernel
theorem dX3_late_23 : decode cX3_late 23 = .ok (.bipush (-2), 2) := by decide +kernel
theorem dX3_late_25 : decode cX3_late 25 = .ok (.ireturn, 1) := by decide +kernel
theorem dX3_late_26 : decode cX3_late 26 = .ok (.aload_n 0, 1) := by decide +kernel
theorem dX3_late_27 : decode cX3_late 27 = .ok (.iload_n 1, 1) := by decide +kernel
theorem dX3_late_28 : decode cX3_late 28 = .ok (.iload_n 2, 1) := by decide +kernel
theorem dX3_late_29 : decode cX3_late 29 = .ok (.invokevirtual 104, 3) := by decide +kernel
theorem dX3_late_32 : decode cX3_late 32 = .ok (.istore 4, 2) := by decide +kernel
theorem dX3_late_34 : decode cX3_late 34 = .ok (.iload 4, 2) := by decide +kernel
theorem dX3_late_36 : decode cX3_late 36 = .ok (.bipush (-6), 2) := by decide +kernel
theorem dX3_late_38 : decode cX3_late 38 = .ok (.if_icmp .ne 8, 3) := by decide +kernel
theorem dX3_late_41 : decode cX3_late 41 = .ok (.bipush (-6), 2) := by decide +kernel
theorem dX3_late_43 : decode cX3_late 43 = .ok (.goto 15, 3) := by decide +kernel
theorem dX3_late_46 : decode cX3_late 46 = .ok (.iload 4, 2) := by decide +kernel
theorem dX3_late_48 : decode cX3_late 48 = .ok (.aload_n 0, 1) := by decide +kernel
theorem dX3_late_49 : decode cX3_late 49 = .ok (.getfield 9, 3) := by decide +kernel
theorem dX3_late_52 : decode cX3_late 52 = .ok (.iload_n 2, 1) := by decide +kernel
theorem dX3_late_53 : decode cX3_late 53 = .ok (.imul, 1) := by decide +kernel
theorem dX3_late_54 : decode cX3_late 54 = .ok (.iload_n 3, 1) := by decide +kernel
theorem dX3_late_55 : decode cX3_late 55 = .ok (.invokestatic 107, 3) := by decide +kernel
theorem dX3_late_58 : decode cX3_late 58 = .ok (.ireturn, 1) := by decide +kernel
theorem dX3_worst_0 : decode cX3_worst 0 = .ok (.iload_n 1, 1) := by decide +kernel
theorem dX3_worst_1 : decode cX3_worst 1 = .ok (.ifCond .lt 8, 3) := by decide +kernel
theorem dX3_worst_4 : decode cX3_worst 4 = .ok (.iload_n 1, 1) := by decide +kernel
theorem dX3_worst_5 : decode cX3_worst 5 = .ok (.iconst 3, 1) := by decide +kernel
theorem dX3_worst_6 : decode cX3_worst 6 = .ok (.if_icmp .le 6, 3) := by decide +kernel
theorem dX3_worst_9 : decode cX3_worst 9 = .ok (.bipush (-2), 2) := by decide +kernel
theorem dX3_worst_11 : decode cX3_worst 11 = .ok (.ireturn, 1) := by decide +kernel
theorem dX3_worst_12 : decode cX3_worst 12 = .ok (.aload_n 0, 1) := by decide +kernel
theorem dX3_worst_13 : decode cX3_worst 13 = .ok (.invokevirtual 111, 3) := by decide +kernel
theorem dX3_worst_16 : decode cX3_worst 16 = .ok (.ifCond .le 6, 3) := by decide +kernel
theorem dX3_worst_19 : decode cX3_worst 19 = .ok (.bipush (-3), 2) := by decide +kernel
theorem dX3_worst_21 : decode cX3_worst 21 = .ok (.ireturn, 1) := by decide +kernel
theorem dX3_worst_22 : decode cX3_worst 22 = .ok (.aload_n 0, 1) := by decide +kernel
theorem dX3_worst_23 : decode cX3_worst 23 = .ok (.invokevirtual 115, 3) := by decide +kernel
theorem dX3_worst_26 : decode cX3_worst 26 = .ok (.istore_n 2, 1) := by decide +kernel
theorem dX3_worst_27 : decode cX3_worst 27 = .ok (.iload_n 2, 1) := by decide +kernel
theorem dX3_worst_28 : decode cX3_worst 28 = .ok (.bipush 10, 2) := by decide +kernel
theorem dX3_worst_30 : decode cX3_worst 30 = .ok (.idiv, 1) := by decide +kernel
theorem dX3_worst_31 : decode cX3_worst 31 = .ok (.istore_n 3, 1) := by decide +kernel
theorem dX3_worst_32 : decode cX3_worst 32 = .ok (.iload_n 2, 1) := by decide +kernel
theorem dX3_worst_33 : decode cX3_worst 33 = .ok (.bipush 10, 2) := by decide +kernel
theorem dX3_worst_35 : decode cX3_worst 35 = .ok (.irem, 1) := by decide +kernel
theorem dX3_worst_36 : decode cX3_worst 36 = .ok (.istore 4, 2) := by decide +kernel
theorem dX3_worst_38 : decode cX3_worst 38 = .ok (.iload_n 1, 1) := by decide +kernel
theorem dX3_worst_39 : decode cX3_worst 39 = .ok (.iconst 2, 1) := by decide +kernel
theorem dX3_worst_40 : decode cX3_worst 40 = .ok (.if_icmp .ne 5, 3) := by decide +kernel
theorem dX3_worst_43 : decode cX3_worst 43 = .ok (.iload_n 3, 1) := by decide +kernel
theorem dX3_worst_44 : decode cX3_worst 44 = .ok (.ireturn, 1) := by decide +kernel
theorem dX3_worst_45 : decode cX3_worst 45 = .ok (.iload_n 1, 1) := by decide +kernel
theorem dX3_worst_46 : decode cX3_worst 46 = .ok (.iconst 3, 1) := by decide +kernel
theorem dX3_worst_47 : decode cX3_worst 47 = .ok (.if_icmp .ne 6, 3) := by decide +kernel
theorem dX3_worst_50 : decode cX3_worst 50 = .ok (.iload 4, 2) := by decide +kernel
theorem dX3_worst_52 : decode cX3_worst 52 = .ok (.ireturn, 1) := by decide +kernel
theorem dX3_worst_53 : decode cX3_worst 53 = .ok (.aload_n 0, 1) := by decide +kernel
theorem dX3_worst_54 : decode cX3_worst 54 = .ok (.iload_n 3, 1) := by decide +kernel
theorem dX3_worst_55 : decode cX3_worst 55 = .ok (.iload 4, 2) := by decide +kernel
theorem dX3_worst_57 : decode cX3_worst 57 = .ok (.invokevirtual 104, 3) := by decide +kernel
theorem dX3_worst_60 : decode cX3_worst 60 = .ok (.aload_n 0, 1) := by decide +kernel
theorem dX3_worst_61 : decode cX3_worst 61 = .ok (.getfield 9, 3) := by decide +kernel
theorem dX3_worst_64 : decode cX3_worst 64 = .ok (.iload 4, 2) := by decide +kernel
theorem dX3_worst_66 : decode cX3_worst 66 = .ok (.imul, 1) := by decide +kernel
theorem dX3_worst_67 : decode cX3_worst 67 = .ok (.iload_n 1, 1) := by decide +kernel
theorem dX3_worst_68 : decode cX3_worst 68 = .ok (.invokestatic 107, 3) := by decide +kernel
theorem dX3_worst_71 : decode cX3_worst 71 = .ok (.ireturn, 1) := by decide +kernel
theorem dX3_mean_0 : decode cX3_mean 0 = .ok (.aload_n 0, 1) := by decide +kernel
theorem dX3_mean_1 : decode cX3_mean 1 = .ok (.invokevirtual 111, 3) := by decide +kernel
theorem dX3_mean_4 : decode cX3_mean 4 = .ok (.ifCond .le 6, 3) := by decide +kernel
theorem dX3_mean_7 : decode cX3_mean 7 = .ok (.bipush (-3), 2) := by decide +kernel
theorem dX3_mean_9 : decode cX3_mean 9 = .ok (.ireturn, 1) := by decide +kernel
theorem dX3_mean_10 : decode cX3_mean 10 = .ok (.iconst 0, 1) := by decide +kernel
theorem dX3_mean_11 : decode cX3_mean 11 = .ok (.istore_n 1, 1) := by decide +kernel
theorem dX3_mean_12 : decode cX3_mean 12 = .ok (.iconst 0, 1) := by decide +kernel
theorem dX3_mean_13 : decode cX3_mean 13 = .ok (.istore_n 2, 1) := by decide +kernel
theorem dX3_mean_14 : decode cX3_mean 14 = .ok (.iload_n 2, 1) := by decide +kernel
theorem dX3_mean_15 : decode cX3_mean 15 = .ok (.aload_n 0, 1) := by decide +kernel
theorem dX3_mean_16 : decode cX3_mean 16 = .ok (.getfield 19, 3) := by decide +kernel
theorem dX3_mean_19 : decode cX3_mean 19 = .ok (.getfield 118, 3) := by decide +kernel
theorem dX3_mean_22 : decode cX3_mean 22 = .ok (.if_icmp .ge 47, 3) := by decide +kernel
theorem dX3_mean_25 : decode cX3_mean 25 = .ok (.iconst 1, 1) := by decide +kernel
theorem dX3_mean_26 : decode cX3_mean 26 = .ok (.istore_n 3, 1) := by decide +kernel
theorem dX3_mean_27 : decode cX3_mean 27 = .ok (.iload_n 3, 1) := by decide +kernel
theorem dX3_mean_28 : decode cX3_mean 28 = .ok (.aload_n 0, 1) := by decide +kernel
theorem dX3_mean_29 : decode cX3_mean 29 = .ok (.getfield 19, 3) := by decide +kernel
theorem dX3_mean_32 : decode cX3_mean 32 = .ok (.getfield 121, 3) := by decide +kernel
theorem dX3_mean_35 : decode cX3_mean 35 = .ok (.if_icmp .gt 28, 3) := by decide +kernel
theorem dX3_mean_38 : decode cX3_mean 38 = .ok (.iload_n 1, 1) := by decide +kernel
theorem dX3_mean_39 : decode cX3_mean 39 = .ok (.aload_n 0, 1) := by decide +kernel
theorem dX3_mean_40 : decode cX3_mean 40 = .ok (.getfield 19, 3) := by decide +kernel
theorem dX3_mean_43 : decode cX3_mean 43 = .ok (.iload_n 2, 1) := by decide +kernel
theorem dX3_mean_44 : decode cX3_mean 44 = .ok (.iload_n 3, 1) := by decide +kernel
theorem dX3_mean_45 : decode cX3_mean 45 = .ok (.invokevirtual 70, 3) := by decide +kernel
theorem dX3_mean_48 : decode cX3_mean 48 = .ok (.aload_n 0, 1) := by decide +kernel
theorem dX3_mean_49 : decode cX3_mean 49 = .ok (.iload_n 2, 1) := by decide +kernel
theorem dX3_mean_50 : decode cX3_mean 50 = .ok (.iload_n 3, 1) := by decide +kernel
theorem dX3_mean_51 : decode cX3_mean 51 = .ok (.invokevirtual 104, 3) := by decide +kernel
theorem dX3_mean_54 : decode cX3_mean 54 = .ok (.imul, 1) := by decide +kernel
theorem dX3_mean_55 : decode cX3_mean 55 = .ok (.iadd, 1) := by decide +kernel
theorem dX3_mean_56 : decode cX3_mean 56 = .ok (.istore_n 1, 1) := by decide +kernel
theorem dX3_mean_57 : decode cX3_mean 57 = .ok (.iinc 3 1, 3) := by decide +kernel
theorem dX3_mean_60 : decode cX3_mean 60 = .ok (.goto (-33), 3) := by decide +kernel
theorem dX3_mean_63 : decode cX3_mean 63 = .ok (.iinc 2 1, 3) := by decide +kernel
theorem dX3_mean_66 : decode cX3_mean 66 = .ok (.goto (-52), 3) := by decide +kernel
theorem dX3_mean_69 : decode cX3_mean 69 = .ok (.iload_n 1, 1) := by decide +kernel
theorem dX3_mean_70 : decode cX3_mean 70 = .ok (.ireturn, 1) := by decide +kernel
theorem dX3_missed_0 : decode cX3_missed 0 = .ok (.iload_n 1, 1) := by decide +kernel
theorem dX3_missed_1 : decode cX3_missed 1 = .ok (.iconst (-1), 1) := by decide +kernel
theorem dX3_missed_2 : decode cX3_missed 2 = .ok (.if_icmp .ne 8, 3) := by decide +kernel
theorem dX3_missed_5 : decode cX3_missed 5 = .ok (.aload_n 0, 1) := by decide +kernel
theorem dX3_missed_6 : decode cX3_missed 6 = .ok (.invokevirtual 111, 3) := by decide +kernel
theorem dX3_missed_9 : decode cX3_missed 9 = .ok (.ireturn, 1) := by decide +kernel
theorem dX3_missed_10 : decode cX3_missed 10 = .ok (.iload_n 1, 1) := by decide +kernel
theorem dX3_missed_11 : decode cX3_missed 11 = .ok (.istore_n 2, 1) := by decide +kernel
theorem dX3_missed_12 : decode cX3_missed 12 = .ok (.iconst 0, 1) := by decide +kernel
theorem dX3_missed_13 : decode cX3_missed 13 = .ok (.istore_n 3, 1) := by decide +kernel
theorem dX3_missed_14 : decode cX3_missed 14 = .ok (.iload_n 3, 1) := by decide +kernel
theorem dX3_missed_15 : decode cX3_missed 15 = .ok (.aload_n 0, 1) := by decide +kernel
theorem dX3_missed_16 : decode cX3_missed 16 = .ok (.getfield 19, 3) := by decide +kernel
theorem dX3_missed_19 : decode cX3_missed 19 = .ok (.getfield 118, 3) := by decide +kernel
theorem dX3_missed_22 : decode cX3_missed 22 = .ok (.if_icmp .ge 61, 3) := by decide +kernel
theorem dX3_missed_25 : decode cX3_missed 25 = .ok (.aload_n 0, 1) := by decide +kernel
theorem dX3_missed_26 : decode cX3_missed 26 = .ok (.getfield 26, 3) := by decide +kernel
theorem dX3_missed_29 : decode cX3_missed 29 = .ok (.iload_n 3, 1) := by decide +kernel
theorem dX3_missed_30 : decode cX3_missed 30 = .ok (.aload_n 0, 1) := by decide +kernel
theorem dX3_missed_31 : decode cX3_missed 31 = .ok (.getfield 26, 3) := by decide +kernel
theorem dX3_missed_34 : decode cX3_missed 34 = .ok (.getfield 78, 3) := by decide +kernel
theorem dX3_missed_37 : decode cX3_missed 37 = .ok (.invokevirtual 124, 3) := by decide +kernel
theorem dX3_missed_40 : decode cX3_missed 40 = .ok (.iconst 1, 1) := by decide +kernel
theorem dX3_missed_41 : decode cX3_missed 41 = .ok (.iadd, 1) := by decide +kernel
theorem dX3_missed_42 : decode cX3_missed 42 = .ok (.istore 4, 2) := by decide +kernel
theorem dX3_missed_44 : decode cX3_missed 44 = .ok (.iload 4, 2) := by decide +kernel
theorem dX3_missed_46 : decode cX3_missed 46 = .ok (.aload_n 0, 1) := by decide +kernel
theorem dX3_missed_47 : decode cX3_missed 47 = .ok (.getfield 19, 3) := by decide +kernel
theorem dX3_missed_50 : decode cX3_missed 50 = .ok (.getfield 121, 3) := by decide +kernel
theorem dX3_missed_53 : decode cX3_missed 53 = .ok (.if_icmp .gt 24, 3) := by decide +kernel
theorem dX3_missed_56 : decode cX3_missed 56 = .ok (.iload_n 2, 1) := by decide +kernel
theorem dX3_missed_57 : decode cX3_missed 57 = .ok (.ifCond .ne 11, 3) := by decide +kernel
theorem dX3_missed_60 : decode cX3_missed 60 = .ok (.bipush 10, 2) := by decide +kernel
theorem dX3_missed_62 : decode cX3_missed 62 = .ok (.iload_n 3, 1) := by decide +kernel
theorem dX3_missed_63 : decode cX3_missed 63 = .ok (.imul, 1) := by decide +kernel
theorem dX3_missed_64 : decode cX3_missed 64 = .ok (.iload 4, 2) := by decide +kernel
theorem dX3_missed_66 : decode cX3_missed 66 = .ok (.iadd, 1) := by decide +kernel
theorem dX3_missed_67 : decode cX3_missed 67 = .ok (.ireturn, 1) := by decide +kernel
theorem dX3_missed_68 : decode cX3_missed 68 = .ok (.iinc 2 (-1), 3) := by decide +kernel
theorem dX3_missed_71 : decode cX3_missed 71 = .ok (.iinc 4 1, 3) := by decide +kernel
theorem dX3_missed_74 : decode cX3_missed 74 = .ok (.goto (-30), 3) := by decide +kernel
theorem dX3_missed_77 : decode cX3_missed 77 = .ok (.iinc 3 1, 3) := by decide +kernel
theorem dX3_missed_80 : decode cX3_missed 80 = .ok (.goto (-66), 3) := by decide +kernel
theorem dX3_missed_83 : decode cX3_missed 83 = .ok (.bipush (-6), 2) := by decide +kernel
theorem dX3_missed_85 : decode cX3_missed 85 = .ok (.ireturn, 1) := by decide +kernel
theorem dX3_finds_0 : decode cX3_finds 0 = .ok (.aload_n 0, 1) := by decide +kernel
theorem dX3_finds_1 : decode cX3_finds 1 = .ok (.getfield 26, 3) := by decide +kernel
theorem dX3_finds_4 : decode cX3_finds 4 = .ok (.iload_n 1, 1) := by decide +kernel
theorem dX3_finds_5 : decode cX3_finds 5 = .ok (.invokevirtual 84, 3) := by decide +kernel
theorem dX3_finds_8 : decode cX3_finds 8 = .ok (.ifCond .ne 5, 3) := by decide +kernel
theorem dX3_finds_11 : decode cX3_finds 11 = .ok (.iconst (-1), 1) := by decide +kernel
theorem dX3_finds_12 : decode cX3_finds 12 = .ok (.ireturn, 1) := by decide +kernel
theorem dX3_finds_13 : decode cX3_finds 13 = .ok (.aload_n 0, 1) := by decide +kernel
theorem dX3_finds_14 : decode cX3_finds 14 = .ok (.getfield 26, 3) := by decide +kernel
theorem dX3_finds_17 : decode cX3_finds 17 = .ok (.iload_n 1, 1) := by decide +kernel
theorem dX3_finds_18 : decode cX3_finds 18 = .ok (.invokevirtual 87, 3) := by decide +kernel
theorem dX3_finds_21 : decode cX3_finds 21 = .ok (.istore_n 2, 1) := by decide +kernel
theorem dX3_finds_22 : decode cX3_finds 22 = .ok (.aload_n 0, 1) := by decide +kernel
theorem dX3_finds_23 : decode cX3_finds 23 = .ok (.getfield 26, 3) := by decide +kernel
theorem dX3_finds_26 : decode cX3_finds 26 = .ok (.iload_n 2, 1) := by decide +kernel
theorem dX3_finds_27 : decode cX3_finds 27 = .ok (.iload_n 1, 1) := by decide +kernel
theorem dX3_finds_28 : decode cX3_finds 28 = .ok (.invokevirtual 124, 3) := by decide +kernel
theorem dX3_finds_31 : decode cX3_finds 31 = .ok (.istore_n 3, 1) := by decide +kernel
theorem dX3_finds_32 : decode cX3_finds 32 = .ok (.aload_n 0, 1) := by decide +kernel
theorem dX3_finds_33 : decode cX3_finds 33 = .ok (.getfield 26, 3) := by decide +kernel
theorem dX3_finds_36 : decode cX3_finds 36 = .ok (.iload_n 1, 1) := by decide +kernel
theorem dX3_finds_37 : decode cX3_finds 37 = .ok (.invokevirtual 91, 3) := by decide +kernel
theorem dX3_finds_40 : decode cX3_finds 40 = .ok (.iload_n 3, 1) := by decide +kernel
theorem dX3_finds_41 : decode cX3_finds 41 = .ok (.if_icmp .le 14, 3) := by decide +kernel
theorem dX3_finds_44 : decode cX3_finds 44 = .ok (.bipush 10, 2) := by decide +kernel
theorem dX3_finds_46 : decode cX3_finds 46 = .ok (.iload_n 2, 1) := by decide +kernel
theorem dX3_finds_47 : decode cX3_finds 47 = .ok (.imul, 1) := by decide +kernel
theorem dX3_finds_48 : decode cX3_finds 48 = .ok (.iload_n 3, 1) := by decide +kernel
theorem dX3_finds_49 : decode cX3_finds 49 = .ok (.iadd, 1) := by decide +kernel
theorem dX3_finds_50 : decode cX3_finds 50 = .ok (.iconst 1, 1) := by decide +kernel
theorem dX3_finds_51 : decode cX3_finds 51 = .ok (.iadd, 1) := by decide +kernel
theorem dX3_finds_52 : decode cX3_finds 52 = .ok (.goto 5, 3) := by decide +kernel
theorem dX3_finds_55 : decode cX3_finds 55 = .ok (.bipush (-6), 2) := by decide +kernel
theorem dX3_finds_57 : decode cX3_finds 57 = .ok (.ireturn, 1) := by decide +kernel
theorem dX3_leastMean_0 : decode cX3_leastMean 0 = .ok (.aload_n 0, 1) := by decide +kernel
theorem dX3_leastMean_1 : decode cX3_leastMean 1 = .ok (.invokevirtual 127, 3) := by decide +kernel
theorem dX3_leastMean_4 : decode cX3_leastMean 4 = .ok (.aload_n 0, 1) := by decide +kernel
theorem dX3_leastMean_5 : decode cX3_leastMean 5 = .ok (.getfield 9, 3) := by decide +kernel
theorem dX3_leastMean_8 : decode cX3_leastMean 8 = .ok (.aload_n 0, 1) := by decide +kernel
theorem dX3_leastMean_9 : decode cX3_leastMean 9 = .ok (.getfield 19, 3) := by decide +kernel
theorem dX3_leastMean_12 : decode cX3_leastMean 12 = .ok (.invokevirtual 130, 3) := by decide +kernel
theorem dX3_leastMean_15 : decode cX3_leastMean 15 = .ok (.imul, 1) := by decide +kernel
theorem dX3_leastMean_16 : decode cX3_leastMean 16 = .ok (.aload_n 0, 1) := by decide +kernel
theorem dX3_leastMean_17 : decode cX3_leastMean 17 = .ok (.aload_n 0, 1) := by decide +kernel
theorem dX3_leastMean_18 : decode cX3_leastMean 18 = .ok (.getfield 50, 3) := by decide +kernel
theorem dX3_leastMean_21 : decode cX3_leastMean 21 = .ok (.invokevirtual 97, 3) := by decide +kernel
theorem dX3_leastMean_24 : decode cX3_leastMean 24 = .ok (.iadd, 1) := by decide +kernel
theorem dX3_leastMean_25 : decode cX3_leastMean 25 = .ok (.ireturn, 1) := by decide +kernel
theorem dX3_meanTrip_0 : decode cX3_meanTrip 0 = .ok (.aload_n 0, 1) := by decide +kernel
theorem dX3_meanTrip_1 : decode cX3_meanTrip 1 = .ok (.invokevirtual 127, 3) := by decide +kernel
theorem dX3_meanTrip_4 : decode cX3_meanTrip 4 = .ok (.aload_n 0, 1) := by decide +kernel
theorem dX3_meanTrip_5 : decode cX3_meanTrip 5 = .ok (.getfield 37, 3) := by decide +kernel
theorem dX3_meanTrip_8 : decode cX3_meanTrip 8 = .ok (.iload_n 1, 1) := by decide +kernel
theorem dX3_meanTrip_9 : decode cX3_meanTrip 9 = .ok (.invokestatic 133, 3) := by decide +kernel
theorem dX3_meanTrip_12 : decode cX3_meanTrip 12 = .ok (.ireturn, 1) := by decide +kernel
theorem dX3_leastWorst_0 : decode cX3_leastWorst 0 = .ok (.iload_n 1, 1) := by decide +kernel
theorem dX3_leastWorst_1 : decode cX3_leastWorst 1 = .ok (.ifCond .lt 8, 3) := by decide +kernel
theorem dX3_leastWorst_4 : decode cX3_leastWorst 4 = .ok (.iload_n 1, 1) := by decide +kernel
theorem dX3_leastWorst_5 : decode cX3_leastWorst 5 = .ok (.iconst 1, 1) := by decide +kernel
theorem dX3_leastWorst_6 : decode cX3_leastWorst 6 = .ok (.if_icmp .le 6, 3) := by decide +kernel
theorem dX3_leastWorst_9 : decode cX3_leastWorst 9 = .ok (.bipush (-2), 2) := by decide +kernel
theorem dX3_leastWorst_11 : decode cX3_leastWorst 11 = .ok (.ireturn, 1) := by decide +kernel
theorem dX3_leastWorst_12 : decode cX3_leastWorst 12 = .ok (.aload_n 0, 1) := by decide +kernel
theorem dX3_leastWorst_13 : decode cX3_leastWorst 13 = .ok (.invokevirtual 137, 3) := by decide +kernel
theorem dX3_leastWorst_16 : decode cX3_leastWorst 16 = .ok (.aload_n 0, 1) := by decide +kernel
theorem dX3_leastWorst_17 : decode cX3_leastWorst 17 = .ok (.invokevirtual 140, 3) := by decide +kernel
theorem dX3_leastWorst_20 : decode cX3_leastWorst 20 = .ok (.aload_n 0, 1) := by decide +kernel
theorem dX3_leastWorst_21 : decode cX3_leastWorst 21 = .ok (.getfield 9, 3) := by decide +kernel
theorem dX3_leastWorst_24 : decode cX3_leastWorst 24 = .ok (.sipush 840, 3) := by decide +kernel
theorem dX3_leastWorst_27 : decode cX3_leastWorst 27 = .ok (.imul, 1) := by decide +kernel
theorem dX3_leastWorst_28 : decode cX3_leastWorst 28 = .ok (.iload_n 1, 1) := by decide +kernel
theorem dX3_leastWorst_29 : decode cX3_leastWorst 29 = .ok (.invokestatic 107, 3) := by decide +kernel
theorem dX3_leastWorst_32 : decode cX3_leastWorst 32 = .ok (.ireturn, 1) := by decide +kernel
theorem dX3_worstTrip_0 : decode cX3_worstTrip 0 = .ok (.aload_n 0, 1) := by decide +kernel
theorem dX3_worstTrip_1 : decode cX3_worstTrip 1 = .ok (.invokevirtual 137, 3) := by decide +kernel
theorem dX3_worstTrip_4 : decode cX3_worstTrip 4 = .ok (.aload_n 0, 1) := by decide +kernel
theorem dX3_worstTrip_5 : decode cX3_worstTrip 5 = .ok (.getfield 40, 3) := by decide +kernel
theorem dX3_worstTrip_8 : decode cX3_worstTrip 8 = .ok (.iload_n 1, 1) := by decide +kernel
theorem dX3_worstTrip_9 : decode cX3_worstTrip 9 = .ok (.invokestatic 133, 3) := by decide +kernel
theorem dX3_worstTrip_12 : decode cX3_worstTrip 12 = .ok (.ireturn, 1) := by decide +kernel
theorem dX3_within_0 : decode cX3_within 0 = .ok (.iload_n 1, 1) := by decide +kernel
theorem dX3_within_1 : decode cX3_within 1 = .ok (.iconst 1, 1) := by decide +kernel
theorem dX3_within_2 : decode cX3_within 2 = .ok (.if_icmp .lt 22, 3) := by decide +kernel
theorem dX3_within_5 : decode cX3_within 5 = .ok (.iload_n 1, 1) := by decide +kernel
theorem dX3_within_6 : decode cX3_within 6 = .ok (.sipush 10000, 3) := by decide +kernel
theorem dX3_within_9 : decode cX3_within 9 = .ok (.if_icmp .gt 15, 3) := by decide +kernel
theorem dX3_within_12 : decode cX3_within 12 = .ok (.iload_n 2, 1) := by decide +kernel
theorem dX3_within_13 : decode cX3_within 13 = .ok (.iconst 1, 1) := by decide +kernel
theorem dX3_within_14 : decode cX3_within 14 = .ok (.if_icmp .lt 10, 3) := by decide +kernel
theorem dX3_within_17 : decode cX3_within 17 = .ok (.iload_n 2, 1) := by decide +kernel
theorem dX3_within_18 : decode cX3_within 18 = .ok (.sipush 10000, 3) := by decide +kernel
theorem dX3_within_21 : decode cX3_within 21 = .ok (.if_icmp .le 6, 3) := by decide +kernel
theorem dX3_within_24 : decode cX3_within 24 = .ok (.bipush (-2), 2) := by decide +kernel
theorem dX3_within_26 : decode cX3_within 26 = .ok (.ireturn, 1) := by decide +kernel
theorem dX3_within_27 : decode cX3_within 27 = .ok (.aload_n 0, 1) := by decide +kernel
theorem dX3_within_28 : decode cX3_within 28 = .ok (.invokevirtual 137, 3) := by decide +kernel
theorem dX3_within_31 : decode cX3_within 31 = .ok (.aload_n 0, 1) := by decide +kernel
theorem dX3_within_32 : decode cX3_within 32 = .ok (.invokevirtual 140, 3) := by decide +kernel
theorem dX3_within_35 : decode cX3_within 35 = .ok (.i2l, 1) := by decide +kernel
theorem dX3_within_36 : decode cX3_within 36 = .ok (.iload_n 2, 1) := by decide +kernel
theorem dX3_within_37 : decode cX3_within 37 = .ok (.i2l, 1) := by decide +kernel
theorem dX3_within_38 : decode cX3_within 38 = .ok (.lmul, 1) := by decide +kernel
theorem dX3_within_39 : decode cX3_within 39 = .ok (.iload_n 1, 1) := by decide +kernel
theorem dX3_within_40 : decode cX3_within 40 = .ok (.i2l, 1) := by decide +kernel
theorem dX3_within_41 : decode cX3_within 41 = .ok (.aload_n 0, 1) := by decide +kernel
theorem dX3_within_42 : decode cX3_within 42 = .ok (.getfield 9, 3) := by decide +kernel
theorem dX3_within_45 : decode cX3_within 45 = .ok (.sipush 840, 3) := by decide +kernel
theorem dX3_within_48 : decode cX3_within 48 = .ok (.imul, 1) := by decide +kernel
theorem dX3_within_49 : decode cX3_within 49 = .ok (.i2l, 1) := by decide +kernel
theorem dX3_within_50 : decode cX3_within 50 = .ok (.lmul, 1) := by decide +kernel
theorem dX3_within_51 : decode cX3_within 51 = .ok (.lcmp, 1) := by decide +kernel
theorem dX3_within_52 : decode cX3_within 52 = .ok (.ifCond .gt 7, 3) := by decide +kernel
theorem dX3_within_55 : decode cX3_within 55 = .ok (.iconst 1, 1) := by decide +kernel
theorem dX3_within_56 : decode cX3_within 56 = .ok (.goto 4, 3) := by decide +kernel
theorem dX3_within_59 : decode cX3_within 59 = .ok (.iconst 0, 1) := by decide +kernel
theorem dX3_within_60 : decode cX3_within 60 = .ok (.ireturn, 1) := by decide +kernel
theorem dX3_take_0 : decode cX3_take 0 = .ok (.iload_n 1, 1) := by decide +kernel
theorem dX3_take_1 : decode cX3_take 1 = .ok (.ifCond .lt 8, 3) := by decide +kernel
theorem dX3_take_4 : decode cX3_take 4 = .ok (.iload_n 1, 1) := by decide +kernel
theorem dX3_take_5 : decode cX3_take 5 = .ok (.iconst 1, 1) := by decide +kernel
theorem dX3_take_6 : decode cX3_take 6 = .ok (.if_icmp .le 6, 3) := by decide +kernel
theorem dX3_take_9 : decode cX3_take 9 = .ok (.bipush (-2), 2) := by decide +kernel
theorem dX3_take_11 : decode cX3_take 11 = .ok (.ireturn, 1) := by decide +kernel
theorem dX3_take_12 : decode cX3_take 12 = .ok (.iload_n 1, 1) := by decide +kernel
theorem dX3_take_13 : decode cX3_take 13 = .ok (.ifCond .ne 21, 3) := by decide +kernel
theorem dX3_take_16 : decode cX3_take 16 = .ok (.aload_n 0, 1) := by decide +kernel
theorem dX3_take_17 : decode cX3_take 17 = .ok (.invokevirtual 127, 3) := by decide +kernel
theorem dX3_take_20 : decode cX3_take 20 = .ok (.aload_n 0, 1) := by decide +kernel
theorem dX3_take_21 : decode cX3_take 21 = .ok (.getfield 26, 3) := by decide +kernel
theorem dX3_take_24 : decode cX3_take 24 = .ok (.aload_n 0, 1) := by decide +kernel
theorem dX3_take_25 : decode cX3_take 25 = .ok (.getfield 37, 3) := by decide +kernel
theorem dX3_take_28 : decode cX3_take 28 = .ok (.invokevirtual 143, 3) := by decide +kernel
theorem dX3_take_31 : decode cX3_take 31 = .ok (.goto 18, 3) := by decide +kernel
theorem dX3_take_34 : decode cX3_take 34 = .ok (.aload_n 0, 1) := by decide +kernel
theorem dX3_take_35 : decode cX3_take 35 = .ok (.invokevirtual 137, 3) := by decide +kernel
theorem dX3_take_38 : decode cX3_take 38 = .ok (.aload_n 0, 1) := by decide +kernel
theorem dX3_take_39 : decode cX3_take 39 = .ok (.getfield 26, 3) := by decide +kernel
theorem dX3_take_42 : decode cX3_take 42 = .ok (.aload_n 0, 1) := by decide +kernel
theorem dX3_take_43 : decode cX3_take 43 = .ok (.getfield 40, 3) := by decide +kernel
theorem dX3_take_46 : decode cX3_take 46 = .ok (.invokevirtual 143, 3) := by decide +kernel
theorem dX3_take_49 : decode cX3_take 49 = .ok (.aload_n 0, 1) := by decide +kernel
theorem dX3_take_50 : decode cX3_take 50 = .ok (.getfield 26, 3) := by decide +kernel
theorem dX3_take_53 : decode cX3_take 53 = .ok (.getfield 78, 3) := by decide +kernel
theorem dX3_take_56 : decode cX3_take 56 = .ok (.ireturn, 1) := by decide +kernel
theorem dX3_both_0 : decode cX3_both 0 = .ok (.aload_n 0, 1) := by decide +kernel
theorem dX3_both_1 : decode cX3_both 1 = .ok (.getfield 19, 3) := by decide +kernel
theorem dX3_both_4 : decode cX3_both 4 = .ok (.iload_n 1, 1) := by decide +kernel
theorem dX3_both_5 : decode cX3_both 5 = .ok (.iload_n 2, 1) := by decide +kernel
theorem dX3_both_6 : decode cX3_both 6 = .ok (.invokevirtual 67, 3) := by decide +kernel
theorem dX3_both_9 : decode cX3_both 9 = .ok (.ifCond .ne 5, 3) := by decide +kernel
theorem dX3_both_12 : decode cX3_both 12 = .ok (.iconst (-1), 1) := by decide +kernel
theorem dX3_both_13 : decode cX3_both 13 = .ok (.ireturn, 1) := by decide +kernel
theorem dX3_both_14 : decode cX3_both 14 = .ok (.iload_n 3, 1) := by decide +kernel
theorem dX3_both_15 : decode cX3_both 15 = .ok (.ifCond .lt 8, 3) := by decide +kernel
theorem dX3_both_18 : decode cX3_both 18 = .ok (.iload_n 3, 1) := by decide +kernel
theorem dX3_both_19 : decode cX3_both 19 = .ok (.iconst 4, 1) := by decide +kernel
theorem dX3_both_20 : decode cX3_both 20 = .ok (.if_icmp .le 6, 3) := by decide +kernel
theorem dX3_both_23 : decode cX3_both 23 = .ok (.bipush (-2), 2) := by decide +kernel
theorem dX3_both_25 : decode cX3_both 25 = .ok (.ireturn, 1) := by decide +kernel
theorem dX3_both_26 : decode cX3_both 26 = .ok (.aload_n 0, 1) := by decide +kernel
theorem dX3_both_27 : decode cX3_both 27 = .ok (.iload_n 1, 1) := by decide +kernel
theorem dX3_both_28 : decode cX3_both 28 = .ok (.iload_n 2, 1) := by decide +kernel
theorem dX3_both_29 : decode cX3_both 29 = .ok (.invokevirtual 147, 3) := by decide +kernel
theorem dX3_both_32 : decode cX3_both 32 = .ok (.istore 4, 2) := by decide +kernel
theorem dX3_both_34 : decode cX3_both 34 = .ok (.aload_n 0, 1) := by decide +kernel
theorem dX3_both_35 : decode cX3_both 35 = .ok (.getfield 26, 3) := by decide +kernel
theorem dX3_both_38 : decode cX3_both 38 = .ok (.iload 4, 2) := by decide +kernel
theorem dX3_both_40 : decode cX3_both 40 = .ok (.invokevirtual 84, 3) := by decide +kernel
theorem dX3_both_43 : decode cX3_both 43 = .ok (.ifCond .ne 6, 3) := by decide +kernel
theorem dX3_both_46 : decode cX3_both 46 = .ok (.bipush (-6), 2) := by decide +kernel
theorem dX3_both_48 : decode cX3_both 48 = .ok (.ireturn, 1) := by decide +kernel
theorem dX3_both_49 : decode cX3_both 49 = .ok (.iload 4, 2) := by decide +kernel
theorem dX3_both_51 : decode cX3_both 51 = .ok (.iconst 2, 1) := by decide +kernel
theorem dX3_both_52 : decode cX3_both 52 = .ok (.irem, 1) := by decide +kernel
theorem dX3_both_53 : decode cX3_both 53 = .ok (.istore 5, 2) := by decide +kernel
theorem dX3_both_55 : decode cX3_both 55 = .ok (.aload_n 0, 1) := by decide +kernel
theorem dX3_both_56 : decode cX3_both 56 = .ok (.getfield 26, 3) := by decide +kernel
theorem dX3_both_59 : decode cX3_both 59 = .ok (.iload 4, 2) := by decide +kernel
theorem dX3_both_61 : decode cX3_both 61 = .ok (.iload 5, 2) := by decide +kernel
theorem dX3_both_63 : decode cX3_both 63 = .ok (.invokevirtual 94, 3) := by decide +kernel
theorem dX3_both_66 : decode cX3_both 66 = .ok (.istore 6, 2) := by decide +kernel
theorem dX3_both_68 : decode cX3_both 68 = .ok (.aload_n 0, 1) := by decide +kernel
theorem dX3_both_69 : decode cX3_both 69 = .ok (.iload 6, 2) := by decide +kernel
theorem dX3_both_71 : decode cX3_both 71 = .ok (.invokevirtual 97, 3) := by decide +kernel
theorem dX3_both_74 : decode cX3_both 74 = .ok (.aload_n 0, 1) := by decide +kernel
theorem dX3_both_75 : decode cX3_both 75 = .ok (.getfield 9, 3) := by decide +kernel
theorem dX3_both_78 : decode cX3_both 78 = .ok (.iload_n 2, 1) := by decide +kernel
theorem dX3_both_79 : decode cX3_both 79 = .ok (.imul, 1) := by decide +kernel
theorem dX3_both_80 : decode cX3_both 80 = .ok (.iadd, 1) := by decide +kernel
theorem dX3_both_81 : decode cX3_both 81 = .ok (.istore 7, 2) := by decide +kernel
theorem dX3_both_83 : decode cX3_both 83 = .ok (.iload_n 3, 1) := by decide +kernel
theorem dX3_both_84 : decode cX3_both 84 = .ok (.tableswitch 51 0 2 #[28, 31, 48], 28) := by decide +kernel
theorem dX3_both_112 : decode cX3_both 112 = .ok (.iload 7, 2) := by decide +kernel
theorem dX3_both_114 : decode cX3_both 114 = .ok (.ireturn, 1) := by decide +kernel
theorem dX3_both_115 : decode cX3_both 115 = .ok (.aload_n 0, 1) := by decide +kernel
theorem dX3_both_116 : decode cX3_both 116 = .ok (.iload 6, 2) := by decide +kernel
theorem dX3_both_118 : decode cX3_both 118 = .ok (.aload_n 0, 1) := by decide +kernel
theorem dX3_both_119 : decode cX3_both 119 = .ok (.getfield 26, 3) := by decide +kernel
theorem dX3_both_122 : decode cX3_both 122 = .ok (.iload 4, 2) := by decide +kernel
theorem dX3_both_124 : decode cX3_both 124 = .ok (.invokevirtual 91, 3) := by decide +kernel
theorem dX3_both_127 : decode cX3_both 127 = .ok (.iadd, 1) := by decide +kernel
theorem dX3_both_128 : decode cX3_both 128 = .ok (.invokevirtual 97, 3) := by decide +kernel
theorem dX3_both_131 : decode cX3_both 131 = .ok (.ireturn, 1) := by decide +kernel
theorem dX3_both_132 : decode cX3_both 132 = .ok (.iload 5, 2) := by decide +kernel
theorem dX3_both_134 : decode cX3_both 134 = .ok (.ireturn, 1) := by decide +kernel
theorem dX3_both_135 : decode cX3_both 135 = .ok (.iload 7, 2) := by decide +kernel
theorem dX3_both_137 : decode cX3_both 137 = .ok (.aload_n 0, 1) := by decide +kernel
theorem dX3_both_138 : decode cX3_both 138 = .ok (.getfield 9, 3) := by decide +kernel
theorem dX3_both_141 : decode cX3_both 141 = .ok (.iload_n 2, 1) := by decide +kernel
theorem dX3_both_142 : decode cX3_both 142 = .ok (.imul, 1) := by decide +kernel
theorem dX3_both_143 : decode cX3_both 143 = .ok (.iload_n 3, 1) := by decide +kernel
theorem dX3_both_144 : decode cX3_both 144 = .ok (.iconst 3, 1) := by decide +kernel
theorem dX3_both_145 : decode cX3_both 145 = .ok (.isub, 1) := by decide +kernel
theorem dX3_both_146 : decode cX3_both 146 = .ok (.invokestatic 107, 3) := by decide +kernel
theorem dX3_both_149 : decode cX3_both 149 = .ok (.ireturn, 1) := by decide +kernel
theorem dX3_end_0 : decode cX3_end 0 = .ok (.aload_n 0, 1) := by decide +kernel
theorem dX3_end_1 : decode cX3_end 1 = .ok (.getfield 26, 3) := by decide +kernel
theorem dX3_end_4 : decode cX3_end 4 = .ok (.getfield 78, 3) := by decide +kernel
theorem dX3_end_7 : decode cX3_end 7 = .ok (.istore_n 1, 1) := by decide +kernel
theorem dX3_end_8 : decode cX3_end 8 = .ok (.aload_n 0, 1) := by decide +kernel
theorem dX3_end_9 : decode cX3_end 9 = .ok (.aload_n 0, 1) := by decide +kernel
theorem dX3_end_10 : decode cX3_end 10 = .ok (.getfield 26, 3) := by decide +kernel
theorem dX3_end_13 : decode cX3_end 13 = .ok (.iload_n 1, 1) := by decide +kernel
theorem dX3_end_14 : decode cX3_end 14 = .ok (.iconst 0, 1) := by decide +kernel
theorem dX3_end_15 : decode cX3_end 15 = .ok (.invokevirtual 94, 3) := by decide +kernel
theorem dX3_end_18 : decode cX3_end 18 = .ok (.aload_n 0, 1) := by decide +kernel
theorem dX3_end_19 : decode cX3_end 19 = .ok (.getfield 26, 3) := by decide +kernel
theorem dX3_end_22 : decode cX3_end 22 = .ok (.iload_n 1, 1) := by decide +kernel
theorem dX3_end_23 : decode cX3_end 23 = .ok (.iconst 1, 1) := by decide +kernel
theorem dX3_end_24 : decode cX3_end 24 = .ok (.invokevirtual 94, 3) := by decide +kernel
theorem dX3_end_27 : decode cX3_end 27 = .ok (.invokestatic 150, 3) := by decide +kernel
theorem dX3_end_30 : decode cX3_end 30 = .ok (.invokevirtual 97, 3) := by decide +kernel
theorem dX3_end_33 : decode cX3_end 33 = .ok (.ireturn, 1) := by decide +kernel
theorem dX3_told_0 : decode cX3_told 0 = .ok (.iload_n 1, 1) := by decide +kernel
theorem dX3_told_1 : decode cX3_told 1 = .ok (.tableswitch 105 0 6 #[43, 51, 59, 64, 69, 77, 85], 43) := by decide +kernel
theorem dX3_told_44 : decode cX3_told 44 = .ok (.aload_n 0, 1) := by decide +kernel
theorem dX3_told_45 : decode cX3_told 45 = .ok (.getfield 19, 3) := by decide +kernel
theorem dX3_told_48 : decode cX3_told 48 = .ok (.getfield 118, 3) := by decide +kernel
theorem dX3_told_51 : decode cX3_told 51 = .ok (.ireturn, 1) := by decide +kernel
theorem dX3_told_52 : decode cX3_told 52 = .ok (.aload_n 0, 1) := by decide +kernel
theorem dX3_told_53 : decode cX3_told 53 = .ok (.getfield 19, 3) := by decide +kernel
theorem dX3_told_56 : decode cX3_told 56 = .ok (.getfield 121, 3) := by decide +kernel
theorem dX3_told_59 : decode cX3_told 59 = .ok (.ireturn, 1) := by decide +kernel
theorem dX3_told_60 : decode cX3_told 60 = .ok (.aload_n 0, 1) := by decide +kernel
theorem dX3_told_61 : decode cX3_told 61 = .ok (.getfield 9, 3) := by decide +kernel
theorem dX3_told_64 : decode cX3_told 64 = .ok (.ireturn, 1) := by decide +kernel
theorem dX3_told_65 : decode cX3_told 65 = .ok (.aload_n 0, 1) := by decide +kernel
theorem dX3_told_66 : decode cX3_told 66 = .ok (.getfield 13, 3) := by decide +kernel
theorem dX3_told_69 : decode cX3_told 69 = .ok (.ireturn, 1) := by decide +kernel
theorem dX3_told_70 : decode cX3_told 70 = .ok (.aload_n 0, 1) := by decide +kernel
theorem dX3_told_71 : decode cX3_told 71 = .ok (.getfield 26, 3) := by decide +kernel
theorem dX3_told_74 : decode cX3_told 74 = .ok (.getfield 78, 3) := by decide +kernel
theorem dX3_told_77 : decode cX3_told 77 = .ok (.ireturn, 1) := by decide +kernel
theorem dX3_told_78 : decode cX3_told 78 = .ok (.aload_n 0, 1) := by decide +kernel
theorem dX3_told_79 : decode cX3_told 79 = .ok (.getfield 19, 3) := by decide +kernel
theorem dX3_told_82 : decode cX3_told 82 = .ok (.invokevirtual 155, 3) := by decide +kernel
theorem dX3_told_85 : decode cX3_told 85 = .ok (.ireturn, 1) := by decide +kernel
theorem dX3_told_86 : decode cX3_told 86 = .ok (.aload_n 0, 1) := by decide +kernel
theorem dX3_told_87 : decode cX3_told 87 = .ok (.aload_n 0, 1) := by decide +kernel
theorem dX3_told_88 : decode cX3_told 88 = .ok (.getfield 26, 3) := by decide +kernel
theorem dX3_told_91 : decode cX3_told 91 = .ok (.aload_n 0, 1) := by decide +kernel
theorem dX3_told_92 : decode cX3_told 92 = .ok (.getfield 26, 3) := by decide +kernel
theorem dX3_told_95 : decode cX3_told 95 = .ok (.getfield 78, 3) := by decide +kernel
theorem dX3_told_98 : decode cX3_told 98 = .ok (.iconst (-1), 1) := by decide +kernel
theorem dX3_told_99 : decode cX3_told 99 = .ok (.invokevirtual 94, 3) := by decide +kernel
theorem dX3_told_102 : decode cX3_told 102 = .ok (.invokevirtual 97, 3) := by decide +kernel
theorem dX3_told_105 : decode cX3_told 105 = .ok (.ireturn, 1) := by decide +kernel
theorem dX3_told_106 : decode cX3_told 106 = .ok (.bipush (-2), 2) := by decide +kernel
theorem dX3_told_108 : decode cX3_told 108 = .ok (.ireturn, 1) := by decide +kernel
theorem dX3_wholeTrips_0 : decode cX3_wholeTrips 0 = .ok (.aload_n 0, 1) := by decide +kernel
theorem dX3_wholeTrips_1 : decode cX3_wholeTrips 1 = .ok (.getfield 9, 3) := by decide +kernel
theorem dX3_wholeTrips_4 : decode cX3_wholeTrips 4 = .ok (.aload_n 0, 1) := by decide +kernel
theorem dX3_wholeTrips_5 : decode cX3_wholeTrips 5 = .ok (.getfield 13, 3) := by decide +kernel
theorem dX3_wholeTrips_8 : decode cX3_wholeTrips 8 = .ok (.iadd, 1) := by decide +kernel
theorem dX3_wholeTrips_9 : decode cX3_wholeTrips 9 = .ok (.iload_n 1, 1) := by decide +kernel
theorem dX3_wholeTrips_10 : decode cX3_wholeTrips 10 = .ok (.imul, 1) := by decide +kernel
theorem dX3_wholeTrips_11 : decode cX3_wholeTrips 11 = .ok (.ireturn, 1) := by decide +kernel
theorem dX3_wayTo_0 : decode cX3_wayTo 0 = .ok (.aload_n 0, 1) := by decide +kernel
theorem dX3_wayTo_1 : decode cX3_wayTo 1 = .ok (.getfield 26, 3) := by decide +kernel
theorem dX3_wayTo_4 : decode cX3_wayTo 4 = .ok (.iload_n 1, 1) := by decide +kernel
theorem dX3_wayTo_5 : decode cX3_wayTo 5 = .ok (.iload_n 2, 1) := by decide +kernel
theorem dX3_wayTo_6 : decode cX3_wayTo 6 = .ok (.iconst (-1), 1) := by decide +kernel
theorem dX3_wayTo_7 : decode cX3_wayTo 7 = .ok (.invokevirtual 158, 3) := by decide +kernel
theorem dX3_wayTo_10 : decode cX3_wayTo 10 = .ok (.istore_n 3, 1) := by decide +kernel
theorem dX3_wayTo_11 : decode cX3_wayTo 11 = .ok (.iload_n 3, 1) := by decide +kernel
theorem dX3_wayTo_12 : decode cX3_wayTo 12 = .ok (.ifCond .ge 8, 3) := by decide +kernel
theorem dX3_wayTo_15 : decode cX3_wayTo 15 = .ok (.bipush (-6), 2) := by decide +kernel
theorem dX3_wayTo_17 : decode cX3_wayTo 17 = .ok (.goto 23, 3) := by decide +kernel
theorem dX3_wayTo_20 : decode cX3_wayTo 20 = .ok (.aload_n 0, 1) := by decide +kernel
theorem dX3_wayTo_21 : decode cX3_wayTo 21 = .ok (.aload_n 0, 1) := by decide +kernel
theorem dX3_wayTo_22 : decode cX3_wayTo 22 = .ok (.getfield 26, 3) := by decide +kernel
theorem dX3_wayTo_25 : decode cX3_wayTo 25 = .ok (.iload_n 3, 1) := by decide +kernel
theorem dX3_wayTo_26 : decode cX3_wayTo 26 = .ok (.iconst (-1), 1) := by decide +kernel
theorem dX3_wayTo_27 : decode cX3_wayTo 27 = .ok (.invokevirtual 94, 3) := by decide +kernel
theorem dX3_wayTo_30 : decode cX3_wayTo 30 = .ok (.invokevirtual 97, 3) := by decide +kernel
theorem dX3_wayTo_33 : decode cX3_wayTo 33 = .ok (.aload_n 0, 1) := by decide +kernel
theorem dX3_wayTo_34 : decode cX3_wayTo 34 = .ok (.getfield 9, 3) := by decide +kernel
theorem dX3_wayTo_37 : decode cX3_wayTo 37 = .ok (.iload_n 2, 1) := by decide +kernel
theorem dX3_wayTo_38 : decode cX3_wayTo 38 = .ok (.imul, 1) := by decide +kernel
theorem dX3_wayTo_39 : decode cX3_wayTo 39 = .ok (.iadd, 1) := by decide +kernel
theorem dX3_wayTo_40 : decode cX3_wayTo 40 = .ok (.ireturn, 1) := by decide +kernel
theorem dX3_countMissed_0 : decode cX3_countMissed 0 = .ok (.iconst 0, 1) := by decide +kernel
theorem dX3_countMissed_1 : decode cX3_countMissed 1 = .ok (.istore_n 1, 1) := by decide +kernel
theorem dX3_countMissed_2 : decode cX3_countMissed 2 = .ok (.iconst 0, 1) := by decide +kernel
theorem dX3_countMissed_3 : decode cX3_countMissed 3 = .ok (.istore_n 2, 1) := by decide +kernel
theorem dX3_countMissed_4 : decode cX3_countMissed 4 = .ok (.iload_n 2, 1) := by decide +kernel
theorem dX3_countMissed_5 : decode cX3_countMissed 5 = .ok (.aload_n 0, 1) := by decide +kernel
theorem dX3_countMissed_6 : decode cX3_countMissed 6 = .ok (.getfield 19, 3) := by decide +kernel
theorem dX3_countMissed_9 : decode cX3_countMissed 9 = .ok (.getfield 118, 3) := by decide +kernel
theorem dX3_countMissed_12 : decode cX3_countMissed 12 = .ok (.if_icmp .ge 35, 3) := by decide +kernel
theorem dX3_countMissed_15 : decode cX3_countMissed 15 = .ok (.iload_n 1, 1) := by decide +kernel
theorem dX3_countMissed_16 : decode cX3_countMissed 16 = .ok (.aload_n 0, 1) := by decide +kernel
theorem dX3_countMissed_17 : decode cX3_countMissed 17 = .ok (.getfield 19, 3) := by decide +kernel
theorem dX3_countMissed_20 : decode cX3_countMissed 20 = .ok (.getfield 121, 3) := by decide +kernel
theorem dX3_countMissed_23 : decode cX3_countMissed 23 = .ok (.aload_n 0, 1) := by decide +kernel
theorem dX3_countMissed_24 : decode cX3_countMissed 24 = .ok (.getfield 26, 3) := by decide +kernel
theorem dX3_countMissed_27 : decode cX3_countMissed 27 = .ok (.iload_n 2, 1) := by decide +kernel
theorem dX3_countMissed_28 : decode cX3_countMissed 28 = .ok (.aload_n 0, 1) := by decide +kernel
theorem dX3_countMissed_29 : decode cX3_countMissed 29 = .ok (.getfield 26, 3) := by decide +kernel
theorem dX3_countMissed_32 : decode cX3_countMissed 32 = .ok (.getfield 78, 3) := by decide +kernel
theorem dX3_countMissed_35 : decode cX3_countMissed 35 = .ok (.invokevirtual 124, 3) := by decide +kernel
theorem dX3_countMissed_38 : decode cX3_countMissed 38 = .ok (.isub, 1) := by decide +kernel
theorem dX3_countMissed_39 : decode cX3_countMissed 39 = .ok (.iadd, 1) := by decide +kernel
theorem dX3_countMissed_40 : decode cX3_countMissed 40 = .ok (.istore_n 1, 1) := by decide +kernel
theorem dX3_countMissed_41 : decode cX3_countMissed 41 = .ok (.iinc 2 1, 3) := by decide +kernel
theorem dX3_countMissed_44 : decode cX3_countMissed 44 = .ok (.goto (-40), 3) := by decide +kernel
theorem dX3_countMissed_47 : decode cX3_countMissed 47 = .ok (.iload_n 1, 1) := by decide +kernel
theorem dX3_countMissed_48 : decode cX3_countMissed 48 = .ok (.ireturn, 1) := by decide +kernel
theorem dX3_worstPlace_0 : decode cX3_worstPlace 0 = .ok (.iconst 0, 1) := by decide +kernel
theorem dX3_worstPlace_1 : decode cX3_worstPlace 1 = .ok (.istore_n 1, 1) := by decide +kernel
theorem dX3_worstPlace_2 : decode cX3_worstPlace 2 = .ok (.iconst 1, 1) := by decide +kernel
theorem dX3_worstPlace_3 : decode cX3_worstPlace 3 = .ok (.istore_n 2, 1) := by decide +kernel
theorem dX3_worstPlace_4 : decode cX3_worstPlace 4 = .ok (.aload_n 0, 1) := by decide +kernel
theorem dX3_worstPlace_5 : decode cX3_worstPlace 5 = .ok (.iconst 0, 1) := by decide +kernel
theorem dX3_worstPlace_6 : decode cX3_worstPlace 6 = .ok (.iconst 1, 1) := by decide +kernel
theorem dX3_worstPlace_7 : decode cX3_worstPlace 7 = .ok (.invokevirtual 104, 3) := by decide +kernel
theorem dX3_worstPlace_10 : decode cX3_worstPlace 10 = .ok (.istore_n 3, 1) := by decide +kernel
theorem dX3_worstPlace_11 : decode cX3_worstPlace 11 = .ok (.iconst 0, 1) := by decide +kernel
theorem dX3_worstPlace_12 : decode cX3_worstPlace 12 = .ok (.istore 4, 2) := by decide +kernel
theorem dX3_worstPlace_14 : decode cX3_worstPlace 14 = .ok (.iload 4, 2) := by decide +kernel
theorem dX3_worstPlace_16 : decode cX3_worstPlace 16 = .ok (.aload_n 0, 1) := by decide +kernel
theorem dX3_worstPlace_17 : decode cX3_worstPlace 17 = .ok (.getfield 19, 3) := by decide +kernel
theorem dX3_worstPlace_20 : decode cX3_worstPlace 20 = .ok (.getfield 118, 3) := by decide +kernel
theorem dX3_worstPlace_23 : decode cX3_worstPlace 23 = .ok (.if_icmp .ge 60, 3) := by decide +kernel
theorem dX3_worstPlace_26 : decode cX3_worstPlace 26 = .ok (.iconst 1, 1) := by decide +kernel
theorem dX3_worstPlace_27 : decode cX3_worstPlace 27 = .ok (.istore 5, 2) := by decide +kernel
theorem dX3_worstPlace_29 : decode cX3_worstPlace 29 = .ok (.iload 5, 2) := by decide +kernel
theorem dX3_worstPlace_31 : decode cX3_worstPlace 31 = .ok (.aload_n 0, 1) := by decide +kernel
theorem dX3_worstPlace_32 : decode cX3_worstPlace 32 = .ok (.getfield 19, 3) := by decide +kernel
theorem dX3_worstPlace_35 : decode cX3_worstPlace 35 = .ok (.getfield 121, 3) := by decide +kernel
theorem dX3_worstPlace_38 : decode cX3_worstPlace 38 = .ok (.if_icmp .gt 39, 3) := by decide +kernel
theorem dX3_worstPlace_41 : decode cX3_worstPlace 41 = .ok (.aload_n 0, 1) := by decide +kernel
theorem dX3_worstPlace_42 : decode cX3_worstPlace 42 = .ok (.iload 4, 2) := by decide +kernel
theorem dX3_worstPlace_44 : decode cX3_worstPlace 44 = .ok (.iload 5, 2) := by decide +kernel
theorem dX3_worstPlace_46 : decode cX3_worstPlace 46 = .ok (.invokevirtual 104, 3) := by decide +kernel
theorem dX3_worstPlace_49 : decode cX3_worstPlace 49 = .ok (.istore 6, 2) := by decide +kernel
theorem dX3_worstPlace_51 : decode cX3_worstPlace 51 = .ok (.iload 6, 2) := by decide +kernel
theorem dX3_worstPlace_53 : decode cX3_worstPlace 53 = .ok (.iload_n 2, 1) := by decide +kernel
theorem dX3_worstPlace_54 : decode cX3_worstPlace 54 = .ok (.imul, 1) := by decide +kernel
theorem dX3_worstPlace_55 : decode cX3_worstPlace 55 = .ok (.iload_n 3, 1) := by decide +kernel
theorem dX3_worstPlace_56 : decode cX3_worstPlace 56 = .ok (.iload 5, 2) := by decide +kernel
theorem dX3_worstPlace_58 : decode cX3_worstPlace 58 = .ok (.imul, 1) := by decide +kernel
theorem dX3_worstPlace_59 : decode cX3_worstPlace 59 = .ok (.if_icmp .le 12, 3) := by decide +kernel
theorem dX3_worstPlace_62 : decode cX3_worstPlace 62 = .ok (.iload 4, 2) := by decide +kernel
theorem dX3_worstPlace_64 : decode cX3_worstPlace 64 = .ok (.istore_n 1, 1) := by decide +kernel
theorem dX3_worstPlace_65 : decode cX3_worstPlace 65 = .ok (.iload 5, 2) := by decide +kernel
theorem dX3_worstPlace_67 : decode cX3_worstPlace 67 = .ok (.istore_n 2, 1) := by decide +kernel
theorem dX3_worstPlace_68 : decode cX3_worstPlace 68 = .ok (.iload 6, 2) := by decide +kernel
theorem dX3_worstPlace_70 : decode cX3_worstPlace 70 = .ok (.istore_n 3, 1) := by decide +kernel
theorem dX3_worstPlace_71 : decode cX3_worstPlace 71 = .ok (.iinc 5 1, 3) := by decide +kernel
theorem dX3_worstPlace_74 : decode cX3_worstPlace 74 = .ok (.goto (-45), 3) := by decide +kernel
theorem dX3_worstPlace_77 : decode cX3_worstPlace 77 = .ok (.iinc 4 1, 3) := by decide +kernel
theorem dX3_worstPlace_80 : decode cX3_worstPlace 80 = .ok (.goto (-66), 3) := by decide +kernel
theorem dX3_worstPlace_83 : decode cX3_worstPlace 83 = .ok (.bipush 10, 2) := by decide +kernel
theorem dX3_worstPlace_85 : decode cX3_worstPlace 85 = .ok (.iload_n 1, 1) := by decide +kernel
theorem dX3_worstPlace_86 : decode cX3_worstPlace 86 = .ok (.imul, 1) := by decide +kernel
theorem dX3_worstPlace_87 : decode cX3_worstPlace 87 = .ok (.iload_n 2, 1) := by decide +kernel
theorem dX3_worstPlace_88 : decode cX3_worstPlace 88 = .ok (.iadd, 1) := by decide +kernel
theorem dX3_worstPlace_89 : decode cX3_worstPlace 89 = .ok (.ireturn, 1) := by decide +kernel
theorem dX3_tripThatMeets_0 : decode cX3_tripThatMeets 0 = .ok (.aload_n 0, 1) := by decide +kernel
theorem dX3_tripThatMeets_1 : decode cX3_tripThatMeets 1 = .ok (.getfield 26, 3) := by decide +kernel
theorem dX3_tripThatMeets_4 : decode cX3_tripThatMeets 4 = .ok (.iload_n 1, 1) := by decide +kernel
theorem dX3_tripThatMeets_5 : decode cX3_tripThatMeets 5 = .ok (.iload_n 2, 1) := by decide +kernel
theorem dX3_tripThatMeets_6 : decode cX3_tripThatMeets 6 = .ok (.iconst 0, 1) := by decide +kernel
theorem dX3_tripThatMeets_7 : decode cX3_tripThatMeets 7 = .ok (.invokevirtual 158, 3) := by decide +kernel
theorem dX3_tripThatMeets_10 : decode cX3_tripThatMeets 10 = .ok (.istore_n 3, 1) := by decide +kernel
theorem dX3_tripThatMeets_11 : decode cX3_tripThatMeets 11 = .ok (.aload_n 0, 1) := by decide +kernel
theorem dX3_tripThatMeets_12 : decode cX3_tripThatMeets 12 = .ok (.getfield 26, 3) := by decide +kernel
theorem dX3_tripThatMeets_15 : decode cX3_tripThatMeets 15 = .ok (.iload_n 1, 1) := by decide +kernel
theorem dX3_tripThatMeets_16 : decode cX3_tripThatMeets 16 = .ok (.iload_n 2, 1) := by decide +kernel
theorem dX3_tripThatMeets_17 : decode cX3_tripThatMeets 17 = .ok (.iconst 1, 1) := by decide +kernel
theorem dX3_tripThatMeets_18 : decode cX3_tripThatMeets 18 = .ok (.invokevirtual 158, 3) := by decide +kernel
theorem dX3_tripThatMeets_21 : decode cX3_tripThatMeets 21 = .ok (.istore 4, 2) := by decide +kernel
theorem dX3_tripThatMeets_23 : decode cX3_tripThatMeets 23 = .ok (.iload_n 3, 1) := by decide +kernel
theorem dX3_tripThatMeets_24 : decode cX3_tripThatMeets 24 = .ok (.ifCond .ge 6, 3) := by decide +kernel
theorem dX3_tripThatMeets_27 : decode cX3_tripThatMeets 27 = .ok (.iload 4, 2) := by decide +kernel
theorem dX3_tripThatMeets_29 : decode cX3_tripThatMeets 29 = .ok (.ireturn, 1) := by decide +kernel
theorem dX3_tripThatMeets_30 : decode cX3_tripThatMeets 30 = .ok (.iload 4, 2) := by decide +kernel
theorem dX3_tripThatMeets_32 : decode cX3_tripThatMeets 32 = .ok (.ifCond .ge 5, 3) := by decide +kernel
theorem dX3_tripThatMeets_35 : decode cX3_tripThatMeets 35 = .ok (.iload_n 3, 1) := by decide +kernel
theorem dX3_tripThatMeets_36 : decode cX3_tripThatMeets 36 = .ok (.ireturn, 1) := by decide +kernel
theorem dX3_tripThatMeets_37 : decode cX3_tripThatMeets 37 = .ok (.aload_n 0, 1) := by decide +kernel
theorem dX3_tripThatMeets_38 : decode cX3_tripThatMeets 38 = .ok (.getfield 26, 3) := by decide +kernel
theorem dX3_tripThatMeets_41 : decode cX3_tripThatMeets 41 = .ok (.iload 4, 2) := by decide +kernel
theorem dX3_tripThatMeets_43 : decode cX3_tripThatMeets 43 = .ok (.iconst 1, 1) := by decide +kernel
theorem dX3_tripThatMeets_44 : decode cX3_tripThatMeets 44 = .ok (.invokevirtual 94, 3) := by decide +kernel
theorem dX3_tripThatMeets_47 : decode cX3_tripThatMeets 47 = .ok (.aload_n 0, 1) := by decide +kernel
theorem dX3_tripThatMeets_48 : decode cX3_tripThatMeets 48 = .ok (.getfield 26, 3) := by decide +kernel
theorem dX3_tripThatMeets_51 : decode cX3_tripThatMeets 51 = .ok (.iload_n 3, 1) := by decide +kernel
theorem dX3_tripThatMeets_52 : decode cX3_tripThatMeets 52 = .ok (.iconst 0, 1) := by decide +kernel
theorem dX3_tripThatMeets_53 : decode cX3_tripThatMeets 53 = .ok (.invokevirtual 94, 3) := by decide +kernel
theorem dX3_tripThatMeets_56 : decode cX3_tripThatMeets 56 = .ok (.if_icmp .ge 8, 3) := by decide +kernel
theorem dX3_tripThatMeets_59 : decode cX3_tripThatMeets 59 = .ok (.iload 4, 2) := by decide +kernel
theorem dX3_tripThatMeets_61 : decode cX3_tripThatMeets 61 = .ok (.goto 4, 3) := by decide +kernel
theorem dX3_tripThatMeets_64 : decode cX3_tripThatMeets 64 = .ok (.iload_n 3, 1) := by decide +kernel
theorem dX3_tripThatMeets_65 : decode cX3_tripThatMeets 65 = .ok (.ireturn, 1) := by decide +kernel
theorem dX3_placeOf_0 : decode cX3_placeOf 0 = .ok (.aload_n 0, 1) := by decide +kernel
theorem dX3_placeOf_1 : decode cX3_placeOf 1 = .ok (.iload_n 1, 1) := by decide +kernel
theorem dX3_placeOf_2 : decode cX3_placeOf 2 = .ok (.invokevirtual 84, 3) := by decide +kernel
theorem dX3_placeOf_5 : decode cX3_placeOf 5 = .ok (.ifCond .eq 20, 3) := by decide +kernel
theorem dX3_placeOf_8 : decode cX3_placeOf 8 = .ok (.bipush 10, 2) := by decide +kernel
theorem dX3_placeOf_10 : decode cX3_placeOf 10 = .ok (.aload_n 0, 1) := by decide +kernel
theorem dX3_placeOf_11 : decode cX3_placeOf 11 = .ok (.iload_n 1, 1) := by decide +kernel
theorem dX3_placeOf_12 : decode cX3_placeOf 12 = .ok (.invokevirtual 87, 3) := by decide +kernel
theorem dX3_placeOf_15 : decode cX3_placeOf 15 = .ok (.imul, 1) := by decide +kernel
theorem dX3_placeOf_16 : decode cX3_placeOf 16 = .ok (.aload_n 0, 1) := by decide +kernel
theorem dX3_placeOf_17 : decode cX3_placeOf 17 = .ok (.iload_n 1, 1) := by decide +kernel
theorem dX3_placeOf_18 : decode cX3_placeOf 18 = .ok (.invokevirtual 91, 3) := by decide +kernel
theorem dX3_placeOf_21 : decode cX3_placeOf 21 = .ok (.iadd, 1) := by decide +kernel
theorem dX3_placeOf_22 : decode cX3_placeOf 22 = .ok (.goto 5, 3) := by decide +kernel
theorem dX3_placeOf_25 : decode cX3_placeOf 25 = .ok (.bipush (-6), 2) := by decide +kernel
theorem dX3_placeOf_27 : decode cX3_placeOf 27 = .ok (.ireturn, 1) := by decide +kernel
theorem dX3_findMean_0 : decode cX3_findMean 0 = .ok (.aload_n 0, 1) := by decide +kernel
theorem dX3_findMean_1 : decode cX3_findMean 1 = .ok (.getfield 43, 3) := by decide +kernel
theorem dX3_findMean_4 : decode cX3_findMean 4 = .ok (.ifCond .ne 27, 3) := by decide +kernel
theorem dX3_findMean_7 : decode cX3_findMean 7 = .ok (.aload_n 0, 1) := by decide +kernel
theorem dX3_findMean_8 : decode cX3_findMean 8 = .ok (.aload_n 0, 1) := by decide +kernel
theorem dX3_findMean_9 : decode cX3_findMean 9 = .ok (.getfield 33, 3) := by decide +kernel
theorem dX3_findMean_12 : decode cX3_findMean 12 = .ok (.aload_n 0, 1) := by decide +kernel
theorem dX3_findMean_13 : decode cX3_findMean 13 = .ok (.getfield 19, 3) := by decide +kernel
theorem dX3_findMean_16 : decode cX3_findMean 16 = .ok (.aload_n 0, 1) := by decide +kernel
theorem dX3_findMean_17 : decode cX3_findMean 17 = .ok (.getfield 37, 3) := by decide +kernel
theorem dX3_findMean_20 : decode cX3_findMean 20 = .ok (.invokevirtual 161, 3) := by decide +kernel
theorem dX3_findMean_23 : decode cX3_findMean 23 = .ok (.putfield 50, 3) := by decide +kernel
theorem dX3_findMean_26 : decode cX3_findMean 26 = .ok (.aload_n 0, 1) := by decide +kernel
theorem dX3_findMean_27 : decode cX3_findMean 27 = .ok (.iconst 1, 1) := by decide +kernel
theorem dX3_findMean_28 : decode cX3_findMean 28 = .ok (.putfield 43, 3) := by decide +kernel
theorem dX3_findMean_31 : decode cX3_findMean 31 = .ok (.return_, 1) := by decide +kernel
theorem dX3_findWorst_0 : decode cX3_findWorst 0 = .ok (.aload_n 0, 1) := by decide +kernel
theorem dX3_findWorst_1 : decode cX3_findWorst 1 = .ok (.getfield 47, 3) := by decide +kernel
theorem dX3_findWorst_4 : decode cX3_findWorst 4 = .ok (.ifCond .ne 27, 3) := by decide +kernel
theorem dX3_findWorst_7 : decode cX3_findWorst 7 = .ok (.aload_n 0, 1) := by decide +kernel
theorem dX3_findWorst_8 : decode cX3_findWorst 8 = .ok (.aload_n 0, 1) := by decide +kernel
theorem dX3_findWorst_9 : decode cX3_findWorst 9 = .ok (.getfield 33, 3) := by decide +kernel
theorem dX3_findWorst_12 : decode cX3_findWorst 12 = .ok (.aload_n 0, 1) := by decide +kernel
theorem dX3_findWorst_13 : decode cX3_findWorst 13 = .ok (.getfield 19, 3) := by decide +kernel
theorem dX3_findWorst_16 : decode cX3_findWorst 16 = .ok (.aload_n 0, 1) := by decide +kernel
theorem dX3_findWorst_17 : decode cX3_findWorst 17 = .ok (.getfield 40, 3) := by decide +kernel
theorem dX3_findWorst_20 : decode cX3_findWorst 20 = .ok (.invokevirtual 165, 3) := by decide +kernel
theorem dX3_findWorst_23 : decode cX3_findWorst 23 = .ok (.putfield 53, 3) := by decide +kernel
theorem dX3_findWorst_26 : decode cX3_findWorst 26 = .ok (.aload_n 0, 1) := by decide +kernel
theorem dX3_findWorst_27 : decode cX3_findWorst 27 = .ok (.iconst 1, 1) := by decide +kernel
theorem dX3_findWorst_28 : decode cX3_findWorst 28 = .ok (.putfield 47, 3) := by decide +kernel
theorem dX3_findWorst_31 : decode cX3_findWorst 31 = .ok (.return_, 1) := by decide +kernel
theorem dX3_worstUpper_0 : decode cX3_worstUpper 0 = .ok (.aload_n 0, 1) := by decide +kernel
theorem dX3_worstUpper_1 : decode cX3_worstUpper 1 = .ok (.getfield 9, 3) := by decide +kernel
theorem dX3_worstUpper_4 : decode cX3_worstUpper 4 = .ok (.sipush 840, 3) := by decide +kernel
theorem dX3_worstUpper_7 : decode cX3_worstUpper 7 = .ok (.imul, 1) := by decide +kernel
theorem dX3_worstUpper_8 : decode cX3_worstUpper 8 = .ok (.aload_n 0, 1) := by decide +kernel
theorem dX3_worstUpper_9 : decode cX3_worstUpper 9 = .ok (.aload_n 0, 1) := by decide +kernel
theorem dX3_worstUpper_10 : decode cX3_worstUpper 10 = .ok (.getfield 53, 3) := by decide +kernel
theorem dX3_worstUpper_13 : decode cX3_worstUpper 13 = .ok (.invokevirtual 97, 3) := by decide +kernel
theorem dX3_worstUpper_16 : decode cX3_worstUpper 16 = .ok (.iadd, 1) := by decide +kernel
theorem dX3_worstUpper_17 : decode cX3_worstUpper 17 = .ok (.ireturn, 1) := by decide +kernel
theorem dX3_lowest_0 : decode cX3_lowest 0 = .ok (.iload_n 0, 1) := by decide +kernel
theorem dX3_lowest_1 : decode cX3_lowest 1 = .ok (.iload_n 1, 1) := by decide +kernel
theorem dX3_lowest_2 : decode cX3_lowest 2 = .ok (.invokestatic 168, 3) := by decide +kernel
theorem dX3_lowest_5 : decode cX3_lowest 5 = .ok (.istore_n 3, 1) := by decide +kernel
theorem dX3_lowest_6 : decode cX3_lowest 6 = .ok (.iload_n 3, 1) := by decide +kernel
theorem dX3_lowest_7 : decode cX3_lowest 7 = .ok (.iconst 1, 1) := by decide +kernel
theorem dX3_lowest_8 : decode cX3_lowest 8 = .ok (.if_icmp .ge 13, 3) := by decide +kernel
theorem dX3_lowest_11 : decode cX3_lowest 11 = .ok (.iload_n 2, 1) := by decide +kernel
theorem dX3_lowest_12 : decode cX3_lowest 12 = .ok (.ifCond .ne 7, 3) := by decide +kernel
theorem dX3_lowest_15 : decode cX3_lowest 15 = .ok (.iload_n 0, 1) := by decide +kernel
theorem dX3_lowest_16 : decode cX3_lowest 16 = .ok (.goto 4, 3) := by decide +kernel
theorem dX3_lowest_19 : decode cX3_lowest 19 = .ok (.iload_n 1, 1) := by decide +kernel
theorem dX3_lowest_20 : decode cX3_lowest 20 = .ok (.ireturn, 1) := by decide +kernel
theorem dX3_lowest_21 : decode cX3_lowest 21 = .ok (.iload_n 2, 1) := by decide +kernel
theorem dX3_lowest_22 : decode cX3_lowest 22 = .ok (.ifCond .ne 9, 3) := by decide +kernel
theorem dX3_lowest_25 : decode cX3_lowest 25 = .ok (.iload_n 0, 1) := by decide +kernel
theorem dX3_lowest_26 : decode cX3_lowest 26 = .ok (.iload_n 3, 1) := by decide +kernel
theorem dX3_lowest_27 : decode cX3_lowest 27 = .ok (.idiv, 1) := by decide +kernel
theorem dX3_lowest_28 : decode cX3_lowest 28 = .ok (.goto 6, 3) := by decide +kernel
theorem dX3_lowest_31 : decode cX3_lowest 31 = .ok (.iload_n 1, 1) := by decide +kernel
theorem dX3_lowest_32 : decode cX3_lowest 32 = .ok (.iload_n 3, 1) := by decide +kernel
theorem dX3_lowest_33 : decode cX3_lowest 33 = .ok (.idiv, 1) := by decide +kernel
theorem dX3_lowest_34 : decode cX3_lowest 34 = .ok (.ireturn, 1) := by decide +kernel
theorem dX3_commonDivisor_0 : decode cX3_commonDivisor 0 = .ok (.iload_n 0, 1) := by decide +kernel
theorem dX3_commonDivisor_1 : decode cX3_commonDivisor 1 = .ok (.istore_n 2, 1) := by decide +kernel
theorem dX3_commonDivisor_2 : decode cX3_commonDivisor 2 = .ok (.iload_n 1, 1) := by decide +kernel
theorem dX3_commonDivisor_3 : decode cX3_commonDivisor 3 = .ok (.istore_n 3, 1) := by decide +kernel
theorem dX3_commonDivisor_4 : decode cX3_commonDivisor 4 = .ok (.iconst 0, 1) := by decide +kernel
theorem dX3_commonDivisor_5 : decode cX3_commonDivisor 5 = .ok (.istore 4, 2) := by decide +kernel
theorem dX3_commonDivisor_7 : decode cX3_commonDivisor 7 = .ok (.iload 4, 2) := by decide +kernel
theorem dX3_commonDivisor_9 : decode cX3_commonDivisor 9 = .ok (.bipush 64, 2) := by decide +kernel
theorem dX3_commonDivisor_11 : decode cX3_commonDivisor 11 = .ok (.if_icmp .ge 23, 3) := by decide +kernel
theorem dX3_commonDivisor_14 : decode cX3_commonDivisor 14 = .ok (.iload_n 3, 1) := by decide +kernel
theorem dX3_commonDivisor_15 : decode cX3_commonDivisor 15 = .ok (.ifCond .le 19, 3) := by decide +kernel
theorem dX3_commonDivisor_18 : decode cX3_commonDivisor 18 = .ok (.iload_n 2, 1) := by decide +kernel
theorem dX3_commonDivisor_19 : decode cX3_commonDivisor 19 = .ok (.iload_n 3, 1) := by decide +kernel
theorem dX3_commonDivisor_20 : decode cX3_commonDivisor 20 = .ok (.irem, 1) := by decide +kernel
theorem dX3_commonDivisor_21 : decode cX3_commonDivisor 21 = .ok (.istore 5, 2) := by decide +kernel
theorem dX3_commonDivisor_23 : decode cX3_commonDivisor 23 = .ok (.iload_n 3, 1) := by decide +kernel
theorem dX3_commonDivisor_24 : decode cX3_commonDivisor 24 = .ok (.istore_n 2, 1) := by decide +kernel
theorem dX3_commonDivisor_25 : decode cX3_commonDivisor 25 = .ok (.iload 5, 2) := by decide +kernel
theorem dX3_commonDivisor_27 : decode cX3_commonDivisor 27 = .ok (.istore_n 3, 1) := by decide +kernel
theorem dX3_commonDivisor_28 : decode cX3_commonDivisor 28 = .ok (.iinc 4 1, 3) := by decide +kernel
theorem dX3_commonDivisor_31 : decode cX3_commonDivisor 31 = .ok (.goto (-24), 3) := by decide +kernel
theorem dX3_commonDivisor_34 : decode cX3_commonDivisor 34 = .ok (.iload_n 2, 1) := by decide +kernel
theorem dX3_commonDivisor_35 : decode cX3_commonDivisor 35 = .ok (.ireturn, 1) := by decide +kernel
theorem dX3_at_0 : decode cX3_at 0 = .ok (.iload_n 1, 1) := by decide +kernel
theorem dX3_at_1 : decode cX3_at 1 = .ok (.ifCond .lt 15, 3) := by decide +kernel
theorem dX3_at_4 : decode cX3_at 4 = .ok (.iload_n 1, 1) := by decide +kernel
theorem dX3_at_5 : decode cX3_at 5 = .ok (.aload_n 0, 1) := by decide +kernel
theorem dX3_at_6 : decode cX3_at 6 = .ok (.arraylength, 1) := by decide +kernel
theorem dX3_at_7 : decode cX3_at 7 = .ok (.if_icmp .ge 9, 3) := by decide +kernel
theorem dX3_at_10 : decode cX3_at 10 = .ok (.aload_n 0, 1) := by decide +kernel
theorem dX3_at_11 : decode cX3_at 11 = .ok (.iload_n 1, 1) := by decide +kernel
theorem dX3_at_12 : decode cX3_at 12 = .ok (.iaload, 1) := by decide +kernel
theorem dX3_at_13 : decode cX3_at 13 = .ok (.goto 4, 3) := by decide +kernel
theorem dX3_at_16 : decode cX3_at 16 = .ok (.iconst 0, 1) := by decide +kernel
theorem dX3_at_17 : decode cX3_at 17 = .ok (.ireturn, 1) := by decide +kernel
theorem dX3_put_0 : decode cX3_put 0 = .ok (.iload_n 1, 1) := by decide +kernel
theorem dX3_put_1 : decode cX3_put 1 = .ok (.ifCond .lt 13, 3) := by decide +kernel
theorem dX3_put_4 : decode cX3_put 4 = .ok (.iload_n 1, 1) := by decide +kernel
theorem dX3_put_5 : decode cX3_put 5 = .ok (.aload_n 0, 1) := by decide +kernel
theorem dX3_put_6 : decode cX3_put 6 = .ok (.arraylength, 1) := by decide +kernel
theorem dX3_put_7 : decode cX3_put 7 = .ok (.if_icmp .ge 7, 3) := by decide +kernel
theorem dX3_put_10 : decode cX3_put 10 = .ok (.aload_n 0, 1) := by decide +kernel
theorem dX3_put_11 : decode cX3_put 11 = .ok (.iload_n 1, 1) := by decide +kernel
theorem dX3_put_12 : decode cX3_put 12 = .ok (.iload_n 2, 1) := by decide +kernel
theorem dX3_put_13 : decode cX3_put 13 = .ok (.iastore, 1) := by decide +kernel
theorem dX3_put_14 : decode cX3_put 14 = .ok (.return_, 1) := by decide +kernel
theorem dX3_putAll_0 : decode cX3_putAll 0 = .ok (.iconst 0, 1) := by decide +kernel
theorem dX3_putAll_1 : decode cX3_putAll 1 = .ok (.istore_n 2, 1) := by decide +kernel
theorem dX3_putAll_2 : decode cX3_putAll 2 = .ok (.iload_n 2, 1) := by decide +kernel
theorem dX3_putAll_3 : decode cX3_putAll 3 = .ok (.aload_n 0, 1) := by decide +kernel
theorem dX3_putAll_4 : decode cX3_putAll 4 = .ok (.arraylength, 1) := by decide +kernel
theorem dX3_putAll_5 : decode cX3_putAll 5 = .ok (.if_icmp .ge 13, 3) := by decide +kernel
theorem dX3_putAll_8 : decode cX3_putAll 8 = .ok (.aload_n 0, 1) := by decide +kernel
theorem dX3_putAll_9 : decode cX3_putAll 9 = .ok (.iload_n 2, 1) := by decide +kernel
theorem dX3_putAll_10 : decode cX3_putAll 10 = .ok (.iload_n 1, 1) := by decide +kernel
theorem dX3_putAll_11 : decode cX3_putAll 11 = .ok (.iastore, 1) := by decide +kernel
theorem dX3_putAll_12 : decode cX3_putAll 12 = .ok (.iinc 2 1, 3) := by decide +kernel
theorem dX3_putAll_15 : decode cX3_putAll 15 = .ok (.goto (-13), 3) := by decide +kernel
theorem dX3_putAll_18 : decode cX3_putAll 18 = .ok (.return_, 1) := by decide +kernel
end
section
theorem dX4_init_0 : decode cX4_init 0 = .ok (.aload_n 0, 1) := by decide +kernel
theorem dX4_init_1 : decode cX4_init 1 = .ok (.invokespecial 1, 3) := by decide +kernel
theorem dX4_init_4 : decode cX4_init 4 = .ok (.aload_n 0, 1) := by decide +kernel
theorem dX4_init_5 : decode cX4_init 5 = .ok (.iconst 2, 1) := by decide +kernel
theorem dX4_init_6 : decode cX4_init 6 = .ok (.putfield 7, 3) := by decide +kernel
theorem dX4_init_9 : decode cX4_init 9 = .ok (.aload_n 0, 1) := by decide +kernel
theorem dX4_init_10 : decode cX4_init 10 = .ok (.iconst 5, 1) := by decide +kernel
theorem dX4_init_11 : decode cX4_init 11 = .ok (.putfield 13, 3) := by decide +kernel
theorem dX4_init_14 : decode cX4_init 14 = .ok (.aload_n 0, 1) := by decide +kernel
theorem dX4_init_15 : decode cX4_init 15 = .ok (.iconst 1, 1) := by decide +kernel
theorem dX4_init_16 : decode cX4_init 16 = .ok (.putfield 16, 3) := by decide +kernel
theorem dX4_init_19 : decode cX4_init 19 = .ok (.aload_n 0, 1) := by decide +kernel
theorem dX4_init_20 : decode cX4_init 20 = .ok (.iconst 1, 1) := by decide +kernel
theorem dX4_init_21 : decode cX4_init 21 = .ok (.putfield 19, 3) := by decide +kernel
theorem dX4_init_24 : decode cX4_init 24 = .ok (.aload_n 0, 1) := by decide +kernel
theorem dX4_init_25 : decode cX4_init 25 = .ok (.bipush 27, 2) := by decide +kernel
theorem dX4_init_27 : decode cX4_init 27 = .ok (.newarray .int, 2) := by decide +kernel
theorem dX4_init_29 : decode cX4_init 29 = .ok (.putfield 22, 3) := by decide +kernel
theorem dX4_init_32 : decode cX4_init 32 = .ok (.aload_n 0, 1) := by decide +kernel
theorem dX4_init_33 : decode cX4_init 33 = .ok (.bipush 30, 2) := by decide +kernel
theorem dX4_init_35 : decode cX4_init 35 = .ok (.newarray .int, 2) := by decide +kernel
theorem dX4_init_37 : decode cX4_init 37 = .ok (.putfield 26, 3) := by decide +kernel
theorem dX4_init_40 : decode cX4_init 40 = .ok (.aload_n 0, 1) := by decide +kernel
theorem dX4_init_41 : decode cX4_init 41 = .ok (.bipush 30, 2) := by decide +kernel
theorem dX4_init_43 : decode cX4_init 43 = .ok (.newarray .int, 2) := by decide +kernel
theorem dX4_init_45 : decode cX4_init 45 = .ok (.putfield 29, 3) := by decide +kernel
theorem dX4_init_48 : decode cX4_init 48 = .ok (.aload_n 0, 1) := by decide +kernel
theorem dX4_init_49 : decode cX4_init 49 = .ok (.sipush 729, 3) := by decide +kernel
theorem dX4_init_52 : decode cX4_init 52 = .ok (.newarray .int, 2) := by decide +kernel
theorem dX4_init_54 : decode cX4_init 54 = .ok (.putfield 32, 3) := by decide +kernel
theorem dX4_init_57 : decode cX4_init 57 = .ok (.aload_n 0, 1) := by decide +kernel
theorem dX4_init_58 : decode cX4_init 58 = .ok (.sipush 729, 3) := by decide +kernel
theorem dX4_init_61 : decode cX4_init 61 = .ok (.newarray .int, 2) := by decide +kernel
theorem dX4_init_63 : decode cX4_init 63 = .ok (.putfield 35, 3) := by decide +kernel
theorem dX4_init_66 : decode cX4_init 66 = .ok (.aload_n 0, 1) := by decide +kernel
theorem dX4_init_67 : decode cX4_init 67 = .ok (.bipush 30, 2) := by decide +kernel
theorem dX4_init_69 : decode cX4_init 69 = .ok (.newarray .int, 2) := by decide +kernel
theorem dX4_init_71 : decode cX4_init 71 = .ok (.putfield 38, 3) := by decide +kernel
theorem dX4_init_74 : decode cX4_init 74 = .ok (.aload_n 0, 1) := by decide +kernel
theorem dX4_init_75 : decode cX4_init 75 = .ok (.invokevirtual 41, 3) := by decide +kernel
theorem dX4_init_78 : decode cX4_init 78 = .ok (.return_, 1) := by decide +kernel
theorem dX4_in_0 : decode cX4_in 0 = .ok (.iload_n 0, 1) := by decide +kernel
theorem dX4_in_1 : decode cX4_in 1 = .ok (.iload_n 1, 1) := by decide +kernel
theorem dX4_in_2 : decode cX4_in 2 = .ok (.if_icmp .lt 12, 3) := by decide +kernel
theorem dX4_in_5 : decode cX4_in 5 = .ok (.iload_n 0, 1) := by decide +kernel
theorem dX4_in_6 : decode cX4_in 6 = .ok (.iload_n 2, 1) := by decide +kernel
theorem dX4_in_7 : decode cX4_in 7 = .ok (.if_icmp .gt 7, 3) := by decide +kernel
theorem dX4_in_10 : decode cX4_in 10 = .ok (.iconst 1, 1) := by decide +kernel
theorem dX4_in_11 : decode cX4_in 11 = .ok (.goto 4, 3) := by decide +kernel
theorem dX4_in_14 : decode cX4_in 14 = .ok (.iconst 0, 1) := by decide +kernel
theorem dX4_in_15 : decode cX4_in 15 = .ok (.ireturn, 1) := by decide +kernel
theorem dX4_begin_0 : decode cX4_begin 0 = .ok (.aload_n 0, 1) := by decide +kernel
theorem dX4_begin_1 : decode cX4_begin 1 = .ok (.iconst 0, 1) := by decide +kernel
theorem dX4_begin_2 : decode cX4_begin 2 = .ok (.putfield 44, 3) := by decide +kernel
theorem dX4_begin_5 : decode cX4_begin 5 = .ok (.iconst 0, 1) := by decide +kernel
theorem dX4_begin_6 : decode cX4_begin 6 = .ok (.istore_n 1, 1) := by decide +kernel
theorem dX4_begin_7 : decode cX4_begin 7 = .ok (.iload_n 1, 1) := by decide +kernel
theorem dX4_begin_8 : decode cX4_begin 8 = .ok (.bipush 27, 2) := by decide +kernel
theorem dX4_begin_10 : decode cX4_begin 10 = .ok (.if_icmp .ge 16, 3) := by decide +kernel
theorem dX4_begin_13 : decode cX4_begin 13 = .ok (.aload_n 0, 1) := by decide +kernel
theorem dX4_begin_14 : decode cX4_begin 14 = .ok (.getfield 22, 3) := by decide +kernel
theorem dX4_begin_17 : decode cX4_begin 17 = .ok (.iload_n 1, 1) := by decide +kernel
theorem dX4_begin_18 : decode cX4_begin 18 = .ok (.iconst 1, 1) := by decide +kernel
theorem dX4_begin_19 : decode cX4_begin 19 = .ok (.iastore, 1) := by decide +kernel
theorem dX4_begin_20 : decode cX4_begin 20 = .ok (.iinc 1 1, 3) := by decide +kernel
theorem dX4_begin_23 : decode cX4_begin 23 = .ok (.goto (-16), 3) := by decide +kernel
theorem dX4_begin_26 : decode cX4_begin 26 = .ok (.return_, 1) := by decide +kernel
theorem dX4_isPlace_0 : decode cX4_isPlace 0 = .ok (.iload_n 1, 1) := by decide +kernel
theorem dX4_isPlace_1 : decode cX4_isPlace 1 = .ok (.iconst 0, 1) := by decide +kernel
theorem dX4_isPlace_2 : decode cX4_isPlace 2 = .ok (.aload_n 0, 1) := by decide +kernel
theorem dX4_isPlace_3 : decode cX4_isPlace 3 = .ok (.getfield 7, 3) := by decide +kernel
theorem dX4_isPlace_6 : decode cX4_isPlace 6 = .ok (.iconst 1, 1) := by decide +kernel
theorem dX4_isPlace_7 : decode cX4_isPlace 7 = .ok (.isub, 1) := by decide +kernel
theorem dX4_isPlace_8 : decode cX4_isPlace 8 = .ok (.invokestatic 47, 3) := by decide +kernel
theorem dX4_isPlace_11 : decode cX4_isPlace 11 = .ok (.ifCond .eq 19, 3) := by decide +kernel
theorem dX4_isPlace_14 : decode cX4_isPlace 14 = .ok (.iload_n 2, 1) := by decide +kernel
theorem dX4_isPlace_15 : decode cX4_isPlace 15 = .ok (.iconst 1, 1) := by decide +kernel
theorem dX4_isPlace_16 : decode cX4_isPlace 16 = .ok (.aload_n 0, 1) := by decide +kernel
theorem dX4_isPlace_17 : decode cX4_isPlace 17 = .ok (.getfield 13, 3) := by decide +kernel
theorem dX4_isPlace_20 : decode cX4_isPlace 20 = .ok (.invokestatic 47, 3) := by decide +kernel
theorem dX4_isPlace_23 : decode cX4_isPlace 23 = .ok (.ifCond .eq 7, 3) := by decide +kernel
theorem dX4_isPlace_26 : decode cX4_isPlace 26 = .ok (.iconst 1, 1) := by decide +kernel
theorem dX4_isPlace_27 : decode cX4_isPlace 27 = .ok (.goto 4, 3) := by decide +kernel
theorem dX4_isPlace_30 : decode cX4_isPlace 30 = .ok (.iconst 0, 1) := by decide +kernel
theorem dX4_isPlace_31 : decode cX4_isPlace 31 = .ok (.ireturn, 1) := by decide +kernel
theorem dX4_rays_0 : decode cX4_rays 0 = .ok (.iload_n 1, 1) := by decide +kernel
theorem dX4_rays_1 : decode cX4_rays 1 = .ok (.iconst 2, 1) := by decide +kernel
theorem dX4_rays_2 : decode cX4_rays 2 = .ok (.iconst 3, 1) := by decide +kernel
theorem dX4_rays_3 : decode cX4_rays 3 = .ok (.invokestatic 47, 3) := by decide +kernel
theorem dX4_rays_6 : decode cX4_rays 6 = .ok (.ifCond .eq 13, 3) := by decide +kernel
theorem dX4_rays_9 : decode cX4_rays 9 = .ok (.iload_n 2, 1) := by decide +kernel
theorem dX4_rays_10 : decode cX4_rays 10 = .ok (.iconst 1, 1) := by decide +kernel
theorem dX4_rays_11 : decode cX4_rays 11 = .ok (.bipush 8, 2) := by decide +kernel
theorem dX4_rays_13 : decode cX4_rays 13 = .ok (.invokestatic 47, 3) := by decide +kernel
theorem dX4_rays_16 : decode cX4_rays 16 = .ok (.ifCond .ne 6, 3) := by decide +kernel
theorem dX4_rays_19 : decode cX4_rays 19 = .ok (.bipush (-2), 2) := by decide +kernel
theorem dX4_rays_21 : decode cX4_rays 21 = .ok (.ireturn, 1) := by decide +kernel
theorem dX4_rays_22 : decode cX4_rays 22 = .ok (.aload_n 0, 1) := by decide +kernel
theorem dX4_rays_23 : decode cX4_rays 23 = .ok (.iload_n 1, 1) := by decide +kernel
theorem dX4_rays_24 : decode cX4_rays 24 = .ok (.putfield 7, 3) := by decide +kernel
theorem dX4_rays_27 : decode cX4_rays 27 = .ok (.aload_n 0, 1) := by decide +kernel
theorem dX4_rays_28 : decode cX4_rays 28 = .ok (.iload_n 2, 1) := by decide +kernel
theorem dX4_rays_29 : decode cX4_rays 29 = .ok (.putfield 13, 3) := by decide +kernel
theorem dX4_rays_32 : decode cX4_rays 32 = .ok (.aload_n 0, 1) := by decide +kernel
theorem dX4_rays_33 : decode cX4_rays 33 = .ok (.invokevirtual 41, 3) := by decide +kernel
theorem dX4_rays_36 : decode cX4_rays 36 = .ok (.iload_n 1, 1) := by decide +kernel
theorem dX4_rays_37 : decode cX4_rays 37 = .ok (.iload_n 2, 1) := by decide +kernel
theorem dX4_rays_38 : decode cX4_rays 38 = .ok (.imul, 1) := by decide +kernel
theorem dX4_rays_39 : decode cX4_rays 39 = .ok (.ireturn, 1) := by decide +kernel
theorem dX4_costs_0 : decode cX4_costs 0 = .ok (.iload_n 1, 1) := by decide +kernel
theorem dX4_costs_1 : decode cX4_costs 1 = .ok (.iconst 1, 1) := by decide +kernel
theorem dX4_costs_2 : decode cX4_costs 2 = .ok (.bipush 9, 2) := by decide +kernel
theorem dX4_costs_4 : decode cX4_costs 4 = .ok (.invokestatic 47, 3) := by decide +kernel
theorem dX4_costs_7 : decode cX4_costs 7 = .ok (.ifCond .eq 13, 3) := by decide +kernel
theorem dX4_costs_10 : decode cX4_costs 10 = .ok (.iload_n 2, 1) := by decide +kernel
theorem dX4_costs_11 : decode cX4_costs 11 = .ok (.iconst 1, 1) := by decide +kernel
theorem dX4_costs_12 : decode cX4_costs 12 = .ok (.bipush 9, 2) := by decide +kernel
theorem dX4_costs_14 : decode cX4_costs 14 = .ok (.invokestatic 47, 3) := by decide +kernel
theorem dX4_costs_17 : decode cX4_costs 17 = .ok (.ifCond .ne 6, 3) := by decide +kernel
theorem dX4_costs_20 : decode cX4_costs 20 = .ok (.bipush (-2), 2) := by decide +kernel
theorem dX4_costs_22 : decode cX4_costs 22 = .ok (.ireturn, 1) := by decide +kernel
theorem dX4_costs_23 : decode cX4_costs 23 = .ok (.aload_n 0, 1) := by decide +kernel
theorem dX4_costs_24 : decode cX4_costs 24 = .ok (.iload_n 1, 1) := by decide +kernel
theorem dX4_costs_25 : decode cX4_costs 25 = .ok (.putfield 16, 3) := by decide +kernel
theorem dX4_costs_28 : decode cX4_costs 28 = .ok (.aload_n 0, 1) := by decide +kernel
theorem dX4_costs_29 : decode cX4_costs 29 = .ok (.iload_n 2, 1) := by decide +kernel
theorem dX4_costs_30 : decode cX4_costs 30 = .ok (.putfield 19, 3) := by decide +kernel
theorem dX4_costs_33 : decode cX4_costs 33 = .ok (.iconst 1, 1) := by decide +kernel
theorem dX4_costs_34 : decode cX4_costs 34 = .ok (.ireturn, 1) := by decide +kernel
theorem dX4_share_0 : decode cX4_share 0 = .ok (.aload_n 0, 1) := by decide +kernel
theorem dX4_share_1 : decode cX4_share 1 = .ok (.iload_n 1, 1) := by decide +kernel
theorem dX4_share_2 : decode cX4_share 2 = .ok (.iload_n 2, 1) := by decide +kernel
theorem dX4_share_3 : decode cX4_share 3 = .ok (.invokevirtual 51, 3) := by decide +kernel
theorem dX4_share_6 : decode cX4_share 6 = .ok (.ifCond .ne 5, 3) := by decide +kernel
theorem dX4_share_9 : decode cX4_share 9 = .ok (.iconst (-1), 1) := by decide +kernel
theorem dX4_share_10 : decode cX4_share 10 = .ok (.ireturn, 1) := by decide +kernel
theorem dX4_share_11 : decode cX4_share 11 = .ok (.iload_n 3, 1) := by decide +kernel
theorem dX4_share_12 : decode cX4_share 12 = .ok (.iconst 0, 1) := by decide +kernel
theorem dX4_share_13 : decode cX4_share 13 = .ok (.bipush 100, 2) := by decide +kernel
theorem dX4_share_15 : decode cX4_share 15 = .ok (.invokestatic 47, 3) := by decide +kernel
theorem dX4_share_18 : decode cX4_share 18 = .ok (.ifCond .ne 6, 3) := by decide +kernel
theorem dX4_share_21 : decode cX4_share 21 = .ok (.bipush (-2), 2) := by decide +kernel
theorem dX4_share_23 : decode cX4_share 23 = .ok (.ireturn, 1) := by decide +kernel
theorem dX4_share_24 : decode cX4_share 24 = .ok (.aload_n 0, 1) := by decide +kernel
theorem dX4_share_25 : decode cX4_share 25 = .ok (.getfield 22, 3) := by decide +kernel
theorem dX4_share_28 : decode cX4_share 28 = .ok (.bipush 9, 2) := by decide +kernel
theorem dX4_share_30 : decode cX4_share 30 = .ok (.iload_n 1, 1) := by decide +kernel
theorem dX4_share_31 : decode cX4_share 31 = .ok (.imul, 1) := by decide +kernel
theorem dX4_share_32 : decode cX4_share 32 = .ok (.iload_n 2, 1) := by decide +kernel
theorem dX4_share_33 : decode cX4_share 33 = .ok (.iadd, 1) := by decide +kernel
theorem dX4_share_34 : decode cX4_share 34 = .ok (.iaload, 1) := by decide +kernel
theorem dX4_share_35 : decode cX4_share 35 = .ok (.istore 4, 2) := by decide +kernel
theorem dX4_share_37 : decode cX4_share 37 = .ok (.aload_n 0, 1) := by decide +kernel
theorem dX4_share_38 : decode cX4_share 38 = .ok (.getfield 22, 3) := by decide +kernel
theorem dX4_share_41 : decode cX4_share 41 = .ok (.bipush 9, 2) := by decide +kernel
theorem dX4_share_43 : decode cX4_share 43 = .ok (.iload_n 1, 1) := by decide +kernel
theorem dX4_share_44 : decode cX4_share 44 = .ok (.imul, 1) := by decide +kernel
theorem dX4_share_45 : decode cX4_share 45 = .ok (.iload_n 2, 1) := by decide +kernel
theorem dX4_share_46 : decode cX4_share 46 = .ok (.iadd, 1) := by decide +kernel
theorem dX4_share_47 : decode cX4_share 47 = .ok (.iload_n 3, 1) := by decide +kernel
theorem dX4_share_48 : decode cX4_share 48 = .ok (.iastore, 1) := by decide +kernel
theorem dX4_share_49 : decode cX4_share 49 = .ok (.iload 4, 2) := by decide +kernel
theorem dX4_share_51 : decode cX4_share 51 = .ok (.ireturn, 1) := by decide +kernel
theorem dX4_shareOf_0 : decode cX4_shareOf 0 = .ok (.aload_n 0, 1) := by decide +kernel
theorem dX4_shareOf_1 : decode cX4_shareOf 1 = .ok (.iload_n 1, 1) := by decide +kernel
theorem dX4_shareOf_2 : decode cX4_shareOf 2 = .ok (.iload_n 2, 1) := by decide +kernel
theorem dX4_shareOf_3 : decode cX4_shareOf 3 = .ok (.invokevirtual 51, 3) := by decide +kernel
theorem dX4_shareOf_6 : decode cX4_shareOf 6 = .ok (.ifCond .eq 17, 3) := by decide +kernel
theorem dX4_shareOf_9 : decode cX4_shareOf 9 = .ok (.aload_n 0, 1) := by decide +kernel
theorem dX4_shareOf_10 : decode cX4_shareOf 10 = .ok (.getfield 22, 3) := by decide +kernel
theorem dX4_shareOf_13 : decode cX4_shareOf 13 = .ok (.bipush 9, 2) := by decide +kernel
theorem dX4_shareOf_15 : decode cX4_shareOf 15 = .ok (.iload_n 1, 1) := by decide +kernel
theorem dX4_shareOf_16 : decode cX4_shareOf 16 = .ok (.imul, 1) := by decide +kernel
theorem dX4_shareOf_17 : decode cX4_shareOf 17 = .ok (.iload_n 2, 1) := by decide +kernel
theorem dX4_shareOf_18 : decode cX4_shareOf 18 = .ok (.iadd, 1) := by decide +kernel
theorem dX4_shareOf_19 : decode cX4_shareOf 19 = .ok (.iaload, 1) := by decide +kernel
theorem dX4_shareOf_20 : decode cX4_shareOf 20 = .ok (.goto 4, 3) := by decide +kernel
theorem dX4_shareOf_23 : decode cX4_shareOf 23 = .ok (.iconst (-1), 1) := by decide +kernel
theorem dX4_shareOf_24 : decode cX4_shareOf 24 = .ok (.ireturn, 1) := by decide +kernel
theorem dX4_trip_0 : decode cX4_trip 0 = .ok (.aload_n 0, 1) := by decide +kernel
theorem dX4_trip_1 : decode cX4_trip 1 = .ok (.iload_n 1, 1) := by decide +kernel
theorem dX4_trip_2 : decode cX4_trip 2 = .ok (.iload_n 2, 1) := by decide +kernel
theorem dX4_trip_3 : decode cX4_trip 3 = .ok (.invokevirtual 51, 3) := by decide +kernel
theorem dX4_trip_6 : decode cX4_trip 6 = .ok (.ifCond .ne 5, 3) := by decide +kernel
theorem dX4_trip_9 : decode cX4_trip 9 = .ok (.iconst (-1), 1) := by decide +kernel
theorem dX4_trip_10 : decode cX4_trip 10 = .ok (.ireturn, 1) := by decide +kernel
theorem dX4_trip_11 : decode cX4_trip 11 = .ok (.aload_n 0, 1) := by decide +kernel
theorem dX4_trip_12 : decode cX4_trip 12 = .ok (.getfield 44, 3) := by decide +kernel
theorem dX4_trip_15 : decode cX4_trip 15 = .ok (.bipush 30, 2) := by decide +kernel
theorem dX4_trip_17 : decode cX4_trip 17 = .ok (.if_icmp .ne 6, 3) := by decide +kernel
theorem dX4_trip_20 : decode cX4_trip 20 = .ok (.bipush (-4), 2) := by decide +kernel
theorem dX4_trip_22 : decode cX4_trip 22 = .ok (.ireturn, 1) := by decide +kernel
theorem dX4_trip_23 : decode cX4_trip 23 = .ok (.aload_n 0, 1) := by decide +kernel
theorem dX4_trip_24 : decode cX4_trip 24 = .ok (.getfield 26, 3) := by decide +kernel
theorem dX4_trip_27 : decode cX4_trip 27 = .ok (.aload_n 0, 1) := by decide +kernel
theorem dX4_trip_28 : decode cX4_trip 28 = .ok (.getfield 44, 3) := by decide +kernel
theorem dX4_trip_31 : decode cX4_trip 31 = .ok (.iload_n 1, 1) := by decide +kernel
theorem dX4_trip_32 : decode cX4_trip 32 = .ok (.iastore, 1) := by decide +kernel
theorem dX4_trip_33 : decode cX4_trip 33 = .ok (.aload_n 0, 1) := by decide +kernel
theorem dX4_trip_34 : decode cX4_trip 34 = .ok (.getfield 29, 3) := by decide +kernel
theorem dX4_trip_37 : decode cX4_trip 37 = .ok (.aload_n 0, 1) := by decide +kernel
theorem dX4_trip_38 : decode cX4_trip 38 = .ok (.getfield 44, 3) := by decide +kernel
theorem dX4_trip_41 : decode cX4_trip 41 = .ok (.iload_n 2, 1) := by decide +kernel
theorem dX4_trip_42 : decode cX4_trip 42 = .ok (.iastore, 1) := by decide +kernel
theorem dX4_trip_43 : decode cX4_trip 43 = .ok (.aload_n 0, 1) := by decide +kernel
theorem dX4_trip_44 : decode cX4_trip 44 = .ok (.dup, 1) := by decide +kernel
theorem dX4_trip_45 : decode cX4_trip 45 = .ok (.getfield 44, 3) := by decide +kernel
theorem dX4_trip_48 : decode cX4_trip 48 = .ok (.iconst 1, 1) := by decide +kernel
theorem dX4_trip_49 : decode cX4_trip 49 = .ok (.iadd, 1) := by decide +kernel
theorem dX4_trip_50 : decode cX4_trip 50 = .ok (.putfield 44, 3) := by decide +kernel
theorem dX4_trip_53 : decode cX4_trip 53 = .ok (.aload_n 0, 1) := by decide +kernel
theorem dX4_trip_54 : decode cX4_trip 54 = .ok (.getfield 44, 3) := by decide +kernel
theorem dX4_trip_57 : decode cX4_trip 57 = .ok (.iconst 1, 1) := by decide +kernel
theorem dX4_trip_58 : decode cX4_trip 58 = .ok (.isub, 1) := by decide +kernel
theorem dX4_trip_59 : decode cX4_trip 59 = .ok (.ireturn, 1) := by decide +kernel
theorem dX4_costAhead_0 : decode cX4_costAhead 0 = .ok (.iconst 0, 1) := by decide +kernel
theorem dX4_costAhead_1 : decode cX4_costAhead 1 = .ok (.istore_n 2, 1) := by decide +kernel
theorem dX4_costAhead_2 : decode cX4_costAhead 2 = .ok (.iconst 0, 1) := by decide +kernel
theorem dX4_costAhead_3 : decode cX4_costAhead 3 = .ok (.istore_n 3, 1) := by decide +kernel
theorem dX4_costAhead_4 : decode cX4_costAhead 4 = .ok (.iload_n 3, 1) := by decide +kernel
theorem dX4_costAhead_5 : decode cX4_costAhead 5 = .ok (.iload_n 1, 1) := by decide +kernel
theorem dX4_costAhead_6 : decode cX4_costAhead 6 = .ok (.if_icmp .ge 28, 3) := by decide +kernel
theorem dX4_costAhead_9 : decode cX4_costAhead 9 = .ok (.iload_n 2, 1) := by decide +kernel
theorem dX4_costAhead_10 : decode cX4_costAhead 10 = .ok (.aload_n 0, 1) := by decide +kernel
theorem dX4_costAhead_11 : decode cX4_costAhead 11 = .ok (.getfield 29, 3) := by decide +kernel
theorem dX4_costAhead_14 : decode cX4_costAhead 14 = .ok (.iload_n 3, 1) := by decide +kernel
theorem dX4_costAhead_15 : decode cX4_costAhead 15 = .ok (.iaload, 1) := by decide +kernel
theorem dX4_costAhead_16 : decode cX4_costAhead 16 = .ok (.aload_n 0, 1) := by decide +kernel
theorem dX4_costAhead_17 : decode cX4_costAhead 17 = .ok (.getfield 16, 3) := by decide +kernel
theorem dX4_costAhead_20 : decode cX4_costAhead 20 = .ok (.aload_n 0, 1) := by decide +kernel
theorem dX4_costAhead_21 : decode cX4_costAhead 21 = .ok (.getfield 19, 3) := by decide +kernel
theorem dX4_costAhead_24 : decode cX4_costAhead 24 = .ok (.iadd, 1) := by decide +kernel
theorem dX4_costAhead_25 : decode cX4_costAhead 25 = .ok (.imul, 1) := by decide +kernel
theorem dX4_costAhead_26 : decode cX4_costAhead 26 = .ok (.iadd, 1) := by decide +kernel
theorem dX4_costAhead_27 : decode cX4_costAhead 27 = .ok (.istore_n 2, 1) := by decide +kernel
theorem dX4_costAhead_28 : decode cX4_costAhead 28 = .ok (.iinc 3 1, 3) := by decide +kernel
theorem dX4_costAhead_31 : decode cX4_costAhead 31 = .ok (.goto (-27), 3) := by decide +kernel
theorem dX4_costAhead_34 : decode cX4_costAhead 34 = .ok (.iload_n 2, 1) := by decide +kernel
theorem dX4_costAhead_35 : decode cX4_costAhead 35 = .ok (.ireturn, 1) := by decide +kernel
theorem dX4_tripOf_0 : decode cX4_tripOf 0 = .ok (.iload_n 1, 1) := by decide +kernel
theorem dX4_tripOf_1 : decode cX4_tripOf 1 = .ok (.iconst 0, 1) := by decide +kernel
theorem dX4_tripOf_2 : decode cX4_tripOf 2 = .ok (.aload_n 0, 1) := by decide +kernel
theorem dX4_tripOf_3 : decode cX4_tripOf 3 = .ok (.getfield 44, 3) := by decide +kernel
theorem dX4_tripOf_6 : decode cX4_tripOf 6 = .ok (.iconst 1, 1) := by decide +kernel
theorem dX4_tripOf_7 : decode cX4_tripOf 7 = .ok (.isub, 1) := by decide +kernel
theorem dX4_tripOf_8 : decode cX4_tripOf 8 = .ok (.invokestatic 47, 3) := by decide +kernel
theorem dX4_tripOf_11 : decode cX4_tripOf 11 = .ok (.ifCond .ne 5, 3) := by decide +kernel
theorem dX4_tripOf_14 : decode cX4_tripOf 14 = .ok (.iconst (-1), 1) := by decide +kernel
theorem dX4_tripOf_15 : decode cX4_tripOf 15 = .ok (.ireturn, 1) := by decide +kernel
theorem dX4_tripOf_16 : decode cX4_tripOf 16 = .ok (.iload_n 2, 1) := by decide +kernel
theorem dX4_tripOf_17 : decode cX4_tripOf 17 = .ok (.ifCond .ne 12, 3) := by decide +kernel
theorem dX4_tripOf_20 : decode cX4_tripOf 20 = .ok (.aload_n 0, 1) := by decide +kernel
theorem dX4_tripOf_21 : decode cX4_tripOf 21 = .ok (.getfield 26, 3) := by decide +kernel
theorem dX4_tripOf_24 : decode cX4_tripOf 24 = .ok (.iload_n 1, 1) := by decide +kernel
theorem dX4_tripOf_25 : decode cX4_tripOf 25 = .ok (.iaload, 1) := by decide +kernel
theorem dX4_tripOf_26 : decode cX4_tripOf 26 = .ok (.goto 32, 3) := by decide +kernel
theorem dX4_tripOf_29 : decode cX4_tripOf 29 = .ok (.iload_n 2, 1) := by decide +kernel
theorem dX4_tripOf_30 : decode cX4_tripOf 30 = .ok (.iconst 1, 1) := by decide +kernel
theorem dX4_tripOf_31 : decode cX4_tripOf 31 = .ok (.if_icmp .ne 12, 3) := by decide +kernel
theorem dX4_tripOf_34 : decode cX4_tripOf 34 = .ok (.aload_n 0, 1) := by decide +kernel
theorem dX4_tripOf_35 : decode cX4_tripOf 35 = .ok (.getfield 29, 3) := by decide +kernel
theorem dX4_tripOf_38 : decode cX4_tripOf 38 = .ok (.iload_n 1, 1) := by decide +kernel
theorem dX4_tripOf_39 : decode cX4_tripOf 39 = .ok (.iaload, 1) := by decide +kernel
theorem dX4_tripOf_40 : decode cX4_tripOf 40 = .ok (.goto 18, 3) := by decide +kernel
theorem dX4_tripOf_43 : decode cX4_tripOf 43 = .ok (.iload_n 2, 1) := by decide +kernel
theorem dX4_tripOf_44 : decode cX4_tripOf 44 = .ok (.iconst 2, 1) := by decide +kernel
theorem dX4_tripOf_45 : decode cX4_tripOf 45 = .ok (.if_icmp .ne 11, 3) := by decide +kernel
theorem dX4_tripOf_48 : decode cX4_tripOf 48 = .ok (.aload_n 0, 1) := by decide +kernel
theorem dX4_tripOf_49 : decode cX4_tripOf 49 = .ok (.iload_n 1, 1) := by decide +kernel
theorem dX4_tripOf_50 : decode cX4_tripOf 50 = .ok (.invokevirtual 55, 3) := by decide +kernel
theorem dX4_tripOf_53 : decode cX4_tripOf 53 = .ok (.goto 5, 3) := by decide +kernel
theorem dX4_tripOf_56 : decode cX4_tripOf 56 = .ok (.bipush (-2), 2) := by decide +kernel
theorem dX4_tripOf_58 : decode cX4_tripOf 58 = .ok (.ireturn, 1) := by decide +kernel
theorem dX4_drop_0 : decode cX4_drop 0 = .ok (.aload_n 0, 1) := by decide +kernel
theorem dX4_drop_1 : decode cX4_drop 1 = .ok (.getfield 44, 3) := by decide +kernel
theorem dX4_drop_4 : decode cX4_drop 4 = .ok (.ifCond .ne 5, 3) := by decide +kernel
theorem dX4_drop_7 : decode cX4_drop 7 = .ok (.iconst (-1), 1) := by decide +kernel
theorem dX4_drop_8 : decode cX4_drop 8 = .ok (.ireturn, 1) := by decide +kernel
theorem dX4_drop_9 : decode cX4_drop 9 = .ok (.aload_n 0, 1) := by decide +kernel
theorem dX4_drop_10 : decode cX4_drop 10 = .ok (.dup, 1) := by decide +kernel
theorem dX4_drop_11 : decode cX4_drop 11 = .ok (.getfield 44, 3) := by decide +kernel
theorem dX4_drop_14 : decode cX4_drop 14 = .ok (.iconst 1, 1) := by decide +kernel
theorem dX4_drop_15 : decode cX4_drop 15 = .ok (.isub, 1) := by decide +kernel
theorem dX4_drop_16 : decode cX4_drop 16 = .ok (.putfield 44, 3) := by decide +kernel
theorem dX4_drop_19 : decode cX4_drop 19 = .ok (.aload_n 0, 1) := by decide +kernel
theorem dX4_drop_20 : decode cX4_drop 20 = .ok (.getfield 44, 3) := by decide +kernel
theorem dX4_drop_23 : decode cX4_drop 23 = .ok (.ireturn, 1) := by decide +kernel
theorem dX4_clear_0 : decode cX4_clear 0 = .ok (.aload_n 0, 1) := by decide +kernel
theorem dX4_clear_1 : decode cX4_clear 1 = .ok (.getfield 44, 3) := by decide +kernel
theorem dX4_clear_4 : decode cX4_clear 4 = .ok (.istore_n 1, 1) := by decide +kernel
theorem dX4_clear_5 : decode cX4_clear 5 = .ok (.aload_n 0, 1) := by decide +kernel
theorem dX4_clear_6 : decode cX4_clear 6 = .ok (.iconst 0, 1) := by decide +kernel
theorem dX4_clear_7 : decode cX4_clear 7 = .ok (.putfield 44, 3) := by decide +kernel
theorem dX4_clear_10 : decode cX4_clear 10 = .ok (.iload_n 1, 1) := by decide +kernel
theorem dX4_clear_11 : decode cX4_clear 11 = .ok (.ireturn, 1) := by decide +kernel
theorem dX4_comes_0 : decode cX4_comes 0 = .ok (.iconst 0, 1) := by decide +kernel
theorem dX4_comes_1 : decode cX4_comes 1 = .ok (.istore_n 3, 1) := by decide +kernel
theorem dX4_comes_2 : decode cX4_comes 2 = .ok (.iload_n 3, 1) := by decide +kernel
theorem dX4_comes_3 : decode cX4_comes 3 = .ok (.aload_n 0, 1) := by decide +kernel
theorem dX4_comes_4 : decode cX4_comes 4 = .ok (.getfield 44, 3) := by decide +kernel
theorem dX4_comes_7 : decode cX4_comes 7 = .ok (.if_icmp .ge 31, 3) := by decide +kernel
theorem dX4_comes_10 : decode cX4_comes 10 = .ok (.aload_n 0, 1) := by decide +kernel
theorem dX4_comes_11 : decode cX4_comes 11 = .ok (.getfield 26, 3) := by decide +kernel
theorem dX4_comes_14 : decode cX4_comes 14 = .ok (.iload_n 3, 1) := by decide +kernel
theorem dX4_comes_15 : decode cX4_comes 15 = .ok (.iaload, 1) := by decide +kernel
theorem dX4_comes_16 : decode cX4_comes 16 = .ok (.iload_n 1, 1) := by decide +kernel
theorem dX4_comes_17 : decode cX4_comes 17 = .ok (.if_icmp .ne 15, 3) := by decide +kernel
theorem dX4_comes_20 : decode cX4_comes 20 = .ok (.aload_n 0, 1) := by decide +kernel
theorem dX4_comes_21 : decode cX4_comes 21 = .ok (.getfield 29, 3) := by decide +kernel
theorem dX4_comes_24 : decode cX4_comes 24 = .ok (.iload_n 3, 1) := by decide +kernel
theorem dX4_comes_25 : decode cX4_comes 25 = .ok (.iaload, 1) := by decide +kernel
theorem dX4_comes_26 : decode cX4_comes 26 = .ok (.iload_n 2, 1) := by decide +kernel
theorem dX4_comes_27 : decode cX4_comes 27 = .ok (.if_icmp .lt 5, 3) := by decide +kernel
theorem dX4_comes_30 : decode cX4_comes 30 = .ok (.iload_n 3, 1) := by decide +kernel
theorem dX4_comes_31 : decode cX4_comes 31 = .ok (.ireturn, 1) := by decide +kernel
theorem dX4_comes_32 : decode cX4_comes 32 = .ok (.iinc 3 1, 3) := by decide +kernel
theorem dX4_comes_35 : decode cX4_comes 35 = .ok (.goto (-33), 3) := by decide +kernel
theorem dX4_comes_38 : decode cX4_comes 38 = .ok (.bipush (-6), 2) := by decide +kernel
theorem dX4_comes_40 : decode cX4_comes 40 = .ok (.ireturn, 1) := by decide +kernel
theorem dX4_wayOf_0 : decode cX4_wayOf 0 = .ok (.aload_n 0, 1) := by decide +kernel
theorem dX4_wayOf_1 : decode cX4_wayOf 1 = .ok (.iload_n 1, 1) := by decide +kernel
theorem dX4_wayOf_2 : decode cX4_wayOf 2 = .ok (.iload_n 2, 1) := by decide +kernel
theorem dX4_wayOf_3 : decode cX4_wayOf 3 = .ok (.invokevirtual 59, 3) := by decide +kernel
theorem dX4_wayOf_6 : decode cX4_wayOf 6 = .ok (.istore_n 3, 1) := by decide +kernel
theorem dX4_wayOf_7 : decode cX4_wayOf 7 = .ok (.iload_n 3, 1) := by decide +kernel
theorem dX4_wayOf_8 : decode cX4_wayOf 8 = .ok (.ifCond .ge 8, 3) := by decide +kernel
theorem dX4_wayOf_11 : decode cX4_wayOf 11 = .ok (.bipush (-6), 2) := by decide +kernel
theorem dX4_wayOf_13 : decode cX4_wayOf 13 = .ok (.goto 15, 3) := by decide +kernel
theorem dX4_wayOf_16 : decode cX4_wayOf 16 = .ok (.aload_n 0, 1) := by decide +kernel
theorem dX4_wayOf_17 : decode cX4_wayOf 17 = .ok (.iload_n 3, 1) := by decide +kernel
theorem dX4_wayOf_18 : decode cX4_wayOf 18 = .ok (.invokevirtual 55, 3) := by decide +kernel
theorem dX4_wayOf_21 : decode cX4_wayOf 21 = .ok (.aload_n 0, 1) := by decide +kernel
theorem dX4_wayOf_22 : decode cX4_wayOf 22 = .ok (.getfield 16, 3) := by decide +kernel
theorem dX4_wayOf_25 : decode cX4_wayOf 25 = .ok (.iload_n 2, 1) := by decide +kernel
theorem dX4_wayOf_26 : decode cX4_wayOf 26 = .ok (.imul, 1) := by decide +kernel
theorem dX4_wayOf_27 : decode cX4_wayOf 27 = .ok (.iadd, 1) := by decide +kernel
theorem dX4_wayOf_28 : decode cX4_wayOf 28 = .ok (.ireturn, 1) := by decide +kernel
theorem dX4_way_0 : decode cX4_way 0 = .ok (.aload_n 0, 1) := by decide +kernel
theorem dX4_way_1 : decode cX4_way 1 = .ok (.iload_n 1, 1) := by decide +kernel
theorem dX4_way_2 : decode cX4_way 2 = .ok (.iload_n 2, 1) := by decide +kernel
theorem dX4_way_3 : decode cX4_way 3 = .ok (.invokevirtual 51, 3) := by decide +kernel
theorem dX4_way_6 : decode cX4_way 6 = .ok (.ifCond .eq 12, 3) := by decide +kernel
theorem dX4_way_9 : decode cX4_way 9 = .ok (.aload_n 0, 1) := by decide +kernel
theorem dX4_way_10 : decode cX4_way 10 = .ok (.iload_n 1, 1) := by decide +kernel
theorem dX4_way_11 : decode cX4_way 11 = .ok (.iload_n 2, 1) := by decide +kernel
theorem dX4_way_12 : decode cX4_way 12 = .ok (.invokevirtual 63, 3) := by decide +kernel
theorem dX4_way_15 : decode cX4_way 15 = .ok (.goto 4, 3) := by decide +kernel
theorem dX4_way_18 : decode cX4_way 18 = .ok (.iconst (-1), 1) := by decide +kernel
theorem dX4_way_19 : decode cX4_way 19 = .ok (.ireturn, 1) := by decide +kernel
theorem dX4_common_0 : decode cX4_common 0 = .ok (.iload_n 0, 1) := by decide +kernel
theorem dX4_common_1 : decode cX4_common 1 = .ok (.istore_n 2, 1) := by decide +kernel
theorem dX4_common_2 : decode cX4_common 2 = .ok (.iload_n 1, 1) := by decide +kernel
theorem dX4_common_3 : decode cX4_common 3 = .ok (.istore_n 3, 1) := by decide +kernel
theorem dX4_common_4 : decode cX4_common 4 = .ok (.iload_n 3, 1) := by decide +kernel
theorem dX4_common_5 : decode cX4_common 5 = .ok (.ifCond .eq 16, 3) := by decide +kernel
theorem dX4_common_8 : decode cX4_common 8 = .ok (.iload_n 2, 1) := by decide +kernel
theorem dX4_common_9 : decode cX4_common 9 = .ok (.iload_n 3, 1) := by decide +kernel
theorem dX4_common_10 : decode cX4_common 10 = .ok (.irem, 1) := by decide +kernel
theorem dX4_common_11 : decode cX4_common 11 = .ok (.istore 4, 2) := by decide +kernel
theorem dX4_common_13 : decode cX4_common 13 = .ok (.iload_n 3, 1) := by decide +kernel
theorem dX4_common_14 : decode cX4_common 14 = .ok (.istore_n 2, 1) := by decide +kernel
theorem dX4_common_15 : decode cX4_common 15 = .ok (.iload 4, 2) := by decide +kernel
theorem dX4_common_17 : decode cX4_common 17 = .ok (.istore_n 3, 1) := by decide +kernel
theorem dX4_common_18 : decode cX4_common 18 = .ok (.goto (-14), 3) := by decide +kernel
theorem dX4_common_21 : decode cX4_common 21 = .ok (.iload_n 2, 1) := by decide +kernel
theorem dX4_common_22 : decode cX4_common 22 = .ok (.ireturn, 1) := by decide +kernel
theorem dX4_term_0 : decode cX4_term 0 = .ok (.iload_n 2, 1) := by decide +kernel
theorem dX4_term_1 : decode cX4_term 1 = .ok (.ifCond .ne 7, 3) := by decide +kernel
theorem dX4_term_4 : decode cX4_term 4 = .ok (.iload_n 0, 1) := by decide +kernel
theorem dX4_term_5 : decode cX4_term 5 = .ok (.goto 4, 3) := by decide +kernel
theorem dX4_term_8 : decode cX4_term 8 = .ok (.iload_n 1, 1) := by decide +kernel
theorem dX4_term_9 : decode cX4_term 9 = .ok (.iload_n 0, 1) := by decide +kernel
theorem dX4_term_10 : decode cX4_term 10 = .ok (.iload_n 1, 1) := by decide +kernel
theorem dX4_term_11 : decode cX4_term 11 = .ok (.invokestatic 66, 3) := by decide +kernel
theorem dX4_term_14 : decode cX4_term 14 = .ok (.idiv, 1) := by decide +kernel
theorem dX4_term_15 : decode cX4_term 15 = .ok (.ireturn, 1) := by decide +kernel
theorem dX4_late_0 : decode cX4_late 0 = .ok (.aload_n 0, 1) := by decide +kernel
theorem dX4_late_1 : decode cX4_late 1 = .ok (.iload_n 1, 1) := by decide +kernel
theorem dX4_late_2 : decode cX4_late 2 = .ok (.iload_n 2, 1) := by decide +kernel
theorem dX4_late_3 : decode cX4_late 3 = .ok (.invokevirtual 51, 3) := by decide +kernel
theorem dX4_late_6 : decode cX4_late 6 = .ok (.ifCond .ne 5, 3) := by decide +kernel
theorem dX4_late_9 : decode cX4_late 9 = .ok (.iconst (-1), 1) := by decide +kernel
theorem dX4_late_10 : decode cX4_late 10 = .ok (.ireturn, 1) := by decide +kernel
theorem dX4_late_11 : decode cX4_late 11 = .ok (.iload_n 3, 1) := by decide +kernel
theorem dX4_late_12 : decode cX4_late 12 = .ok (.iconst 0, 1) := by decide +kernel
theorem dX4_late_13 : decode cX4_late 13 = .ok (.iconst 1, 1) := by decide +kernel
theorem dX4_late_14 : decode cX4_late 14 = .ok (.invokestatic 47, 3) := by decide +kernel
theorem dX4_late_17 : decode cX4_late 17 = .ok (.ifCond .ne 6, 3) := by decide +kernel
theorem dX4_late_20 : decode cX4_late 20 = .ok (.bipush (-2), 2) := by decide +kernel
theorem dX4_late_22 : decode cX4_late 22 = .ok (.ireturn, 1) := by decide +kernel
theorem dX4_late_23 : decode cX4_late 23 = .ok (.aload_n 0, 1) := by decide +kernel
theorem dX4_late_24 : decode cX4_late 24 = .ok (.iload_n 1, 1) := by decide +kernel
theorem dX4_late_25 : decode cX4_late 25 = .ok (.iload_n 2, 1) := by decide +kernel
theorem dX4_late_26 : decode cX4_late 26 = .ok (.invokevirtual 63, 3) := by decide +kernel
theorem dX4_late_29 : decode cX4_late 29 = .ok (.istore 4, 2) := by decide +kernel
theorem dX4_late_31 : decode cX4_late 31 = .ok (.iload 4, 2) := by decide +kernel
theorem dX4_late_33 : decode cX4_late 33 = .ok (.ifCond .ge 8, 3) := by decide +kernel
theorem dX4_late_36 : decode cX4_late 36 = .ok (.bipush (-6), 2) := by decide +kernel
theorem dX4_late_38 : decode cX4_late 38 = .ok (.goto 15, 3) := by decide +kernel
theorem dX4_late_41 : decode cX4_late 41 = .ok (.iload 4, 2) := by decide +kernel
theorem dX4_late_43 : decode cX4_late 43 = .ok (.aload_n 0, 1) := by decide +kernel
theorem dX4_late_44 : decode cX4_late 44 = .ok (.getfield 16, 3) := by decide +kernel
theorem dX4_late_47 : decode cX4_late 47 = .ok (.iload_n 2, 1) := by decide +kernel
theorem dX4_late_48 : decode cX4_late 48 = .ok (.imul, 1) := by decide +kernel
theorem dX4_late_49 : decode cX4_late 49 = .ok (.iload_n 3, 1) := by decide +kernel
theorem dX4_late_50 : decode cX4_late 50 = .ok (.invokestatic 69, 3) := by decide +kernel
theorem dX4_late_53 : decode cX4_late 53 = .ok (.ireturn, 1) := by decide +kernel
theorem dX4_missedAt_0 : decode cX4_missedAt 0 = .ok (.iconst 0, 1) := by decide +kernel
theorem dX4_missedAt_1 : decode cX4_missedAt 1 = .ok (.istore_n 2, 1) := by decide +kernel
theorem dX4_missedAt_2 : decode cX4_missedAt 2 = .ok (.iconst 0, 1) := by decide +kernel
theorem dX4_missedAt_3 : decode cX4_missedAt 3 = .ok (.istore_n 3, 1) := by decide +kernel
theorem dX4_missedAt_4 : decode cX4_missedAt 4 = .ok (.iload_n 3, 1) := by decide +kernel
theorem dX4_missedAt_5 : decode cX4_missedAt 5 = .ok (.aload_n 0, 1) := by decide +kernel
theorem dX4_missedAt_6 : decode cX4_missedAt 6 = .ok (.getfield 7, 3) := by decide +kernel
theorem dX4_missedAt_9 : decode cX4_missedAt 9 = .ok (.if_icmp .ge 53, 3) := by decide +kernel
theorem dX4_missedAt_12 : decode cX4_missedAt 12 = .ok (.iconst 1, 1) := by decide +kernel
theorem dX4_missedAt_13 : decode cX4_missedAt 13 = .ok (.istore 4, 2) := by decide +kernel
theorem dX4_missedAt_15 : decode cX4_missedAt 15 = .ok (.iload 4, 2) := by decide +kernel
theorem dX4_missedAt_17 : decode cX4_missedAt 17 = .ok (.aload_n 0, 1) := by decide +kernel
theorem dX4_missedAt_18 : decode cX4_missedAt 18 = .ok (.getfield 13, 3) := by decide +kernel
theorem dX4_missedAt_21 : decode cX4_missedAt 21 = .ok (.if_icmp .gt 35, 3) := by decide +kernel
theorem dX4_missedAt_24 : decode cX4_missedAt 24 = .ok (.aload_n 0, 1) := by decide +kernel
theorem dX4_missedAt_25 : decode cX4_missedAt 25 = .ok (.iload_n 3, 1) := by decide +kernel
theorem dX4_missedAt_26 : decode cX4_missedAt 26 = .ok (.iload 4, 2) := by decide +kernel
theorem dX4_missedAt_28 : decode cX4_missedAt 28 = .ok (.invokevirtual 59, 3) := by decide +kernel
theorem dX4_missedAt_31 : decode cX4_missedAt 31 = .ok (.ifCond .ge 19, 3) := by decide +kernel
theorem dX4_missedAt_34 : decode cX4_missedAt 34 = .ok (.iload_n 2, 1) := by decide +kernel
theorem dX4_missedAt_35 : decode cX4_missedAt 35 = .ok (.iload_n 1, 1) := by decide +kernel
theorem dX4_missedAt_36 : decode cX4_missedAt 36 = .ok (.if_icmp .ne 11, 3) := by decide +kernel
theorem dX4_missedAt_39 : decode cX4_missedAt 39 = .ok (.bipush 10, 2) := by decide +kernel
theorem dX4_missedAt_41 : decode cX4_missedAt 41 = .ok (.iload_n 3, 1) := by decide +kernel
theorem dX4_missedAt_42 : decode cX4_missedAt 42 = .ok (.imul, 1) := by decide +kernel
theorem dX4_missedAt_43 : decode cX4_missedAt 43 = .ok (.iload 4, 2) := by decide +kernel
theorem dX4_missedAt_45 : decode cX4_missedAt 45 = .ok (.iadd, 1) := by decide +kernel
theorem dX4_missedAt_46 : decode cX4_missedAt 46 = .ok (.ireturn, 1) := by decide +kernel
theorem dX4_missedAt_47 : decode cX4_missedAt 47 = .ok (.iinc 2 1, 3) := by decide +kernel
theorem dX4_missedAt_50 : decode cX4_missedAt 50 = .ok (.iinc 4 1, 3) := by decide +kernel
theorem dX4_missedAt_53 : decode cX4_missedAt 53 = .ok (.goto (-38), 3) := by decide +kernel
theorem dX4_missedAt_56 : decode cX4_missedAt 56 = .ok (.iinc 3 1, 3) := by decide +kernel
theorem dX4_missedAt_59 : decode cX4_missedAt 59 = .ok (.goto (-55), 3) := by decide +kernel
theorem dX4_missedAt_62 : decode cX4_missedAt 62 = .ok (.iload_n 1, 1) := by decide +kernel
theorem dX4_missedAt_63 : decode cX4_missedAt 63 = .ok (.iconst (-1), 1) := by decide +kernel
theorem dX4_missedAt_64 : decode cX4_missedAt 64 = .ok (.if_icmp .ne 7, 3) := by decide +kernel
theorem dX4_missedAt_67 : decode cX4_missedAt 67 = .ok (.iload_n 2, 1) := by decide +kernel
theorem dX4_missedAt_68 : decode cX4_missedAt 68 = .ok (.goto 5, 3) := by decide +kernel
theorem dX4_missedAt_71 : decode cX4_missedAt 71 = .ok (.bipush (-6), 2) := by decide +kernel
theorem dX4_missedAt_73 : decode cX4_missedAt 73 = .ok (.ireturn, 1) := by decide +kernel
theorem dX4_worst_0 : decode cX4_worst 0 = .ok (.iload_n 1, 1) := by decide +kernel
theorem dX4_worst_1 : decode cX4_worst 1 = .ok (.iconst 0, 1) := by decide +kernel
theorem dX4_worst_2 : decode cX4_worst 2 = .ok (.iconst 3, 1) := by decide +kernel
theorem dX4_worst_3 : decode cX4_worst 3 = .ok (.invokestatic 47, 3) := by decide +kernel
theorem dX4_worst_6 : decode cX4_worst 6 = .ok (.ifCond .ne 6, 3) := by decide +kernel
theorem dX4_worst_9 : decode cX4_worst 9 = .ok (.bipush (-2), 2) := by decide +kernel
theorem dX4_worst_11 : decode cX4_worst 11 = .ok (.ireturn, 1) := by decide +kernel
theorem dX4_worst_12 : decode cX4_worst 12 = .ok (.aload_n 0, 1) := by decide +kernel
theorem dX4_worst_13 : decode cX4_worst 13 = .ok (.iconst (-1), 1) := by decide +kernel
theorem dX4_worst_14 : decode cX4_worst 14 = .ok (.invokevirtual 73, 3) := by decide +kernel
theorem dX4_worst_17 : decode cX4_worst 17 = .ok (.ifCond .le 6, 3) := by decide +kernel
theorem dX4_worst_20 : decode cX4_worst 20 = .ok (.bipush (-3), 2) := by decide +kernel
theorem dX4_worst_22 : decode cX4_worst 22 = .ok (.ireturn, 1) := by decide +kernel
theorem dX4_worst_23 : decode cX4_worst 23 = .ok (.iconst 0, 1) := by decide +kernel
theorem dX4_worst_24 : decode cX4_worst 24 = .ok (.istore_n 2, 1) := by decide +kernel
theorem dX4_worst_25 : decode cX4_worst 25 = .ok (.iconst 1, 1) := by decide +kernel
theorem dX4_worst_26 : decode cX4_worst 26 = .ok (.istore_n 3, 1) := by decide +kernel
theorem dX4_worst_27 : decode cX4_worst 27 = .ok (.iconst 0, 1) := by decide +kernel
theorem dX4_worst_28 : decode cX4_worst 28 = .ok (.istore 4, 2) := by decide +kernel
theorem dX4_worst_30 : decode cX4_worst 30 = .ok (.iload 4, 2) := by decide +kernel
theorem dX4_worst_32 : decode cX4_worst 32 = .ok (.aload_n 0, 1) := by decide +kernel
theorem dX4_worst_33 : decode cX4_worst 33 = .ok (.getfield 7, 3) := by decide +kernel
theorem dX4_worst_36 : decode cX4_worst 36 = .ok (.if_icmp .ge 55, 3) := by decide +kernel
theorem dX4_worst_39 : decode cX4_worst 39 = .ok (.iconst 1, 1) := by decide +kernel
theorem dX4_worst_40 : decode cX4_worst 40 = .ok (.istore 5, 2) := by decide +kernel
theorem dX4_worst_42 : decode cX4_worst 42 = .ok (.iload 5, 2) := by decide +kernel
theorem dX4_worst_44 : decode cX4_worst 44 = .ok (.aload_n 0, 1) := by decide +kernel
theorem dX4_worst_45 : decode cX4_worst 45 = .ok (.getfield 13, 3) := by decide +kernel
theorem dX4_worst_48 : decode cX4_worst 48 = .ok (.if_icmp .gt 37, 3) := by decide +kernel
theorem dX4_worst_51 : decode cX4_worst 51 = .ok (.aload_n 0, 1) := by decide +kernel
theorem dX4_worst_52 : decode cX4_worst 52 = .ok (.iload 4, 2) := by decide +kernel
theorem dX4_worst_54 : decode cX4_worst 54 = .ok (.iload 5, 2) := by decide +kernel
theorem dX4_worst_56 : decode cX4_worst 56 = .ok (.invokevirtual 63, 3) := by decide +kernel
theorem dX4_worst_59 : decode cX4_worst 59 = .ok (.iload_n 3, 1) := by decide +kernel
theorem dX4_worst_60 : decode cX4_worst 60 = .ok (.imul, 1) := by decide +kernel
theorem dX4_worst_61 : decode cX4_worst 61 = .ok (.aload_n 0, 1) := by decide +kernel
theorem dX4_worst_62 : decode cX4_worst 62 = .ok (.iload_n 2, 1) := by decide +kernel
theorem dX4_worst_63 : decode cX4_worst 63 = .ok (.iload_n 3, 1) := by decide +kernel
theorem dX4_worst_64 : decode cX4_worst 64 = .ok (.invokevirtual 63, 3) := by decide +kernel
theorem dX4_worst_67 : decode cX4_worst 67 = .ok (.iload 5, 2) := by decide +kernel
theorem dX4_worst_69 : decode cX4_worst 69 = .ok (.imul, 1) := by decide +kernel
theorem dX4_worst_70 : decode cX4_worst 70 = .ok (.if_icmp .le 9, 3) := by decide +kernel
theorem dX4_worst_73 : decode cX4_worst 73 = .ok (.iload 4, 2) := by decide +kernel
theorem dX4_worst_75 : decode cX4_worst 75 = .ok (.istore_n 2, 1) := by decide +kernel
theorem dX4_worst_76 : decode cX4_worst 76 = .ok (.iload 5, 2) := by decide +kernel
theorem dX4_worst_78 : decode cX4_worst 78 = .ok (.istore_n 3, 1) := by decide +kernel
theorem dX4_worst_79 : decode cX4_worst 79 = .ok (.iinc 5 1, 3) := by decide +kernel
theorem dX4_worst_82 : decode cX4_worst 82 = .ok (.goto (-40), 3) := by decide +kernel
theorem dX4_worst_85 : decode cX4_worst 85 = .ok (.iinc 4 1, 3) := by decide +kernel
theorem dX4_worst_88 : decode cX4_worst 88 = .ok (.goto (-58), 3) := by decide +kernel
theorem dX4_worst_91 : decode cX4_worst 91 = .ok (.iload_n 1, 1) := by decide +kernel
theorem dX4_worst_92 : decode cX4_worst 92 = .ok (.iconst 2, 1) := by decide +kernel
theorem dX4_worst_93 : decode cX4_worst 93 = .ok (.if_icmp .ne 7, 3) := by decide +kernel
theorem dX4_worst_96 : decode cX4_worst 96 = .ok (.iload_n 2, 1) := by decide +kernel
theorem dX4_worst_97 : decode cX4_worst 97 = .ok (.goto 28, 3) := by decide +kernel
theorem dX4_worst_100 : decode cX4_worst 100 = .ok (.iload_n 1, 1) := by decide +kernel
theorem dX4_worst_101 : decode cX4_worst 101 = .ok (.iconst 3, 1) := by decide +kernel
theorem dX4_worst_102 : decode cX4_worst 102 = .ok (.if_icmp .ne 7, 3) := by decide +kernel
theorem dX4_worst_105 : decode cX4_worst 105 = .ok (.iload_n 3, 1) := by decide +kernel
theorem dX4_worst_106 : decode cX4_worst 106 = .ok (.goto 19, 3) := by decide +kernel
theorem dX4_worst_109 : decode cX4_worst 109 = .ok (.aload_n 0, 1) := by decide +kernel
theorem dX4_worst_110 : decode cX4_worst 110 = .ok (.iload_n 2, 1) := by decide +kernel
theorem dX4_worst_111 : decode cX4_worst 111 = .ok (.iload_n 3, 1) := by decide +kernel
theorem dX4_worst_112 : decode cX4_worst 112 = .ok (.invokevirtual 63, 3) := by decide +kernel
theorem dX4_worst_115 : decode cX4_worst 115 = .ok (.aload_n 0, 1) := by decide +kernel
theorem dX4_worst_116 : decode cX4_worst 116 = .ok (.getfield 16, 3) := by decide +kernel
theorem dX4_worst_119 : decode cX4_worst 119 = .ok (.iload_n 3, 1) := by decide +kernel
theorem dX4_worst_120 : decode cX4_worst 120 = .ok (.imul, 1) := by decide +kernel
theorem dX4_worst_121 : decode cX4_worst 121 = .ok (.iload_n 1, 1) := by decide +kernel
theorem dX4_worst_122 : decode cX4_worst 122 = .ok (.invokestatic 69, 3) := by decide +kernel
theorem dX4_worst_125 : decode cX4_worst 125 = .ok (.ireturn, 1) := by decide +kernel
theorem dX4_mean_0 : decode cX4_mean 0 = .ok (.aload_n 0, 1) := by decide +kernel
theorem dX4_mean_1 : decode cX4_mean 1 = .ok (.iconst (-1), 1) := by decide +kernel
theorem dX4_mean_2 : decode cX4_mean 2 = .ok (.invokevirtual 73, 3) := by decide +kernel
theorem dX4_mean_5 : decode cX4_mean 5 = .ok (.ifCond .le 6, 3) := by decide +kernel
theorem dX4_mean_8 : decode cX4_mean 8 = .ok (.bipush (-3), 2) := by decide +kernel
theorem dX4_mean_10 : decode cX4_mean 10 = .ok (.ireturn, 1) := by decide +kernel
theorem dX4_mean_11 : decode cX4_mean 11 = .ok (.iconst 0, 1) := by decide +kernel
theorem dX4_mean_12 : decode cX4_mean 12 = .ok (.istore_n 1, 1) := by decide +kernel
theorem dX4_mean_13 : decode cX4_mean 13 = .ok (.iconst 0, 1) := by decide +kernel
theorem dX4_mean_14 : decode cX4_mean 14 = .ok (.istore_n 2, 1) := by decide +kernel
theorem dX4_mean_15 : decode cX4_mean 15 = .ok (.iload_n 2, 1) := by decide +kernel
theorem dX4_mean_16 : decode cX4_mean 16 = .ok (.aload_n 0, 1) := by decide +kernel
theorem dX4_mean_17 : decode cX4_mean 17 = .ok (.getfield 7, 3) := by decide +kernel
theorem dX4_mean_20 : decode cX4_mean 20 = .ok (.if_icmp .ge 46, 3) := by decide +kernel
theorem dX4_mean_23 : decode cX4_mean 23 = .ok (.iconst 1, 1) := by decide +kernel
theorem dX4_mean_24 : decode cX4_mean 24 = .ok (.istore_n 3, 1) := by decide +kernel
theorem dX4_mean_25 : decode cX4_mean 25 = .ok (.iload_n 3, 1) := by decide +kernel
theorem dX4_mean_26 : decode cX4_mean 26 = .ok (.aload_n 0, 1) := by decide +kernel
theorem dX4_mean_27 : decode cX4_mean 27 = .ok (.getfield 13, 3) := by decide +kernel
theorem dX4_mean_30 : decode cX4_mean 30 = .ok (.if_icmp .gt 30, 3) := by decide +kernel
theorem dX4_mean_33 : decode cX4_mean 33 = .ok (.iload_n 1, 1) := by decide +kernel
theorem dX4_mean_34 : decode cX4_mean 34 = .ok (.aload_n 0, 1) := by decide +kernel
theorem dX4_mean_35 : decode cX4_mean 35 = .ok (.getfield 22, 3) := by decide +kernel
theorem dX4_mean_38 : decode cX4_mean 38 = .ok (.bipush 9, 2) := by decide +kernel
theorem dX4_mean_40 : decode cX4_mean 40 = .ok (.iload_n 2, 1) := by decide +kernel
theorem dX4_mean_41 : decode cX4_mean 41 = .ok (.imul, 1) := by decide +kernel
theorem dX4_mean_42 : decode cX4_mean 42 = .ok (.iload_n 3, 1) := by decide +kernel
theorem dX4_mean_43 : decode cX4_mean 43 = .ok (.iadd, 1) := by decide +kernel
theorem dX4_mean_44 : decode cX4_mean 44 = .ok (.iaload, 1) := by decide +kernel
theorem dX4_mean_45 : decode cX4_mean 45 = .ok (.aload_n 0, 1) := by decide +kernel
theorem dX4_mean_46 : decode cX4_mean 46 = .ok (.iload_n 2, 1) := by decide +kernel
theorem dX4_mean_47 : decode cX4_mean 47 = .ok (.iload_n 3, 1) := by decide +kernel
theorem dX4_mean_48 : decode cX4_mean 48 = .ok (.invokevirtual 63, 3) := by decide +kernel
theorem dX4_mean_51 : decode cX4_mean 51 = .ok (.imul, 1) := by decide +kernel
theorem dX4_mean_52 : decode cX4_mean 52 = .ok (.iadd, 1) := by decide +kernel
theorem dX4_mean_53 : decode cX4_mean 53 = .ok (.istore_n 1, 1) := by decide +kernel
theorem dX4_mean_54 : decode cX4_mean 54 = .ok (.iinc 3 1, 3) := by decide +kernel
theorem dX4_mean_57 : decode cX4_mean 57 = .ok (.goto (-32), 3) := by decide +kernel
theorem dX4_mean_60 : decode cX4_mean 60 = .ok (.iinc 2 1, 3) := by decide +kernel
theorem dX4_mean_63 : decode cX4_mean 63 = .ok (.goto (-48), 3) := by decide +kernel
theorem dX4_mean_66 : decode cX4_mean 66 = .ok (.iload_n 1, 1) := by decide +kernel
theorem dX4_mean_67 : decode cX4_mean 67 = .ok (.ireturn, 1) := by decide +kernel
theorem dX4_missed_0 : decode cX4_missed 0 = .ok (.aload_n 0, 1) := by decide +kernel
theorem dX4_missed_1 : decode cX4_missed 1 = .ok (.iload_n 1, 1) := by decide +kernel
theorem dX4_missed_2 : decode cX4_missed 2 = .ok (.invokevirtual 73, 3) := by decide +kernel
theorem dX4_missed_5 : decode cX4_missed 5 = .ok (.ireturn, 1) := by decide +kernel
theorem dX4_finds_0 : decode cX4_finds 0 = .ok (.iload_n 1, 1) := by decide +kernel
theorem dX4_finds_1 : decode cX4_finds 1 = .ok (.iconst 0, 1) := by decide +kernel
theorem dX4_finds_2 : decode cX4_finds 2 = .ok (.aload_n 0, 1) := by decide +kernel
theorem dX4_finds_3 : decode cX4_finds 3 = .ok (.getfield 44, 3) := by decide +kernel
theorem dX4_finds_6 : decode cX4_finds 6 = .ok (.iconst 1, 1) := by decide +kernel
theorem dX4_finds_7 : decode cX4_finds 7 = .ok (.isub, 1) := by decide +kernel
theorem dX4_finds_8 : decode cX4_finds 8 = .ok (.invokestatic 47, 3) := by decide +kernel
theorem dX4_finds_11 : decode cX4_finds 11 = .ok (.ifCond .ne 5, 3) := by decide +kernel
theorem dX4_finds_14 : decode cX4_finds 14 = .ok (.iconst (-1), 1) := by decide +kernel
theorem dX4_finds_15 : decode cX4_finds 15 = .ok (.ireturn, 1) := by decide +kernel
theorem dX4_finds_16 : decode cX4_finds 16 = .ok (.iconst 0, 1) := by decide +kernel
theorem dX4_finds_17 : decode cX4_finds 17 = .ok (.istore_n 2, 1) := by decide +kernel
theorem dX4_finds_18 : decode cX4_finds 18 = .ok (.iconst 0, 1) := by decide +kernel
theorem dX4_finds_19 : decode cX4_finds 19 = .ok (.istore_n 3, 1) := by decide +kernel
theorem dX4_finds_20 : decode cX4_finds 20 = .ok (.iload_n 3, 1) := by decide +kernel
theorem dX4_finds_21 : decode cX4_finds 21 = .ok (.iload_n 1, 1) := by decide +kernel
theorem dX4_finds_22 : decode cX4_finds 22 = .ok (.if_icmp .ge 45, 3) := by decide +kernel
theorem dX4_finds_25 : decode cX4_finds 25 = .ok (.aload_n 0, 1) := by decide +kernel
theorem dX4_finds_26 : decode cX4_finds 26 = .ok (.getfield 26, 3) := by decide +kernel
theorem dX4_finds_29 : decode cX4_finds 29 = .ok (.iload_n 3, 1) := by decide +kernel
theorem dX4_finds_30 : decode cX4_finds 30 = .ok (.iaload, 1) := by decide +kernel
theorem dX4_finds_31 : decode cX4_finds 31 = .ok (.aload_n 0, 1) := by decide +kernel
theorem dX4_finds_32 : decode cX4_finds 32 = .ok (.getfield 26, 3) := by decide +kernel
theorem dX4_finds_35 : decode cX4_finds 35 = .ok (.iload_n 1, 1) := by decide +kernel
theorem dX4_finds_36 : decode cX4_finds 36 = .ok (.iaload, 1) := by decide +kernel
theorem dX4_finds_37 : decode cX4_finds 37 = .ok (.if_icmp .ne 22, 3) := by decide +kernel
theorem dX4_finds_40 : decode cX4_finds 40 = .ok (.aload_n 0, 1) := by decide +kernel
theorem dX4_finds_41 : decode cX4_finds 41 = .ok (.getfield 29, 3) := by decide +kernel
theorem dX4_finds_44 : decode cX4_finds 44 = .ok (.iload_n 3, 1) := by decide +kernel
theorem dX4_finds_45 : decode cX4_finds 45 = .ok (.iaload, 1) := by decide +kernel
theorem dX4_finds_46 : decode cX4_finds 46 = .ok (.iload_n 2, 1) := by decide +kernel
theorem dX4_finds_47 : decode cX4_finds 47 = .ok (.if_icmp .le 12, 3) := by decide +kernel
theorem dX4_finds_50 : decode cX4_finds 50 = .ok (.aload_n 0, 1) := by decide +kernel
theorem dX4_finds_51 : decode cX4_finds 51 = .ok (.getfield 29, 3) := by decide +kernel
theorem dX4_finds_54 : decode cX4_finds 54 = .ok (.iload_n 3, 1) := by decide +kernel
theorem dX4_finds_55 : decode cX4_finds 55 = .ok (.iaload, 1) := by decide +kernel
theorem dX4_finds_56 : decode cX4_finds 56 = .ok (.goto 4, 3) := by decide +kernel
theorem dX4_finds_59 : decode cX4_finds 59 = .ok (.iload_n 2, 1) := by decide +kernel
theorem dX4_finds_60 : decode cX4_finds 60 = .ok (.istore_n 2, 1) := by decide +kernel
theorem dX4_finds_61 : decode cX4_finds 61 = .ok (.iinc 3 1, 3) := by decide +kernel
theorem dX4_finds_64 : decode cX4_finds 64 = .ok (.goto (-44), 3) := by decide +kernel
theorem dX4_finds_67 : decode cX4_finds 67 = .ok (.aload_n 0, 1) := by decide +kernel
theorem dX4_finds_68 : decode cX4_finds 68 = .ok (.getfield 29, 3) := by decide +kernel
theorem dX4_finds_71 : decode cX4_finds 71 = .ok (.iload_n 1, 1) := by decide +kernel
theorem dX4_finds_72 : decode cX4_finds 72 = .ok (.iaload, 1) := by decide +kernel
theorem dX4_finds_73 : decode cX4_finds 73 = .ok (.iload_n 2, 1) := by decide +kernel
theorem dX4_finds_74 : decode cX4_finds 74 = .ok (.if_icmp .le 19, 3) := by decide +kernel
theorem dX4_finds_77 : decode cX4_finds 77 = .ok (.bipush 10, 2) := by decide +kernel
theorem dX4_finds_79 : decode cX4_finds 79 = .ok (.aload_n 0, 1) := by decide +kernel
theorem dX4_finds_80 : decode cX4_finds 80 = .ok (.getfield 26, 3) := by decide +kernel
theorem dX4_finds_83 : decode cX4_finds 83 = .ok (.iload_n 1, 1) := by decide +kernel
theorem dX4_finds_84 : decode cX4_finds 84 = .ok (.iaload, 1) := by decide +kernel
theorem dX4_finds_85 : decode cX4_finds 85 = .ok (.imul, 1) := by decide +kernel
theorem dX4_finds_86 : decode cX4_finds 86 = .ok (.iload_n 2, 1) := by decide +kernel
theorem dX4_finds_87 : decode cX4_finds 87 = .ok (.iadd, 1) := by decide +kernel
theorem dX4_finds_88 : decode cX4_finds 88 = .ok (.iconst 1, 1) := by decide +kernel
theorem dX4_finds_89 : decode cX4_finds 89 = .ok (.iadd, 1) := by decide +kernel
theorem dX4_finds_90 : decode cX4_finds 90 = .ok (.goto 5, 3) := by decide +kernel
theorem dX4_finds_93 : decode cX4_finds 93 = .ok (.bipush (-6), 2) := by decide +kernel
theorem dX4_finds_95 : decode cX4_finds 95 = .ok (.ireturn, 1) := by decide +kernel
theorem dX4_nines_0 : decode cX4_nines 0 = .ok (.iload_n 0, 1) := by decide +kernel
theorem dX4_nines_1 : decode cX4_nines 1 = .ok (.ifCond .ne 7, 3) := by decide +kernel
theorem dX4_nines_4 : decode cX4_nines 4 = .ok (.iconst 1, 1) := by decide +kernel
theorem dX4_nines_5 : decode cX4_nines 5 = .ok (.goto 15, 3) := by decide +kernel
theorem dX4_nines_8 : decode cX4_nines 8 = .ok (.iload_n 0, 1) := by decide +kernel
theorem dX4_nines_9 : decode cX4_nines 9 = .ok (.iconst 1, 1) := by decide +kernel
theorem dX4_nines_10 : decode cX4_nines 10 = .ok (.if_icmp .ne 8, 3) := by decide +kernel
theorem dX4_nines_13 : decode cX4_nines 13 = .ok (.bipush 9, 2) := by decide +kernel
theorem dX4_nines_15 : decode cX4_nines 15 = .ok (.goto 5, 3) := by decide +kernel
theorem dX4_nines_18 : decode cX4_nines 18 = .ok (.bipush 81, 2) := by decide +kernel
theorem dX4_nines_20 : decode cX4_nines 20 = .ok (.ireturn, 1) := by decide +kernel
theorem dX4_gone_0 : decode cX4_gone 0 = .ok (.iload_n 0, 1) := by decide +kernel
theorem dX4_gone_1 : decode cX4_gone 1 = .ok (.iload_n 1, 1) := by decide +kernel
theorem dX4_gone_2 : decode cX4_gone 2 = .ok (.invokestatic 76, 3) := by decide +kernel
theorem dX4_gone_5 : decode cX4_gone 5 = .ok (.idiv, 1) := by decide +kernel
theorem dX4_gone_6 : decode cX4_gone 6 = .ok (.bipush 9, 2) := by decide +kernel
theorem dX4_gone_8 : decode cX4_gone 8 = .ok (.irem, 1) := by decide +kernel
theorem dX4_gone_9 : decode cX4_gone 9 = .ok (.ireturn, 1) := by decide +kernel
theorem dX4_lastState_0 : decode cX4_lastState 0 = .ok (.aload_n 0, 1) := by decide +kernel
theorem dX4_lastState_1 : decode cX4_lastState 1 = .ok (.getfield 13, 3) := by decide +kernel
theorem dX4_lastState_4 : decode cX4_lastState 4 = .ok (.bipush 9, 2) := by decide +kernel
theorem dX4_lastState_6 : decode cX4_lastState 6 = .ok (.aload_n 0, 1) := by decide +kernel
theorem dX4_lastState_7 : decode cX4_lastState 7 = .ok (.getfield 13, 3) := by decide +kernel
theorem dX4_lastState_10 : decode cX4_lastState 10 = .ok (.imul, 1) := by decide +kernel
theorem dX4_lastState_11 : decode cX4_lastState 11 = .ok (.iadd, 1) := by decide +kernel
theorem dX4_lastState_12 : decode cX4_lastState 12 = .ok (.aload_n 0, 1) := by decide +kernel
theorem dX4_lastState_13 : decode cX4_lastState 13 = .ok (.getfield 7, 3) := by decide +kernel
theorem dX4_lastState_16 : decode cX4_lastState 16 = .ok (.iconst 3, 1) := by decide +kernel
theorem dX4_lastState_17 : decode cX4_lastState 17 = .ok (.if_icmp .ne 13, 3) := by decide +kernel
theorem dX4_lastState_20 : decode cX4_lastState 20 = .ok (.bipush 81, 2) := by decide +kernel
theorem dX4_lastState_22 : decode cX4_lastState 22 = .ok (.aload_n 0, 1) := by decide +kernel
theorem dX4_lastState_23 : decode cX4_lastState 23 = .ok (.getfield 13, 3) := by decide +kernel
theorem dX4_lastState_26 : decode cX4_lastState 26 = .ok (.imul, 1) := by decide +kernel
theorem dX4_lastState_27 : decode cX4_lastState 27 = .ok (.goto 4, 3) := by decide +kernel
theorem dX4_lastState_30 : decode cX4_lastState 30 = .ok (.iconst 0, 1) := by decide +kernel
theorem dX4_lastState_31 : decode cX4_lastState 31 = .ok (.iadd, 1) := by decide +kernel
theorem dX4_lastState_32 : decode cX4_lastState 32 = .ok (.ireturn, 1) := by decide +kernel
theorem dX4_isState_0 : decode cX4_isState 0 = .ok (.aload_n 0, 1) := by decide +kernel
theorem dX4_isState_1 : decode cX4_isState 1 = .ok (.getfield 7, 3) := by decide +kernel
theorem dX4_isState_4 : decode cX4_isState 4 = .ok (.iconst 3, 1) := by decide +kernel
theorem dX4_isState_5 : decode cX4_isState 5 = .ok (.if_icmp .eq 9, 3) := by decide +kernel
theorem dX4_isState_8 : decode cX4_isState 8 = .ok (.iload_n 1, 1) := by decide +kernel
theorem dX4_isState_9 : decode cX4_isState 9 = .ok (.bipush 81, 2) := by decide +kernel
theorem dX4_isState_11 : decode cX4_isState 11 = .ok (.if_icmp .ge 7, 3) := by decide +kernel
theorem dX4_isState_14 : decode cX4_isState 14 = .ok (.iconst 1, 1) := by decide +kernel
theorem dX4_isState_15 : decode cX4_isState 15 = .ok (.goto 4, 3) := by decide +kernel
theorem dX4_isState_18 : decode cX4_isState 18 = .ok (.iconst 0, 1) := by decide +kernel
theorem dX4_isState_19 : decode cX4_isState 19 = .ok (.istore_n 2, 1) := by decide +kernel
theorem dX4_isState_20 : decode cX4_isState 20 = .ok (.iconst 0, 1) := by decide +kernel
theorem dX4_isState_21 : decode cX4_isState 21 = .ok (.istore_n 3, 1) := by decide +kernel
theorem dX4_isState_22 : decode cX4_isState 22 = .ok (.iload_n 3, 1) := by decide +kernel
theorem dX4_isState_23 : decode cX4_isState 23 = .ok (.iconst 3, 1) := by decide +kernel
theorem dX4_isState_24 : decode cX4_isState 24 = .ok (.if_icmp .ge 31, 3) := by decide +kernel
theorem dX4_isState_27 : decode cX4_isState 27 = .ok (.iload_n 2, 1) := by decide +kernel
theorem dX4_isState_28 : decode cX4_isState 28 = .ok (.ifCond .eq 19, 3) := by decide +kernel
theorem dX4_isState_31 : decode cX4_isState 31 = .ok (.iload_n 1, 1) := by decide +kernel
theorem dX4_isState_32 : decode cX4_isState 32 = .ok (.iload_n 3, 1) := by decide +kernel
theorem dX4_isState_33 : decode cX4_isState 33 = .ok (.invokestatic 79, 3) := by decide +kernel
theorem dX4_isState_36 : decode cX4_isState 36 = .ok (.aload_n 0, 1) := by decide +kernel
theorem dX4_isState_37 : decode cX4_isState 37 = .ok (.getfield 13, 3) := by decide +kernel
theorem dX4_isState_40 : decode cX4_isState 40 = .ok (.if_icmp .gt 7, 3) := by decide +kernel
theorem dX4_isState_43 : decode cX4_isState 43 = .ok (.iconst 1, 1) := by decide +kernel
theorem dX4_isState_44 : decode cX4_isState 44 = .ok (.goto 4, 3) := by decide +kernel
theorem dX4_isState_47 : decode cX4_isState 47 = .ok (.iconst 0, 1) := by decide +kernel
theorem dX4_isState_48 : decode cX4_isState 48 = .ok (.istore_n 2, 1) := by decide +kernel
theorem dX4_isState_49 : decode cX4_isState 49 = .ok (.iinc 3 1, 3) := by decide +kernel
theorem dX4_isState_52 : decode cX4_isState 52 = .ok (.goto (-30), 3) := by decide +kernel
theorem dX4_isState_55 : decode cX4_isState 55 = .ok (.iload_n 2, 1) := by decide +kernel
theorem dX4_isState_56 : decode cX4_isState 56 = .ok (.ireturn, 1) := by decide +kernel
theorem dX4_rest_0 : decode cX4_rest 0 = .ok (.iconst 0, 1) := by decide +kernel
theorem dX4_rest_1 : decode cX4_rest 1 = .ok (.istore_n 2, 1) := by decide +kernel
theorem dX4_rest_2 : decode cX4_rest 2 = .ok (.iconst 0, 1) := by decide +kernel
theorem dX4_rest_3 : decode cX4_rest 3 = .ok (.istore_n 3, 1) := by decide +kernel
theorem dX4_rest_4 : decode cX4_rest 4 = .ok (.iload_n 3, 1) := by decide +kernel
theorem dX4_rest_5 : decode cX4_rest 5 = .ok (.aload_n 0, 1) := by decide +kernel
theorem dX4_rest_6 : decode cX4_rest 6 = .ok (.getfield 7, 3) := by decide +kernel
theorem dX4_rest_9 : decode cX4_rest 9 = .ok (.if_icmp .ge 48, 3) := by decide +kernel
theorem dX4_rest_12 : decode cX4_rest 12 = .ok (.iload_n 1, 1) := by decide +kernel
theorem dX4_rest_13 : decode cX4_rest 13 = .ok (.iload_n 3, 1) := by decide +kernel
theorem dX4_rest_14 : decode cX4_rest 14 = .ok (.invokestatic 79, 3) := by decide +kernel
theorem dX4_rest_17 : decode cX4_rest 17 = .ok (.iconst 1, 1) := by decide +kernel
theorem dX4_rest_18 : decode cX4_rest 18 = .ok (.iadd, 1) := by decide +kernel
theorem dX4_rest_19 : decode cX4_rest 19 = .ok (.istore 4, 2) := by decide +kernel
theorem dX4_rest_21 : decode cX4_rest 21 = .ok (.iload 4, 2) := by decide +kernel
theorem dX4_rest_23 : decode cX4_rest 23 = .ok (.aload_n 0, 1) := by decide +kernel
theorem dX4_rest_24 : decode cX4_rest 24 = .ok (.getfield 13, 3) := by decide +kernel
theorem dX4_rest_27 : decode cX4_rest 27 = .ok (.if_icmp .gt 24, 3) := by decide +kernel
theorem dX4_rest_30 : decode cX4_rest 30 = .ok (.iload_n 2, 1) := by decide +kernel
theorem dX4_rest_31 : decode cX4_rest 31 = .ok (.aload_n 0, 1) := by decide +kernel
theorem dX4_rest_32 : decode cX4_rest 32 = .ok (.getfield 22, 3) := by decide +kernel
theorem dX4_rest_35 : decode cX4_rest 35 = .ok (.bipush 9, 2) := by decide +kernel
theorem dX4_rest_37 : decode cX4_rest 37 = .ok (.iload_n 3, 1) := by decide +kernel
theorem dX4_rest_38 : decode cX4_rest 38 = .ok (.imul, 1) := by decide +kernel
theorem dX4_rest_39 : decode cX4_rest 39 = .ok (.iload 4, 2) := by decide +kernel
theorem dX4_rest_41 : decode cX4_rest 41 = .ok (.iadd, 1) := by decide +kernel
theorem dX4_rest_42 : decode cX4_rest 42 = .ok (.iaload, 1) := by decide +kernel
theorem dX4_rest_43 : decode cX4_rest 43 = .ok (.iadd, 1) := by decide +kernel
theorem dX4_rest_44 : decode cX4_rest 44 = .ok (.istore_n 2, 1) := by decide +kernel
theorem dX4_rest_45 : decode cX4_rest 45 = .ok (.iinc 4 1, 3) := by decide +kernel
theorem dX4_rest_48 : decode cX4_rest 48 = .ok (.goto (-27), 3) := by decide +kernel
theorem dX4_rest_51 : decode cX4_rest 51 = .ok (.iinc 3 1, 3) := by decide +kernel
theorem dX4_rest_54 : decode cX4_rest 54 = .ok (.goto (-50), 3) := by decide +kernel
theorem dX4_rest_57 : decode cX4_rest 57 = .ok (.iload_n 2, 1) := by decide +kernel
theorem dX4_rest_58 : decode cX4_rest 58 = .ok (.ireturn, 1) := by decide +kernel
theorem dX4_adds_0 : decode cX4_adds 0 = .ok (.iload_n 2, 1) := by decide +kernel
theorem dX4_adds_1 : decode cX4_adds 1 = .ok (.aload_n 0, 1) := by decide +kernel
theorem dX4_adds_2 : decode cX4_adds 2 = .ok (.getfield 16, 3) := by decide +kernel
theorem dX4_adds_5 : decode cX4_adds 5 = .ok (.aload_n 0, 1) := by decide +kernel
theorem dX4_adds_6 : decode cX4_adds 6 = .ok (.getfield 19, 3) := by decide +kernel
theorem dX4_adds_9 : decode cX4_adds 9 = .ok (.iadd, 1) := by decide +kernel
theorem dX4_adds_10 : decode cX4_adds 10 = .ok (.imul, 1) := by decide +kernel
theorem dX4_adds_11 : decode cX4_adds 11 = .ok (.aload_n 0, 1) := by decide +kernel
theorem dX4_adds_12 : decode cX4_adds 12 = .ok (.iload_n 1, 1) := by decide +kernel
theorem dX4_adds_13 : decode cX4_adds 13 = .ok (.invokevirtual 82, 3) := by decide +kernel
theorem dX4_adds_16 : decode cX4_adds 16 = .ok (.imul, 1) := by decide +kernel
theorem dX4_adds_17 : decode cX4_adds 17 = .ok (.ireturn, 1) := by decide +kernel
theorem dX4_layLeast_0 : decode cX4_layLeast 0 = .ok (.aload_n 0, 1) := by decide +kernel
theorem dX4_layLeast_1 : decode cX4_layLeast 1 = .ok (.invokevirtual 85, 3) := by decide +kernel
theorem dX4_layLeast_4 : decode cX4_layLeast 4 = .ok (.istore_n 1, 1) := by decide +kernel
theorem dX4_layLeast_5 : decode cX4_layLeast 5 = .ok (.iload_n 1, 1) := by decide +kernel
theorem dX4_layLeast_6 : decode cX4_layLeast 6 = .ok (.ifCond .lt 136, 3) := by decide +kernel
theorem dX4_layLeast_9 : decode cX4_layLeast 9 = .ok (.aload_n 0, 1) := by decide +kernel
theorem dX4_layLeast_10 : decode cX4_layLeast 10 = .ok (.iload_n 1, 1) := by decide +kernel
theorem dX4_layLeast_11 : decode cX4_layLeast 11 = .ok (.invokevirtual 89, 3) := by decide +kernel
theorem dX4_layLeast_14 : decode cX4_layLeast 14 = .ok (.ifCond .eq 122, 3) := by decide +kernel
theorem dX4_layLeast_17 : decode cX4_layLeast 17 = .ok (.aload_n 0, 1) := by decide +kernel
theorem dX4_layLeast_18 : decode cX4_layLeast 18 = .ok (.getfield 32, 3) := by decide +kernel
theorem dX4_layLeast_21 : decode cX4_layLeast 21 = .ok (.iload_n 1, 1) := by decide +kernel
theorem dX4_layLeast_22 : decode cX4_layLeast 22 = .ok (.iload_n 1, 1) := by decide +kernel
theorem dX4_layLeast_23 : decode cX4_layLeast 23 = .ok (.aload_n 0, 1) := by decide +kernel
theorem dX4_layLeast_24 : decode cX4_layLeast 24 = .ok (.invokevirtual 85, 3) := by decide +kernel
theorem dX4_layLeast_27 : decode cX4_layLeast 27 = .ok (.if_icmp .ne 7, 3) := by decide +kernel
theorem dX4_layLeast_30 : decode cX4_layLeast 30 = .ok (.iconst 0, 1) := by decide +kernel
theorem dX4_layLeast_31 : decode cX4_layLeast 31 = .ok (.goto 5, 3) := by decide +kernel
theorem dX4_layLeast_34 : decode cX4_layLeast 34 = .ok (.ldc 93, 2) := by decide +kernel
theorem dX4_layLeast_36 : decode cX4_layLeast 36 = .ok (.iastore, 1) := by decide +kernel
theorem dX4_layLeast_37 : decode cX4_layLeast 37 = .ok (.iconst 0, 1) := by decide +kernel
theorem dX4_layLeast_38 : decode cX4_layLeast 38 = .ok (.istore_n 2, 1) := by decide +kernel
theorem dX4_layLeast_39 : decode cX4_layLeast 39 = .ok (.iload_n 2, 1) := by decide +kernel
theorem dX4_layLeast_40 : decode cX4_layLeast 40 = .ok (.aload_n 0, 1) := by decide +kernel
theorem dX4_layLeast_41 : decode cX4_layLeast 41 = .ok (.getfield 7, 3) := by decide +kernel
theorem dX4_layLeast_44 : decode cX4_layLeast 44 = .ok (.if_icmp .ge 92, 3) := by decide +kernel
theorem dX4_layLeast_47 : decode cX4_layLeast 47 = .ok (.iload_n 1, 1) := by decide +kernel
theorem dX4_layLeast_48 : decode cX4_layLeast 48 = .ok (.iload_n 2, 1) := by decide +kernel
theorem dX4_layLeast_49 : decode cX4_layLeast 49 = .ok (.invokestatic 79, 3) := by decide +kernel
theorem dX4_layLeast_52 : decode cX4_layLeast 52 = .ok (.iconst 1, 1) := by decide +kernel
theorem dX4_layLeast_53 : decode cX4_layLeast 53 = .ok (.iadd, 1) := by decide +kernel
theorem dX4_layLeast_54 : decode cX4_layLeast 54 = .ok (.istore_n 3, 1) := by decide +kernel
theorem dX4_layLeast_55 : decode cX4_layLeast 55 = .ok (.iload_n 3, 1) := by decide +kernel
theorem dX4_layLeast_56 : decode cX4_layLeast 56 = .ok (.aload_n 0, 1) := by decide +kernel
theorem dX4_layLeast_57 : decode cX4_layLeast 57 = .ok (.getfield 13, 3) := by decide +kernel
theorem dX4_layLeast_60 : decode cX4_layLeast 60 = .ok (.if_icmp .gt 70, 3) := by decide +kernel
theorem dX4_layLeast_63 : decode cX4_layLeast 63 = .ok (.iload_n 1, 1) := by decide +kernel
theorem dX4_layLeast_64 : decode cX4_layLeast 64 = .ok (.iload_n 3, 1) := by decide +kernel
theorem dX4_layLeast_65 : decode cX4_layLeast 65 = .ok (.iload_n 1, 1) := by decide +kernel
theorem dX4_layLeast_66 : decode cX4_layLeast 66 = .ok (.iload_n 2, 1) := by decide +kernel
theorem dX4_layLeast_67 : decode cX4_layLeast 67 = .ok (.invokestatic 79, 3) := by decide +kernel
theorem dX4_layLeast_70 : decode cX4_layLeast 70 = .ok (.isub, 1) := by decide +kernel
theorem dX4_layLeast_71 : decode cX4_layLeast 71 = .ok (.iload_n 2, 1) := by decide +kernel
theorem dX4_layLeast_72 : decode cX4_layLeast 72 = .ok (.invokestatic 76, 3) := by decide +kernel
theorem dX4_layLeast_75 : decode cX4_layLeast 75 = .ok (.imul, 1) := by decide +kernel
theorem dX4_layLeast_76 : decode cX4_layLeast 76 = .ok (.iadd, 1) := by decide +kernel
theorem dX4_layLeast_77 : decode cX4_layLeast 77 = .ok (.istore 4, 2) := by decide +kernel
theorem dX4_layLeast_79 : decode cX4_layLeast 79 = .ok (.aload_n 0, 1) := by decide +kernel
theorem dX4_layLeast_80 : decode cX4_layLeast 80 = .ok (.iload 4, 2) := by decide +kernel
theorem dX4_layLeast_82 : decode cX4_layLeast 82 = .ok (.iload_n 3, 1) := by decide +kernel
theorem dX4_layLeast_83 : decode cX4_layLeast 83 = .ok (.invokevirtual 94, 3) := by decide +kernel
theorem dX4_layLeast_86 : decode cX4_layLeast 86 = .ok (.aload_n 0, 1) := by decide +kernel
theorem dX4_layLeast_87 : decode cX4_layLeast 87 = .ok (.getfield 32, 3) := by decide +kernel
theorem dX4_layLeast_90 : decode cX4_layLeast 90 = .ok (.iload 4, 2) := by decide +kernel
theorem dX4_layLeast_92 : decode cX4_layLeast 92 = .ok (.iaload, 1) := by decide +kernel
theorem dX4_layLeast_93 : decode cX4_layLeast 93 = .ok (.iadd, 1) := by decide +kernel
theorem dX4_layLeast_94 : decode cX4_layLeast 94 = .ok (.istore 5, 2) := by decide +kernel
theorem dX4_layLeast_96 : decode cX4_layLeast 96 = .ok (.aload_n 0, 1) := by decide +kernel
theorem dX4_layLeast_97 : decode cX4_layLeast 97 = .ok (.getfield 32, 3) := by decide +kernel
theorem dX4_layLeast_100 : decode cX4_layLeast 100 = .ok (.iload_n 1, 1) := by decide +kernel
theorem dX4_layLeast_101 : decode cX4_layLeast 101 = .ok (.iload 5, 2) := by decide +kernel
theorem dX4_layLeast_103 : decode cX4_layLeast 103 = .ok (.aload_n 0, 1) := by decide +kernel
theorem dX4_layLeast_104 : decode cX4_layLeast 104 = .ok (.getfield 32, 3) := by decide +kernel
theorem dX4_layLeast_107 : decode cX4_layLeast 107 = .ok (.iload_n 1, 1) := by decide +kernel
theorem dX4_layLeast_108 : decode cX4_layLeast 108 = .ok (.iaload, 1) := by decide +kernel
theorem dX4_layLeast_109 : decode cX4_layLeast 109 = .ok (.if_icmp .ge 8, 3) := by decide +kernel
theorem dX4_layLeast_112 : decode cX4_layLeast 112 = .ok (.iload 5, 2) := by decide +kernel
theorem dX4_layLeast_114 : decode cX4_layLeast 114 = .ok (.goto 9, 3) := by decide +kernel
theorem dX4_layLeast_117 : decode cX4_layLeast 117 = .ok (.aload_n 0, 1) := by decide +kernel
theorem dX4_layLeast_118 : decode cX4_layLeast 118 = .ok (.getfield 32, 3) := by decide +kernel
theorem dX4_layLeast_121 : decode cX4_layLeast 121 = .ok (.iload_n 1, 1) := by decide +kernel
theorem dX4_layLeast_122 : decode cX4_layLeast 122 = .ok (.iaload, 1) := by decide +kernel
theorem dX4_layLeast_123 : decode cX4_layLeast 123 = .ok (.iastore, 1) := by decide +kernel
theorem dX4_layLeast_124 : decode cX4_layLeast 124 = .ok (.iinc 3 1, 3) := by decide +kernel
theorem dX4_layLeast_127 : decode cX4_layLeast 127 = .ok (.goto (-72), 3) := by decide +kernel
theorem dX4_layLeast_130 : decode cX4_layLeast 130 = .ok (.iinc 2 1, 3) := by decide +kernel
theorem dX4_layLeast_133 : decode cX4_layLeast 133 = .ok (.goto (-94), 3) := by decide +kernel
theorem dX4_layLeast_136 : decode cX4_layLeast 136 = .ok (.iinc 1 (-1), 3) := by decide +kernel
theorem dX4_layLeast_139 : decode cX4_layLeast 139 = .ok (.goto (-134), 3) := by decide +kernel
theorem dX4_layLeast_142 : decode cX4_layLeast 142 = .ok (.return_, 1) := by decide +kernel
theorem dX4_leastMean_0 : decode cX4_leastMean 0 = .ok (.aload_n 0, 1) := by decide +kernel
theorem dX4_leastMean_1 : decode cX4_leastMean 1 = .ok (.invokevirtual 97, 3) := by decide +kernel
theorem dX4_leastMean_4 : decode cX4_leastMean 4 = .ok (.aload_n 0, 1) := by decide +kernel
theorem dX4_leastMean_5 : decode cX4_leastMean 5 = .ok (.getfield 32, 3) := by decide +kernel
theorem dX4_leastMean_8 : decode cX4_leastMean 8 = .ok (.iconst 0, 1) := by decide +kernel
theorem dX4_leastMean_9 : decode cX4_leastMean 9 = .ok (.iaload, 1) := by decide +kernel
theorem dX4_leastMean_10 : decode cX4_leastMean 10 = .ok (.istore_n 1, 1) := by decide +kernel
theorem dX4_leastMean_11 : decode cX4_leastMean 11 = .ok (.iconst 0, 1) := by decide +kernel
theorem dX4_leastMean_12 : decode cX4_leastMean 12 = .ok (.istore_n 2, 1) := by decide +kernel
theorem dX4_leastMean_13 : decode cX4_leastMean 13 = .ok (.iload_n 2, 1) := by decide +kernel
theorem dX4_leastMean_14 : decode cX4_leastMean 14 = .ok (.aload_n 0, 1) := by decide +kernel
theorem dX4_leastMean_15 : decode cX4_leastMean 15 = .ok (.getfield 7, 3) := by decide +kernel
theorem dX4_leastMean_18 : decode cX4_leastMean 18 = .ok (.if_icmp .ge 46, 3) := by decide +kernel
theorem dX4_leastMean_21 : decode cX4_leastMean 21 = .ok (.iconst 1, 1) := by decide +kernel
theorem dX4_leastMean_22 : decode cX4_leastMean 22 = .ok (.istore_n 3, 1) := by decide +kernel
theorem dX4_leastMean_23 : decode cX4_leastMean 23 = .ok (.iload_n 3, 1) := by decide +kernel
theorem dX4_leastMean_24 : decode cX4_leastMean 24 = .ok (.aload_n 0, 1) := by decide +kernel
theorem dX4_leastMean_25 : decode cX4_leastMean 25 = .ok (.getfield 13, 3) := by decide +kernel
theorem dX4_leastMean_28 : decode cX4_leastMean 28 = .ok (.if_icmp .gt 30, 3) := by decide +kernel
theorem dX4_leastMean_31 : decode cX4_leastMean 31 = .ok (.iload_n 1, 1) := by decide +kernel
theorem dX4_leastMean_32 : decode cX4_leastMean 32 = .ok (.aload_n 0, 1) := by decide +kernel
theorem dX4_leastMean_33 : decode cX4_leastMean 33 = .ok (.getfield 22, 3) := by decide +kernel
theorem dX4_leastMean_36 : decode cX4_leastMean 36 = .ok (.bipush 9, 2) := by decide +kernel
theorem dX4_leastMean_38 : decode cX4_leastMean 38 = .ok (.iload_n 2, 1) := by decide +kernel
theorem dX4_leastMean_39 : decode cX4_leastMean 39 = .ok (.imul, 1) := by decide +kernel
theorem dX4_leastMean_40 : decode cX4_leastMean 40 = .ok (.iload_n 3, 1) := by decide +kernel
theorem dX4_leastMean_41 : decode cX4_leastMean 41 = .ok (.iadd, 1) := by decide +kernel
theorem dX4_leastMean_42 : decode cX4_leastMean 42 = .ok (.iaload, 1) := by decide +kernel
theorem dX4_leastMean_43 : decode cX4_leastMean 43 = .ok (.aload_n 0, 1) := by decide +kernel
theorem dX4_leastMean_44 : decode cX4_leastMean 44 = .ok (.getfield 16, 3) := by decide +kernel
theorem dX4_leastMean_47 : decode cX4_leastMean 47 = .ok (.imul, 1) := by decide +kernel
theorem dX4_leastMean_48 : decode cX4_leastMean 48 = .ok (.iload_n 3, 1) := by decide +kernel
theorem dX4_leastMean_49 : decode cX4_leastMean 49 = .ok (.imul, 1) := by decide +kernel
theorem dX4_leastMean_50 : decode cX4_leastMean 50 = .ok (.iadd, 1) := by decide +kernel
theorem dX4_leastMean_51 : decode cX4_leastMean 51 = .ok (.istore_n 1, 1) := by decide +kernel
theorem dX4_leastMean_52 : decode cX4_leastMean 52 = .ok (.iinc 3 1, 3) := by decide +kernel
theorem dX4_leastMean_55 : decode cX4_leastMean 55 = .ok (.goto (-32), 3) := by decide +kernel
theorem dX4_leastMean_58 : decode cX4_leastMean 58 = .ok (.iinc 2 1, 3) := by decide +kernel
theorem dX4_leastMean_61 : decode cX4_leastMean 61 = .ok (.goto (-48), 3) := by decide +kernel
theorem dX4_leastMean_64 : decode cX4_leastMean 64 = .ok (.iload_n 1, 1) := by decide +kernel
theorem dX4_leastMean_65 : decode cX4_leastMean 65 = .ok (.ireturn, 1) := by decide +kernel
theorem dX4_layMeanPlan_0 : decode cX4_layMeanPlan 0 = .ok (.aload_n 0, 1) := by decide +kernel
theorem dX4_layMeanPlan_1 : decode cX4_layMeanPlan 1 = .ok (.invokevirtual 97, 3) := by decide +kernel
theorem dX4_layMeanPlan_4 : decode cX4_layMeanPlan 4 = .ok (.aload_n 0, 1) := by decide +kernel
theorem dX4_layMeanPlan_5 : decode cX4_layMeanPlan 5 = .ok (.iconst 0, 1) := by decide +kernel
theorem dX4_layMeanPlan_6 : decode cX4_layMeanPlan 6 = .ok (.putfield 100, 3) := by decide +kernel
theorem dX4_layMeanPlan_9 : decode cX4_layMeanPlan 9 = .ok (.iconst 0, 1) := by decide +kernel
theorem dX4_layMeanPlan_10 : decode cX4_layMeanPlan 10 = .ok (.istore_n 1, 1) := by decide +kernel
theorem dX4_layMeanPlan_11 : decode cX4_layMeanPlan 11 = .ok (.iload_n 1, 1) := by decide +kernel
theorem dX4_layMeanPlan_12 : decode cX4_layMeanPlan 12 = .ok (.aload_n 0, 1) := by decide +kernel
theorem dX4_layMeanPlan_13 : decode cX4_layMeanPlan 13 = .ok (.invokevirtual 85, 3) := by decide +kernel
theorem dX4_layMeanPlan_16 : decode cX4_layMeanPlan 16 = .ok (.if_icmp .eq 129, 3) := by decide +kernel
theorem dX4_layMeanPlan_19 : decode cX4_layMeanPlan 19 = .ok (.iconst (-1), 1) := by decide +kernel
theorem dX4_layMeanPlan_20 : decode cX4_layMeanPlan 20 = .ok (.istore_n 2, 1) := by decide +kernel
theorem dX4_layMeanPlan_21 : decode cX4_layMeanPlan 21 = .ok (.iconst 0, 1) := by decide +kernel
theorem dX4_layMeanPlan_22 : decode cX4_layMeanPlan 22 = .ok (.istore_n 3, 1) := by decide +kernel
theorem dX4_layMeanPlan_23 : decode cX4_layMeanPlan 23 = .ok (.iload_n 3, 1) := by decide +kernel
theorem dX4_layMeanPlan_24 : decode cX4_layMeanPlan 24 = .ok (.aload_n 0, 1) := by decide +kernel
theorem dX4_layMeanPlan_25 : decode cX4_layMeanPlan 25 = .ok (.getfield 7, 3) := by decide +kernel
theorem dX4_layMeanPlan_28 : decode cX4_layMeanPlan 28 = .ok (.if_icmp .ge 102, 3) := by decide +kernel
theorem dX4_layMeanPlan_31 : decode cX4_layMeanPlan 31 = .ok (.iload_n 2, 1) := by decide +kernel
theorem dX4_layMeanPlan_32 : decode cX4_layMeanPlan 32 = .ok (.ifCond .ge 98, 3) := by decide +kernel
theorem dX4_layMeanPlan_35 : decode cX4_layMeanPlan 35 = .ok (.iload_n 1, 1) := by decide +kernel
theorem dX4_layMeanPlan_36 : decode cX4_layMeanPlan 36 = .ok (.iload_n 3, 1) := by decide +kernel
theorem dX4_layMeanPlan_37 : decode cX4_layMeanPlan 37 = .ok (.invokestatic 79, 3) := by decide +kernel
theorem dX4_layMeanPlan_40 : decode cX4_layMeanPlan 40 = .ok (.iconst 1, 1) := by decide +kernel
theorem dX4_layMeanPlan_41 : decode cX4_layMeanPlan 41 = .ok (.iadd, 1) := by decide +kernel
theorem dX4_layMeanPlan_42 : decode cX4_layMeanPlan 42 = .ok (.istore 4, 2) := by decide +kernel
theorem dX4_layMeanPlan_44 : decode cX4_layMeanPlan 44 = .ok (.iload 4, 2) := by decide +kernel
theorem dX4_layMeanPlan_46 : decode cX4_layMeanPlan 46 = .ok (.aload_n 0, 1) := by decide +kernel
theorem dX4_layMeanPlan_47 : decode cX4_layMeanPlan 47 = .ok (.getfield 13, 3) := by decide +kernel
theorem dX4_layMeanPlan_50 : decode cX4_layMeanPlan 50 = .ok (.if_icmp .gt 74, 3) := by decide +kernel
theorem dX4_layMeanPlan_53 : decode cX4_layMeanPlan 53 = .ok (.iload_n 2, 1) := by decide +kernel
theorem dX4_layMeanPlan_54 : decode cX4_layMeanPlan 54 = .ok (.ifCond .ge 70, 3) := by decide +kernel
theorem dX4_layMeanPlan_57 : decode cX4_layMeanPlan 57 = .ok (.iload_n 1, 1) := by decide +kernel
theorem dX4_layMeanPlan_58 : decode cX4_layMeanPlan 58 = .ok (.iload 4, 2) := by decide +kernel
theorem dX4_layMeanPlan_60 : decode cX4_layMeanPlan 60 = .ok (.iload_n 1, 1) := by decide +kernel
theorem dX4_layMeanPlan_61 : decode cX4_layMeanPlan 61 = .ok (.iload_n 3, 1) := by decide +kernel
theorem dX4_layMeanPlan_62 : decode cX4_layMeanPlan 62 = .ok (.invokestatic 79, 3) := by decide +kernel
theorem dX4_layMeanPlan_65 : decode cX4_layMeanPlan 65 = .ok (.isub, 1) := by decide +kernel
theorem dX4_layMeanPlan_66 : decode cX4_layMeanPlan 66 = .ok (.iload_n 3, 1) := by decide +kernel
theorem dX4_layMeanPlan_67 : decode cX4_layMeanPlan 67 = .ok (.invokestatic 76, 3) := by decide +kernel
theorem dX4_layMeanPlan_70 : decode cX4_layMeanPlan 70 = .ok (.imul, 1) := by decide +kernel
theorem dX4_layMeanPlan_71 : decode cX4_layMeanPlan 71 = .ok (.iadd, 1) := by decide +kernel
theorem dX4_layMeanPlan_72 : decode cX4_layMeanPlan 72 = .ok (.istore 5, 2) := by decide +kernel
theorem dX4_layMeanPlan_74 : decode cX4_layMeanPlan 74 = .ok (.aload_n 0, 1) := by decide +kernel
theorem dX4_layMeanPlan_75 : decode cX4_layMeanPlan 75 = .ok (.iload 5, 2) := by decide +kernel
theorem dX4_layMeanPlan_77 : decode cX4_layMeanPlan 77 = .ok (.iload 4, 2) := by decide +kernel
theorem dX4_layMeanPlan_79 : decode cX4_layMeanPlan 79 = .ok (.invokevirtual 94, 3) := by decide +kernel
theorem dX4_layMeanPlan_82 : decode cX4_layMeanPlan 82 = .ok (.aload_n 0, 1) := by decide +kernel
theorem dX4_layMeanPlan_83 : decode cX4_layMeanPlan 83 = .ok (.getfield 32, 3) := by decide +kernel
theorem dX4_layMeanPlan_86 : decode cX4_layMeanPlan 86 = .ok (.iload 5, 2) := by decide +kernel
theorem dX4_layMeanPlan_88 : decode cX4_layMeanPlan 88 = .ok (.iaload, 1) := by decide +kernel
theorem dX4_layMeanPlan_89 : decode cX4_layMeanPlan 89 = .ok (.iadd, 1) := by decide +kernel
theorem dX4_layMeanPlan_90 : decode cX4_layMeanPlan 90 = .ok (.aload_n 0, 1) := by decide +kernel
theorem dX4_layMeanPlan_91 : decode cX4_layMeanPlan 91 = .ok (.getfield 32, 3) := by decide +kernel
theorem dX4_layMeanPlan_94 : decode cX4_layMeanPlan 94 = .ok (.iload_n 1, 1) := by decide +kernel
theorem dX4_layMeanPlan_95 : decode cX4_layMeanPlan 95 = .ok (.iaload, 1) := by decide +kernel
theorem dX4_layMeanPlan_96 : decode cX4_layMeanPlan 96 = .ok (.if_icmp .ne 22, 3) := by decide +kernel
theorem dX4_layMeanPlan_99 : decode cX4_layMeanPlan 99 = .ok (.iload 5, 2) := by decide +kernel
theorem dX4_layMeanPlan_101 : decode cX4_layMeanPlan 101 = .ok (.istore_n 2, 1) := by decide +kernel
theorem dX4_layMeanPlan_102 : decode cX4_layMeanPlan 102 = .ok (.aload_n 0, 1) := by decide +kernel
theorem dX4_layMeanPlan_103 : decode cX4_layMeanPlan 103 = .ok (.getfield 38, 3) := by decide +kernel
theorem dX4_layMeanPlan_106 : decode cX4_layMeanPlan 106 = .ok (.aload_n 0, 1) := by decide +kernel
theorem dX4_layMeanPlan_107 : decode cX4_layMeanPlan 107 = .ok (.getfield 100, 3) := by decide +kernel
theorem dX4_layMeanPlan_110 : decode cX4_layMeanPlan 110 = .ok (.bipush 10, 2) := by decide +kernel
theorem dX4_layMeanPlan_112 : decode cX4_layMeanPlan 112 = .ok (.iload_n 3, 1) := by decide +kernel
theorem dX4_layMeanPlan_113 : decode cX4_layMeanPlan 113 = .ok (.imul, 1) := by decide +kernel
theorem dX4_layMeanPlan_114 : decode cX4_layMeanPlan 114 = .ok (.iload 4, 2) := by decide +kernel
theorem dX4_layMeanPlan_116 : decode cX4_layMeanPlan 116 = .ok (.iadd, 1) := by decide +kernel
theorem dX4_layMeanPlan_117 : decode cX4_layMeanPlan 117 = .ok (.iastore, 1) := by decide +kernel
theorem dX4_layMeanPlan_118 : decode cX4_layMeanPlan 118 = .ok (.iinc 4 1, 3) := by decide +kernel
theorem dX4_layMeanPlan_121 : decode cX4_layMeanPlan 121 = .ok (.goto (-77), 3) := by decide +kernel
theorem dX4_layMeanPlan_124 : decode cX4_layMeanPlan 124 = .ok (.iinc 3 1, 3) := by decide +kernel
theorem dX4_layMeanPlan_127 : decode cX4_layMeanPlan 127 = .ok (.goto (-104), 3) := by decide +kernel
theorem dX4_layMeanPlan_130 : decode cX4_layMeanPlan 130 = .ok (.aload_n 0, 1) := by decide +kernel
theorem dX4_layMeanPlan_131 : decode cX4_layMeanPlan 131 = .ok (.dup, 1) := by decide +kernel
theorem dX4_layMeanPlan_132 : decode cX4_layMeanPlan 132 = .ok (.getfield 100, 3) := by decide +kernel
theorem dX4_layMeanPlan_135 : decode cX4_layMeanPlan 135 = .ok (.iconst 1, 1) := by decide +kernel
theorem dX4_layMeanPlan_136 : decode cX4_layMeanPlan 136 = .ok (.iadd, 1) := by decide +kernel
theorem dX4_layMeanPlan_137 : decode cX4_layMeanPlan 137 = .ok (.putfield 100, 3) := by decide +kernel
theorem dX4_layMeanPlan_140 : decode cX4_layMeanPlan 140 = .ok (.iload_n 2, 1) := by decide +kernel
theorem dX4_layMeanPlan_141 : decode cX4_layMeanPlan 141 = .ok (.istore_n 1, 1) := by decide +kernel
theorem dX4_layMeanPlan_142 : decode cX4_layMeanPlan 142 = .ok (.goto (-131), 3) := by decide +kernel
theorem dX4_layMeanPlan_145 : decode cX4_layMeanPlan 145 = .ok (.return_, 1) := by decide +kernel
theorem dX4_planAt_0 : decode cX4_planAt 0 = .ok (.iload_n 1, 1) := by decide +kernel
theorem dX4_planAt_1 : decode cX4_planAt 1 = .ok (.iconst 0, 1) := by decide +kernel
theorem dX4_planAt_2 : decode cX4_planAt 2 = .ok (.aload_n 0, 1) := by decide +kernel
theorem dX4_planAt_3 : decode cX4_planAt 3 = .ok (.getfield 100, 3) := by decide +kernel
theorem dX4_planAt_6 : decode cX4_planAt 6 = .ok (.iconst 1, 1) := by decide +kernel
theorem dX4_planAt_7 : decode cX4_planAt 7 = .ok (.isub, 1) := by decide +kernel
theorem dX4_planAt_8 : decode cX4_planAt 8 = .ok (.invokestatic 47, 3) := by decide +kernel
theorem dX4_planAt_11 : decode cX4_planAt 11 = .ok (.ifCond .eq 12, 3) := by decide +kernel
theorem dX4_planAt_14 : decode cX4_planAt 14 = .ok (.aload_n 0, 1) := by decide +kernel
theorem dX4_planAt_15 : decode cX4_planAt 15 = .ok (.getfield 38, 3) := by decide +kernel
theorem dX4_planAt_18 : decode cX4_planAt 18 = .ok (.iload_n 1, 1) := by decide +kernel
theorem dX4_planAt_19 : decode cX4_planAt 19 = .ok (.iaload, 1) := by decide +kernel
theorem dX4_planAt_20 : decode cX4_planAt 20 = .ok (.goto 5, 3) := by decide +kernel
theorem dX4_planAt_23 : decode cX4_planAt 23 = .ok (.bipush (-6), 2) := by decide +kernel
theorem dX4_planAt_25 : decode cX4_planAt 25 = .ok (.ireturn, 1) := by decide +kernel
theorem dX4_meanTrip_0 : decode cX4_meanTrip 0 = .ok (.aload_n 0, 1) := by decide +kernel
theorem dX4_meanTrip_1 : decode cX4_meanTrip 1 = .ok (.invokevirtual 103, 3) := by decide +kernel
theorem dX4_meanTrip_4 : decode cX4_meanTrip 4 = .ok (.aload_n 0, 1) := by decide +kernel
theorem dX4_meanTrip_5 : decode cX4_meanTrip 5 = .ok (.iload_n 1, 1) := by decide +kernel
theorem dX4_meanTrip_6 : decode cX4_meanTrip 6 = .ok (.invokevirtual 106, 3) := by decide +kernel
theorem dX4_meanTrip_9 : decode cX4_meanTrip 9 = .ok (.ireturn, 1) := by decide +kernel
theorem dX4_layMost_0 : decode cX4_layMost 0 = .ok (.aload_n 0, 1) := by decide +kernel
theorem dX4_layMost_1 : decode cX4_layMost 1 = .ok (.invokevirtual 85, 3) := by decide +kernel
theorem dX4_layMost_4 : decode cX4_layMost 4 = .ok (.istore_n 3, 1) := by decide +kernel
theorem dX4_layMost_5 : decode cX4_layMost 5 = .ok (.iload_n 3, 1) := by decide +kernel
theorem dX4_layMost_6 : decode cX4_layMost 6 = .ok (.ifCond .lt 162, 3) := by decide +kernel
theorem dX4_layMost_9 : decode cX4_layMost 9 = .ok (.aload_n 0, 1) := by decide +kernel
theorem dX4_layMost_10 : decode cX4_layMost 10 = .ok (.iload_n 3, 1) := by decide +kernel
theorem dX4_layMost_11 : decode cX4_layMost 11 = .ok (.invokevirtual 89, 3) := by decide +kernel
theorem dX4_layMost_14 : decode cX4_layMost 14 = .ok (.ifCond .eq 148, 3) := by decide +kernel
theorem dX4_layMost_17 : decode cX4_layMost 17 = .ok (.aload_n 0, 1) := by decide +kernel
theorem dX4_layMost_18 : decode cX4_layMost 18 = .ok (.getfield 35, 3) := by decide +kernel
theorem dX4_layMost_21 : decode cX4_layMost 21 = .ok (.iload_n 3, 1) := by decide +kernel
theorem dX4_layMost_22 : decode cX4_layMost 22 = .ok (.iload_n 3, 1) := by decide +kernel
theorem dX4_layMost_23 : decode cX4_layMost 23 = .ok (.aload_n 0, 1) := by decide +kernel
theorem dX4_layMost_24 : decode cX4_layMost 24 = .ok (.invokevirtual 85, 3) := by decide +kernel
theorem dX4_layMost_27 : decode cX4_layMost 27 = .ok (.if_icmp .ne 8, 3) := by decide +kernel
theorem dX4_layMost_30 : decode cX4_layMost 30 = .ok (.ldc 109, 2) := by decide +kernel
theorem dX4_layMost_32 : decode cX4_layMost 32 = .ok (.goto 5, 3) := by decide +kernel
theorem dX4_layMost_35 : decode cX4_layMost 35 = .ok (.ldc 110, 2) := by decide +kernel
theorem dX4_layMost_37 : decode cX4_layMost 37 = .ok (.iastore, 1) := by decide +kernel
theorem dX4_layMost_38 : decode cX4_layMost 38 = .ok (.iconst 0, 1) := by decide +kernel
theorem dX4_layMost_39 : decode cX4_layMost 39 = .ok (.istore 4, 2) := by decide +kernel
theorem dX4_layMost_41 : decode cX4_layMost 41 = .ok (.iload 4, 2) := by decide +kernel
theorem dX4_layMost_43 : decode cX4_layMost 43 = .ok (.aload_n 0, 1) := by decide +kernel
theorem dX4_layMost_44 : decode cX4_layMost 44 = .ok (.getfield 7, 3) := by decide +kernel
theorem dX4_layMost_47 : decode cX4_layMost 47 = .ok (.if_icmp .ge 115, 3) := by decide +kernel
theorem dX4_layMost_50 : decode cX4_layMost 50 = .ok (.iload_n 3, 1) := by decide +kernel
theorem dX4_layMost_51 : decode cX4_layMost 51 = .ok (.iload 4, 2) := by decide +kernel
theorem dX4_layMost_53 : decode cX4_layMost 53 = .ok (.invokestatic 79, 3) := by decide +kernel
theorem dX4_layMost_56 : decode cX4_layMost 56 = .ok (.iconst 1, 1) := by decide +kernel
theorem dX4_layMost_57 : decode cX4_layMost 57 = .ok (.iadd, 1) := by decide +kernel
theorem dX4_layMost_58 : decode cX4_layMost 58 = .ok (.istore 5, 2) := by decide +kernel
theorem dX4_layMost_60 : decode cX4_layMost 60 = .ok (.iload_n 1, 1) := by decide +kernel
theorem dX4_layMost_61 : decode cX4_layMost 61 = .ok (.iload 5, 2) := by decide +kernel
theorem dX4_layMost_63 : decode cX4_layMost 63 = .ok (.imul, 1) := by decide +kernel
theorem dX4_layMost_64 : decode cX4_layMost 64 = .ok (.iload_n 2, 1) := by decide +kernel
theorem dX4_layMost_65 : decode cX4_layMost 65 = .ok (.idiv, 1) := by decide +kernel
theorem dX4_layMost_66 : decode cX4_layMost 66 = .ok (.istore 6, 2) := by decide +kernel
theorem dX4_layMost_68 : decode cX4_layMost 68 = .ok (.iload 5, 2) := by decide +kernel
theorem dX4_layMost_70 : decode cX4_layMost 70 = .ok (.istore 7, 2) := by decide +kernel
theorem dX4_layMost_72 : decode cX4_layMost 72 = .ok (.iload 7, 2) := by decide +kernel
theorem dX4_layMost_74 : decode cX4_layMost 74 = .ok (.aload_n 0, 1) := by decide +kernel
theorem dX4_layMost_75 : decode cX4_layMost 75 = .ok (.getfield 13, 3) := by decide +kernel
theorem dX4_layMost_78 : decode cX4_layMost 78 = .ok (.if_icmp .gt 78, 3) := by decide +kernel
theorem dX4_layMost_81 : decode cX4_layMost 81 = .ok (.aload_n 0, 1) := by decide +kernel
theorem dX4_layMost_82 : decode cX4_layMost 82 = .ok (.getfield 35, 3) := by decide +kernel
theorem dX4_layMost_85 : decode cX4_layMost 85 = .ok (.iload_n 3, 1) := by decide +kernel
theorem dX4_layMost_86 : decode cX4_layMost 86 = .ok (.iload 7, 2) := by decide +kernel
theorem dX4_layMost_88 : decode cX4_layMost 88 = .ok (.iload 5, 2) := by decide +kernel
theorem dX4_layMost_90 : decode cX4_layMost 90 = .ok (.isub, 1) := by decide +kernel
theorem dX4_layMost_91 : decode cX4_layMost 91 = .ok (.iconst 1, 1) := by decide +kernel
theorem dX4_layMost_92 : decode cX4_layMost 92 = .ok (.iadd, 1) := by decide +kernel
theorem dX4_layMost_93 : decode cX4_layMost 93 = .ok (.iload 4, 2) := by decide +kernel
theorem dX4_layMost_95 : decode cX4_layMost 95 = .ok (.invokestatic 76, 3) := by decide +kernel
theorem dX4_layMost_98 : decode cX4_layMost 98 = .ok (.imul, 1) := by decide +kernel
theorem dX4_layMost_99 : decode cX4_layMost 99 = .ok (.iadd, 1) := by decide +kernel
theorem dX4_layMost_100 : decode cX4_layMost 100 = .ok (.iaload, 1) := by decide +kernel
theorem dX4_layMost_101 : decode cX4_layMost 101 = .ok (.iload 7, 2) := by decide +kernel
theorem dX4_layMost_103 : decode cX4_layMost 103 = .ok (.isub, 1) := by decide +kernel
theorem dX4_layMost_104 : decode cX4_layMost 104 = .ok (.istore 8, 2) := by decide +kernel
theorem dX4_layMost_106 : decode cX4_layMost 106 = .ok (.iload 8, 2) := by decide +kernel
theorem dX4_layMost_108 : decode cX4_layMost 108 = .ok (.iload 6, 2) := by decide +kernel
theorem dX4_layMost_110 : decode cX4_layMost 110 = .ok (.if_icmp .ge 8, 3) := by decide +kernel
theorem dX4_layMost_113 : decode cX4_layMost 113 = .ok (.iload 8, 2) := by decide +kernel
theorem dX4_layMost_115 : decode cX4_layMost 115 = .ok (.goto 5, 3) := by decide +kernel
theorem dX4_layMost_118 : decode cX4_layMost 118 = .ok (.iload 6, 2) := by decide +kernel
theorem dX4_layMost_120 : decode cX4_layMost 120 = .ok (.istore 9, 2) := by decide +kernel
theorem dX4_layMost_122 : decode cX4_layMost 122 = .ok (.aload_n 0, 1) := by decide +kernel
theorem dX4_layMost_123 : decode cX4_layMost 123 = .ok (.getfield 35, 3) := by decide +kernel
theorem dX4_layMost_126 : decode cX4_layMost 126 = .ok (.iload_n 3, 1) := by decide +kernel
theorem dX4_layMost_127 : decode cX4_layMost 127 = .ok (.iload 9, 2) := by decide +kernel
theorem dX4_layMost_129 : decode cX4_layMost 129 = .ok (.aload_n 0, 1) := by decide +kernel
theorem dX4_layMost_130 : decode cX4_layMost 130 = .ok (.getfield 35, 3) := by decide +kernel
theorem dX4_layMost_133 : decode cX4_layMost 133 = .ok (.iload_n 3, 1) := by decide +kernel
theorem dX4_layMost_134 : decode cX4_layMost 134 = .ok (.iaload, 1) := by decide +kernel
theorem dX4_layMost_135 : decode cX4_layMost 135 = .ok (.if_icmp .le 8, 3) := by decide +kernel
theorem dX4_layMost_138 : decode cX4_layMost 138 = .ok (.iload 9, 2) := by decide +kernel
theorem dX4_layMost_140 : decode cX4_layMost 140 = .ok (.goto 9, 3) := by decide +kernel
theorem dX4_layMost_143 : decode cX4_layMost 143 = .ok (.aload_n 0, 1) := by decide +kernel
theorem dX4_layMost_144 : decode cX4_layMost 144 = .ok (.getfield 35, 3) := by decide +kernel
theorem dX4_layMost_147 : decode cX4_layMost 147 = .ok (.iload_n 3, 1) := by decide +kernel
theorem dX4_layMost_148 : decode cX4_layMost 148 = .ok (.iaload, 1) := by decide +kernel
theorem dX4_layMost_149 : decode cX4_layMost 149 = .ok (.iastore, 1) := by decide +kernel
theorem dX4_layMost_150 : decode cX4_layMost 150 = .ok (.iinc 7 1, 3) := by decide +kernel
theorem dX4_layMost_153 : decode cX4_layMost 153 = .ok (.goto (-81), 3) := by decide +kernel
theorem dX4_layMost_156 : decode cX4_layMost 156 = .ok (.iinc 4 1, 3) := by decide +kernel
theorem dX4_layMost_159 : decode cX4_layMost 159 = .ok (.goto (-118), 3) := by decide +kernel
theorem dX4_layMost_162 : decode cX4_layMost 162 = .ok (.iinc 3 (-1), 3) := by decide +kernel
theorem dX4_layMost_165 : decode cX4_layMost 165 = .ok (.goto (-160), 3) := by decide +kernel
theorem dX4_layMost_168 : decode cX4_layMost 168 = .ok (.return_, 1) := by decide +kernel
theorem dX4_findWorst_0 : decode cX4_findWorst 0 = .ok (.aload_n 0, 1) := by decide +kernel
theorem dX4_findWorst_1 : decode cX4_findWorst 1 = .ok (.getfield 111, 3) := by decide +kernel
theorem dX4_findWorst_4 : decode cX4_findWorst 4 = .ok (.bipush 10, 2) := by decide +kernel
theorem dX4_findWorst_6 : decode cX4_findWorst 6 = .ok (.aload_n 0, 1) := by decide +kernel
theorem dX4_findWorst_7 : decode cX4_findWorst 7 = .ok (.getfield 7, 3) := by decide +kernel
theorem dX4_findWorst_10 : decode cX4_findWorst 10 = .ok (.imul, 1) := by decide +kernel
theorem dX4_findWorst_11 : decode cX4_findWorst 11 = .ok (.aload_n 0, 1) := by decide +kernel
theorem dX4_findWorst_12 : decode cX4_findWorst 12 = .ok (.getfield 13, 3) := by decide +kernel
theorem dX4_findWorst_15 : decode cX4_findWorst 15 = .ok (.iadd, 1) := by decide +kernel
theorem dX4_findWorst_16 : decode cX4_findWorst 16 = .ok (.if_icmp .ne 4, 3) := by decide +kernel
theorem dX4_findWorst_19 : decode cX4_findWorst 19 = .ok (.return_, 1) := by decide +kernel
theorem dX4_findWorst_20 : decode cX4_findWorst 20 = .ok (.aload_n 0, 1) := by decide +kernel
theorem dX4_findWorst_21 : decode cX4_findWorst 21 = .ok (.bipush 10, 2) := by decide +kernel
theorem dX4_findWorst_23 : decode cX4_findWorst 23 = .ok (.aload_n 0, 1) := by decide +kernel
theorem dX4_findWorst_24 : decode cX4_findWorst 24 = .ok (.getfield 7, 3) := by decide +kernel
theorem dX4_findWorst_27 : decode cX4_findWorst 27 = .ok (.imul, 1) := by decide +kernel
theorem dX4_findWorst_28 : decode cX4_findWorst 28 = .ok (.aload_n 0, 1) := by decide +kernel
theorem dX4_findWorst_29 : decode cX4_findWorst 29 = .ok (.getfield 13, 3) := by decide +kernel
theorem dX4_findWorst_32 : decode cX4_findWorst 32 = .ok (.iadd, 1) := by decide +kernel
theorem dX4_findWorst_33 : decode cX4_findWorst 33 = .ok (.putfield 111, 3) := by decide +kernel
theorem dX4_findWorst_36 : decode cX4_findWorst 36 = .ok (.aload_n 0, 1) := by decide +kernel
theorem dX4_findWorst_37 : decode cX4_findWorst 37 = .ok (.ldc 109, 2) := by decide +kernel
theorem dX4_findWorst_39 : decode cX4_findWorst 39 = .ok (.putfield 114, 3) := by decide +kernel
theorem dX4_findWorst_42 : decode cX4_findWorst 42 = .ok (.aload_n 0, 1) := by decide +kernel
theorem dX4_findWorst_43 : decode cX4_findWorst 43 = .ok (.iconst 1, 1) := by decide +kernel
theorem dX4_findWorst_44 : decode cX4_findWorst 44 = .ok (.putfield 117, 3) := by decide +kernel
theorem dX4_findWorst_47 : decode cX4_findWorst 47 = .ok (.iconst 1, 1) := by decide +kernel
theorem dX4_findWorst_48 : decode cX4_findWorst 48 = .ok (.istore_n 1, 1) := by decide +kernel
theorem dX4_findWorst_49 : decode cX4_findWorst 49 = .ok (.iload_n 1, 1) := by decide +kernel
theorem dX4_findWorst_50 : decode cX4_findWorst 50 = .ok (.aload_n 0, 1) := by decide +kernel
theorem dX4_findWorst_51 : decode cX4_findWorst 51 = .ok (.getfield 13, 3) := by decide +kernel
theorem dX4_findWorst_54 : decode cX4_findWorst 54 = .ok (.if_icmp .gt 82, 3) := by decide +kernel
theorem dX4_findWorst_57 : decode cX4_findWorst 57 = .ok (.iconst (-1), 1) := by decide +kernel
theorem dX4_findWorst_58 : decode cX4_findWorst 58 = .ok (.istore_n 2, 1) := by decide +kernel
theorem dX4_findWorst_59 : decode cX4_findWorst 59 = .ok (.sipush 400, 3) := by decide +kernel
theorem dX4_findWorst_62 : decode cX4_findWorst 62 = .ok (.istore_n 3, 1) := by decide +kernel
theorem dX4_findWorst_63 : decode cX4_findWorst 63 = .ok (.iload_n 3, 1) := by decide +kernel
theorem dX4_findWorst_64 : decode cX4_findWorst 64 = .ok (.iload_n 2, 1) := by decide +kernel
theorem dX4_findWorst_65 : decode cX4_findWorst 65 = .ok (.isub, 1) := by decide +kernel
theorem dX4_findWorst_66 : decode cX4_findWorst 66 = .ok (.iconst 1, 1) := by decide +kernel
theorem dX4_findWorst_67 : decode cX4_findWorst 67 = .ok (.if_icmp .le 38, 3) := by decide +kernel
theorem dX4_findWorst_70 : decode cX4_findWorst 70 = .ok (.iload_n 2, 1) := by decide +kernel
theorem dX4_findWorst_71 : decode cX4_findWorst 71 = .ok (.iload_n 3, 1) := by decide +kernel
theorem dX4_findWorst_72 : decode cX4_findWorst 72 = .ok (.iadd, 1) := by decide +kernel
theorem dX4_findWorst_73 : decode cX4_findWorst 73 = .ok (.iconst 2, 1) := by decide +kernel
theorem dX4_findWorst_74 : decode cX4_findWorst 74 = .ok (.idiv, 1) := by decide +kernel
theorem dX4_findWorst_75 : decode cX4_findWorst 75 = .ok (.istore 4, 2) := by decide +kernel
theorem dX4_findWorst_77 : decode cX4_findWorst 77 = .ok (.aload_n 0, 1) := by decide +kernel
theorem dX4_findWorst_78 : decode cX4_findWorst 78 = .ok (.iload 4, 2) := by decide +kernel
theorem dX4_findWorst_80 : decode cX4_findWorst 80 = .ok (.iload_n 1, 1) := by decide +kernel
theorem dX4_findWorst_81 : decode cX4_findWorst 81 = .ok (.invokevirtual 120, 3) := by decide +kernel
theorem dX4_findWorst_84 : decode cX4_findWorst 84 = .ok (.aload_n 0, 1) := by decide +kernel
theorem dX4_findWorst_85 : decode cX4_findWorst 85 = .ok (.getfield 35, 3) := by decide +kernel
theorem dX4_findWorst_88 : decode cX4_findWorst 88 = .ok (.iconst 0, 1) := by decide +kernel
theorem dX4_findWorst_89 : decode cX4_findWorst 89 = .ok (.iaload, 1) := by decide +kernel
theorem dX4_findWorst_90 : decode cX4_findWorst 90 = .ok (.ifCond .lt 9, 3) := by decide +kernel
theorem dX4_findWorst_93 : decode cX4_findWorst 93 = .ok (.iload 4, 2) := by decide +kernel
theorem dX4_findWorst_95 : decode cX4_findWorst 95 = .ok (.istore_n 3, 1) := by decide +kernel
theorem dX4_findWorst_96 : decode cX4_findWorst 96 = .ok (.goto 6, 3) := by decide +kernel
theorem dX4_findWorst_99 : decode cX4_findWorst 99 = .ok (.iload 4, 2) := by decide +kernel
theorem dX4_findWorst_101 : decode cX4_findWorst 101 = .ok (.istore_n 2, 1) := by decide +kernel
theorem dX4_findWorst_102 : decode cX4_findWorst 102 = .ok (.goto (-39), 3) := by decide +kernel
theorem dX4_findWorst_105 : decode cX4_findWorst 105 = .ok (.iload_n 3, 1) := by decide +kernel
theorem dX4_findWorst_106 : decode cX4_findWorst 106 = .ok (.aload_n 0, 1) := by decide +kernel
theorem dX4_findWorst_107 : decode cX4_findWorst 107 = .ok (.getfield 117, 3) := by decide +kernel
theorem dX4_findWorst_110 : decode cX4_findWorst 110 = .ok (.imul, 1) := by decide +kernel
theorem dX4_findWorst_111 : decode cX4_findWorst 111 = .ok (.aload_n 0, 1) := by decide +kernel
theorem dX4_findWorst_112 : decode cX4_findWorst 112 = .ok (.getfield 114, 3) := by decide +kernel
theorem dX4_findWorst_115 : decode cX4_findWorst 115 = .ok (.iload_n 1, 1) := by decide +kernel
theorem dX4_findWorst_116 : decode cX4_findWorst 116 = .ok (.imul, 1) := by decide +kernel
theorem dX4_findWorst_117 : decode cX4_findWorst 117 = .ok (.if_icmp .ge 13, 3) := by decide +kernel
theorem dX4_findWorst_120 : decode cX4_findWorst 120 = .ok (.aload_n 0, 1) := by decide +kernel
theorem dX4_findWorst_121 : decode cX4_findWorst 121 = .ok (.iload_n 3, 1) := by decide +kernel
theorem dX4_findWorst_122 : decode cX4_findWorst 122 = .ok (.putfield 114, 3) := by decide +kernel
theorem dX4_findWorst_125 : decode cX4_findWorst 125 = .ok (.aload_n 0, 1) := by decide +kernel
theorem dX4_findWorst_126 : decode cX4_findWorst 126 = .ok (.iload_n 1, 1) := by decide +kernel
theorem dX4_findWorst_127 : decode cX4_findWorst 127 = .ok (.putfield 117, 3) := by decide +kernel
theorem dX4_findWorst_130 : decode cX4_findWorst 130 = .ok (.iinc 1 1, 3) := by decide +kernel
theorem dX4_findWorst_133 : decode cX4_findWorst 133 = .ok (.goto (-84), 3) := by decide +kernel
theorem dX4_findWorst_136 : decode cX4_findWorst 136 = .ok (.return_, 1) := by decide +kernel
theorem dX4_leastWorst_0 : decode cX4_leastWorst 0 = .ok (.iload_n 1, 1) := by decide +kernel
theorem dX4_leastWorst_1 : decode cX4_leastWorst 1 = .ok (.iconst 0, 1) := by decide +kernel
theorem dX4_leastWorst_2 : decode cX4_leastWorst 2 = .ok (.iconst 1, 1) := by decide +kernel
theorem dX4_leastWorst_3 : decode cX4_leastWorst 3 = .ok (.invokestatic 47, 3) := by decide +kernel
theorem dX4_leastWorst_6 : decode cX4_leastWorst 6 = .ok (.ifCond .ne 6, 3) := by decide +kernel
theorem dX4_leastWorst_9 : decode cX4_leastWorst 9 = .ok (.bipush (-2), 2) := by decide +kernel
theorem dX4_leastWorst_11 : decode cX4_leastWorst 11 = .ok (.ireturn, 1) := by decide +kernel
theorem dX4_leastWorst_12 : decode cX4_leastWorst 12 = .ok (.aload_n 0, 1) := by decide +kernel
theorem dX4_leastWorst_13 : decode cX4_leastWorst 13 = .ok (.invokevirtual 124, 3) := by decide +kernel
theorem dX4_leastWorst_16 : decode cX4_leastWorst 16 = .ok (.aload_n 0, 1) := by decide +kernel
theorem dX4_leastWorst_17 : decode cX4_leastWorst 17 = .ok (.getfield 16, 3) := by decide +kernel
theorem dX4_leastWorst_20 : decode cX4_leastWorst 20 = .ok (.aload_n 0, 1) := by decide +kernel
theorem dX4_leastWorst_21 : decode cX4_leastWorst 21 = .ok (.getfield 117, 3) := by decide +kernel
theorem dX4_leastWorst_24 : decode cX4_leastWorst 24 = .ok (.imul, 1) := by decide +kernel
theorem dX4_leastWorst_25 : decode cX4_leastWorst 25 = .ok (.aload_n 0, 1) := by decide +kernel
theorem dX4_leastWorst_26 : decode cX4_leastWorst 26 = .ok (.getfield 16, 3) := by decide +kernel
theorem dX4_leastWorst_29 : decode cX4_leastWorst 29 = .ok (.aload_n 0, 1) := by decide +kernel
theorem dX4_leastWorst_30 : decode cX4_leastWorst 30 = .ok (.getfield 19, 3) := by decide +kernel
theorem dX4_leastWorst_33 : decode cX4_leastWorst 33 = .ok (.iadd, 1) := by decide +kernel
theorem dX4_leastWorst_34 : decode cX4_leastWorst 34 = .ok (.aload_n 0, 1) := by decide +kernel
theorem dX4_leastWorst_35 : decode cX4_leastWorst 35 = .ok (.getfield 114, 3) := by decide +kernel
theorem dX4_leastWorst_38 : decode cX4_leastWorst 38 = .ok (.imul, 1) := by decide +kernel
theorem dX4_leastWorst_39 : decode cX4_leastWorst 39 = .ok (.iadd, 1) := by decide +kernel
theorem dX4_leastWorst_40 : decode cX4_leastWorst 40 = .ok (.aload_n 0, 1) := by decide +kernel
theorem dX4_leastWorst_41 : decode cX4_leastWorst 41 = .ok (.getfield 16, 3) := by decide +kernel
theorem dX4_leastWorst_44 : decode cX4_leastWorst 44 = .ok (.aload_n 0, 1) := by decide +kernel
theorem dX4_leastWorst_45 : decode cX4_leastWorst 45 = .ok (.getfield 117, 3) := by decide +kernel
theorem dX4_leastWorst_48 : decode cX4_leastWorst 48 = .ok (.imul, 1) := by decide +kernel
theorem dX4_leastWorst_49 : decode cX4_leastWorst 49 = .ok (.iload_n 1, 1) := by decide +kernel
theorem dX4_leastWorst_50 : decode cX4_leastWorst 50 = .ok (.invokestatic 69, 3) := by decide +kernel
theorem dX4_leastWorst_53 : decode cX4_leastWorst 53 = .ok (.ireturn, 1) := by decide +kernel
theorem dX4_layWorstPlan_0 : decode cX4_layWorstPlan 0 = .ok (.aload_n 0, 1) := by decide +kernel
theorem dX4_layWorstPlan_1 : decode cX4_layWorstPlan 1 = .ok (.invokevirtual 124, 3) := by decide +kernel
theorem dX4_layWorstPlan_4 : decode cX4_layWorstPlan 4 = .ok (.aload_n 0, 1) := by decide +kernel
theorem dX4_layWorstPlan_5 : decode cX4_layWorstPlan 5 = .ok (.aload_n 0, 1) := by decide +kernel
theorem dX4_layWorstPlan_6 : decode cX4_layWorstPlan 6 = .ok (.getfield 114, 3) := by decide +kernel
theorem dX4_layWorstPlan_9 : decode cX4_layWorstPlan 9 = .ok (.aload_n 0, 1) := by decide +kernel
theorem dX4_layWorstPlan_10 : decode cX4_layWorstPlan 10 = .ok (.getfield 117, 3) := by decide +kernel
theorem dX4_layWorstPlan_13 : decode cX4_layWorstPlan 13 = .ok (.invokevirtual 120, 3) := by decide +kernel
theorem dX4_layWorstPlan_16 : decode cX4_layWorstPlan 16 = .ok (.aload_n 0, 1) := by decide +kernel
theorem dX4_layWorstPlan_17 : decode cX4_layWorstPlan 17 = .ok (.iconst 0, 1) := by decide +kernel
theorem dX4_layWorstPlan_18 : decode cX4_layWorstPlan 18 = .ok (.putfield 100, 3) := by decide +kernel
theorem dX4_layWorstPlan_21 : decode cX4_layWorstPlan 21 = .ok (.iconst 0, 1) := by decide +kernel
theorem dX4_layWorstPlan_22 : decode cX4_layWorstPlan 22 = .ok (.istore_n 1, 1) := by decide +kernel
theorem dX4_layWorstPlan_23 : decode cX4_layWorstPlan 23 = .ok (.iconst 0, 1) := by decide +kernel
theorem dX4_layWorstPlan_24 : decode cX4_layWorstPlan 24 = .ok (.istore_n 2, 1) := by decide +kernel
theorem dX4_layWorstPlan_25 : decode cX4_layWorstPlan 25 = .ok (.iload_n 1, 1) := by decide +kernel
theorem dX4_layWorstPlan_26 : decode cX4_layWorstPlan 26 = .ok (.aload_n 0, 1) := by decide +kernel
theorem dX4_layWorstPlan_27 : decode cX4_layWorstPlan 27 = .ok (.invokevirtual 85, 3) := by decide +kernel
theorem dX4_layWorstPlan_30 : decode cX4_layWorstPlan 30 = .ok (.if_icmp .eq 157, 3) := by decide +kernel
theorem dX4_layWorstPlan_33 : decode cX4_layWorstPlan 33 = .ok (.iconst (-1), 1) := by decide +kernel
theorem dX4_layWorstPlan_34 : decode cX4_layWorstPlan 34 = .ok (.istore_n 3, 1) := by decide +kernel
theorem dX4_layWorstPlan_35 : decode cX4_layWorstPlan 35 = .ok (.iconst 0, 1) := by decide +kernel
theorem dX4_layWorstPlan_36 : decode cX4_layWorstPlan 36 = .ok (.istore 4, 2) := by decide +kernel
theorem dX4_layWorstPlan_38 : decode cX4_layWorstPlan 38 = .ok (.iload 4, 2) := by decide +kernel
theorem dX4_layWorstPlan_40 : decode cX4_layWorstPlan 40 = .ok (.aload_n 0, 1) := by decide +kernel
theorem dX4_layWorstPlan_41 : decode cX4_layWorstPlan 41 = .ok (.getfield 7, 3) := by decide +kernel
theorem dX4_layWorstPlan_44 : decode cX4_layWorstPlan 44 = .ok (.if_icmp .ge 113, 3) := by decide +kernel
theorem dX4_layWorstPlan_47 : decode cX4_layWorstPlan 47 = .ok (.iload_n 3, 1) := by decide +kernel
theorem dX4_layWorstPlan_48 : decode cX4_layWorstPlan 48 = .ok (.ifCond .ge 109, 3) := by decide +kernel
theorem dX4_layWorstPlan_51 : decode cX4_layWorstPlan 51 = .ok (.iload_n 1, 1) := by decide +kernel
theorem dX4_layWorstPlan_52 : decode cX4_layWorstPlan 52 = .ok (.iload 4, 2) := by decide +kernel
theorem dX4_layWorstPlan_54 : decode cX4_layWorstPlan 54 = .ok (.invokestatic 79, 3) := by decide +kernel
theorem dX4_layWorstPlan_57 : decode cX4_layWorstPlan 57 = .ok (.iconst 1, 1) := by decide +kernel
theorem dX4_layWorstPlan_58 : decode cX4_layWorstPlan 58 = .ok (.iadd, 1) := by decide +kernel
theorem dX4_layWorstPlan_59 : decode cX4_layWorstPlan 59 = .ok (.istore 5, 2) := by decide +kernel
theorem dX4_layWorstPlan_61 : decode cX4_layWorstPlan 61 = .ok (.iload 5, 2) := by decide +kernel
theorem dX4_layWorstPlan_63 : decode cX4_layWorstPlan 63 = .ok (.istore 6, 2) := by decide +kernel
theorem dX4_layWorstPlan_65 : decode cX4_layWorstPlan 65 = .ok (.iload 6, 2) := by decide +kernel
theorem dX4_layWorstPlan_67 : decode cX4_layWorstPlan 67 = .ok (.aload_n 0, 1) := by decide +kernel
theorem dX4_layWorstPlan_68 : decode cX4_layWorstPlan 68 = .ok (.getfield 13, 3) := by decide +kernel
theorem dX4_layWorstPlan_71 : decode cX4_layWorstPlan 71 = .ok (.if_icmp .gt 80, 3) := by decide +kernel
theorem dX4_layWorstPlan_74 : decode cX4_layWorstPlan 74 = .ok (.iload_n 3, 1) := by decide +kernel
theorem dX4_layWorstPlan_75 : decode cX4_layWorstPlan 75 = .ok (.ifCond .ge 76, 3) := by decide +kernel
theorem dX4_layWorstPlan_78 : decode cX4_layWorstPlan 78 = .ok (.iload_n 1, 1) := by decide +kernel
theorem dX4_layWorstPlan_79 : decode cX4_layWorstPlan 79 = .ok (.iload 6, 2) := by decide +kernel
theorem dX4_layWorstPlan_81 : decode cX4_layWorstPlan 81 = .ok (.iload 5, 2) := by decide +kernel
theorem dX4_layWorstPlan_83 : decode cX4_layWorstPlan 83 = .ok (.isub, 1) := by decide +kernel
theorem dX4_layWorstPlan_84 : decode cX4_layWorstPlan 84 = .ok (.iconst 1, 1) := by decide +kernel
theorem dX4_layWorstPlan_85 : decode cX4_layWorstPlan 85 = .ok (.iadd, 1) := by decide +kernel
theorem dX4_layWorstPlan_86 : decode cX4_layWorstPlan 86 = .ok (.iload 4, 2) := by decide +kernel
theorem dX4_layWorstPlan_88 : decode cX4_layWorstPlan 88 = .ok (.invokestatic 76, 3) := by decide +kernel
theorem dX4_layWorstPlan_91 : decode cX4_layWorstPlan 91 = .ok (.imul, 1) := by decide +kernel
theorem dX4_layWorstPlan_92 : decode cX4_layWorstPlan 92 = .ok (.iadd, 1) := by decide +kernel
theorem dX4_layWorstPlan_93 : decode cX4_layWorstPlan 93 = .ok (.istore 7, 2) := by decide +kernel
theorem dX4_layWorstPlan_95 : decode cX4_layWorstPlan 95 = .ok (.iload_n 2, 1) := by decide +kernel
theorem dX4_layWorstPlan_96 : decode cX4_layWorstPlan 96 = .ok (.aload_n 0, 1) := by decide +kernel
theorem dX4_layWorstPlan_97 : decode cX4_layWorstPlan 97 = .ok (.getfield 117, 3) := by decide +kernel
theorem dX4_layWorstPlan_100 : decode cX4_layWorstPlan 100 = .ok (.imul, 1) := by decide +kernel
theorem dX4_layWorstPlan_101 : decode cX4_layWorstPlan 101 = .ok (.aload_n 0, 1) := by decide +kernel
theorem dX4_layWorstPlan_102 : decode cX4_layWorstPlan 102 = .ok (.getfield 114, 3) := by decide +kernel
theorem dX4_layWorstPlan_105 : decode cX4_layWorstPlan 105 = .ok (.iload 5, 2) := by decide +kernel
theorem dX4_layWorstPlan_107 : decode cX4_layWorstPlan 107 = .ok (.imul, 1) := by decide +kernel
theorem dX4_layWorstPlan_108 : decode cX4_layWorstPlan 108 = .ok (.if_icmp .gt 37, 3) := by decide +kernel
theorem dX4_layWorstPlan_111 : decode cX4_layWorstPlan 111 = .ok (.iload_n 2, 1) := by decide +kernel
theorem dX4_layWorstPlan_112 : decode cX4_layWorstPlan 112 = .ok (.iload 6, 2) := by decide +kernel
theorem dX4_layWorstPlan_114 : decode cX4_layWorstPlan 114 = .ok (.iadd, 1) := by decide +kernel
theorem dX4_layWorstPlan_115 : decode cX4_layWorstPlan 115 = .ok (.aload_n 0, 1) := by decide +kernel
theorem dX4_layWorstPlan_116 : decode cX4_layWorstPlan 116 = .ok (.getfield 35, 3) := by decide +kernel
theorem dX4_layWorstPlan_119 : decode cX4_layWorstPlan 119 = .ok (.iload 7, 2) := by decide +kernel
theorem dX4_layWorstPlan_121 : decode cX4_layWorstPlan 121 = .ok (.iaload, 1) := by decide +kernel
theorem dX4_layWorstPlan_122 : decode cX4_layWorstPlan 122 = .ok (.if_icmp .gt 23, 3) := by decide +kernel
theorem dX4_layWorstPlan_125 : decode cX4_layWorstPlan 125 = .ok (.iload 7, 2) := by decide +kernel
theorem dX4_layWorstPlan_127 : decode cX4_layWorstPlan 127 = .ok (.istore_n 3, 1) := by decide +kernel
theorem dX4_layWorstPlan_128 : decode cX4_layWorstPlan 128 = .ok (.aload_n 0, 1) := by decide +kernel
theorem dX4_layWorstPlan_129 : decode cX4_layWorstPlan 129 = .ok (.getfield 38, 3) := by decide +kernel
theorem dX4_layWorstPlan_132 : decode cX4_layWorstPlan 132 = .ok (.aload_n 0, 1) := by decide +kernel
theorem dX4_layWorstPlan_133 : decode cX4_layWorstPlan 133 = .ok (.getfield 100, 3) := by decide +kernel
theorem dX4_layWorstPlan_136 : decode cX4_layWorstPlan 136 = .ok (.bipush 10, 2) := by decide +kernel
theorem dX4_layWorstPlan_138 : decode cX4_layWorstPlan 138 = .ok (.iload 4, 2) := by decide +kernel
theorem dX4_layWorstPlan_140 : decode cX4_layWorstPlan 140 = .ok (.imul, 1) := by decide +kernel
theorem dX4_layWorstPlan_141 : decode cX4_layWorstPlan 141 = .ok (.iload 6, 2) := by decide +kernel
theorem dX4_layWorstPlan_143 : decode cX4_layWorstPlan 143 = .ok (.iadd, 1) := by decide +kernel
theorem dX4_layWorstPlan_144 : decode cX4_layWorstPlan 144 = .ok (.iastore, 1) := by decide +kernel
theorem dX4_layWorstPlan_145 : decode cX4_layWorstPlan 145 = .ok (.iinc 6 1, 3) := by decide +kernel
theorem dX4_layWorstPlan_148 : decode cX4_layWorstPlan 148 = .ok (.goto (-83), 3) := by decide +kernel
theorem dX4_layWorstPlan_151 : decode cX4_layWorstPlan 151 = .ok (.iinc 4 1, 3) := by decide +kernel
theorem dX4_layWorstPlan_154 : decode cX4_layWorstPlan 154 = .ok (.goto (-116), 3) := by decide +kernel
theorem dX4_layWorstPlan_157 : decode cX4_layWorstPlan 157 = .ok (.iload_n 2, 1) := by decide +kernel
theorem dX4_layWorstPlan_158 : decode cX4_layWorstPlan 158 = .ok (.aload_n 0, 1) := by decide +kernel
theorem dX4_layWorstPlan_159 : decode cX4_layWorstPlan 159 = .ok (.getfield 38, 3) := by decide +kernel
theorem dX4_layWorstPlan_162 : decode cX4_layWorstPlan 162 = .ok (.aload_n 0, 1) := by decide +kernel
theorem dX4_layWorstPlan_163 : decode cX4_layWorstPlan 163 = .ok (.getfield 100, 3) := by decide +kernel
theorem dX4_layWorstPlan_166 : decode cX4_layWorstPlan 166 = .ok (.iaload, 1) := by decide +kernel
theorem dX4_layWorstPlan_167 : decode cX4_layWorstPlan 167 = .ok (.bipush 10, 2) := by decide +kernel
theorem dX4_layWorstPlan_169 : decode cX4_layWorstPlan 169 = .ok (.irem, 1) := by decide +kernel
theorem dX4_layWorstPlan_170 : decode cX4_layWorstPlan 170 = .ok (.iadd, 1) := by decide +kernel
theorem dX4_layWorstPlan_171 : decode cX4_layWorstPlan 171 = .ok (.istore_n 2, 1) := by decide +kernel
theorem dX4_layWorstPlan_172 : decode cX4_layWorstPlan 172 = .ok (.aload_n 0, 1) := by decide +kernel
theorem dX4_layWorstPlan_173 : decode cX4_layWorstPlan 173 = .ok (.dup, 1) := by decide +kernel
theorem dX4_layWorstPlan_174 : decode cX4_layWorstPlan 174 = .ok (.getfield 100, 3) := by decide +kernel
theorem dX4_layWorstPlan_177 : decode cX4_layWorstPlan 177 = .ok (.iconst 1, 1) := by decide +kernel
theorem dX4_layWorstPlan_178 : decode cX4_layWorstPlan 178 = .ok (.iadd, 1) := by decide +kernel
theorem dX4_layWorstPlan_179 : decode cX4_layWorstPlan 179 = .ok (.putfield 100, 3) := by decide +kernel
theorem dX4_layWorstPlan_182 : decode cX4_layWorstPlan 182 = .ok (.iload_n 3, 1) := by decide +kernel
theorem dX4_layWorstPlan_183 : decode cX4_layWorstPlan 183 = .ok (.istore_n 1, 1) := by decide +kernel
theorem dX4_layWorstPlan_184 : decode cX4_layWorstPlan 184 = .ok (.goto (-159), 3) := by decide +kernel
theorem dX4_layWorstPlan_187 : decode cX4_layWorstPlan 187 = .ok (.return_, 1) := by decide +kernel
theorem dX4_worstTrip_0 : decode cX4_worstTrip 0 = .ok (.aload_n 0, 1) := by decide +kernel
theorem dX4_worstTrip_1 : decode cX4_worstTrip 1 = .ok (.invokevirtual 127, 3) := by decide +kernel
theorem dX4_worstTrip_4 : decode cX4_worstTrip 4 = .ok (.aload_n 0, 1) := by decide +kernel
theorem dX4_worstTrip_5 : decode cX4_worstTrip 5 = .ok (.iload_n 1, 1) := by decide +kernel
theorem dX4_worstTrip_6 : decode cX4_worstTrip 6 = .ok (.invokevirtual 106, 3) := by decide +kernel
theorem dX4_worstTrip_9 : decode cX4_worstTrip 9 = .ok (.ireturn, 1) := by decide +kernel
theorem dX4_within_0 : decode cX4_within 0 = .ok (.iload_n 1, 1) := by decide +kernel
theorem dX4_within_1 : decode cX4_within 1 = .ok (.iconst 1, 1) := by decide +kernel
theorem dX4_within_2 : decode cX4_within 2 = .ok (.sipush 10000, 3) := by decide +kernel
theorem dX4_within_5 : decode cX4_within 5 = .ok (.invokestatic 47, 3) := by decide +kernel
theorem dX4_within_8 : decode cX4_within 8 = .ok (.ifCond .eq 14, 3) := by decide +kernel
theorem dX4_within_11 : decode cX4_within 11 = .ok (.iload_n 2, 1) := by decide +kernel
theorem dX4_within_12 : decode cX4_within 12 = .ok (.iconst 1, 1) := by decide +kernel
theorem dX4_within_13 : decode cX4_within 13 = .ok (.sipush 10000, 3) := by decide +kernel
theorem dX4_within_16 : decode cX4_within 16 = .ok (.invokestatic 47, 3) := by decide +kernel
theorem dX4_within_19 : decode cX4_within 19 = .ok (.ifCond .ne 6, 3) := by decide +kernel
theorem dX4_within_22 : decode cX4_within 22 = .ok (.bipush (-2), 2) := by decide +kernel
theorem dX4_within_24 : decode cX4_within 24 = .ok (.ireturn, 1) := by decide +kernel
theorem dX4_within_25 : decode cX4_within 25 = .ok (.iload_n 1, 1) := by decide +kernel
theorem dX4_within_26 : decode cX4_within 26 = .ok (.iload_n 2, 1) := by decide +kernel
theorem dX4_within_27 : decode cX4_within 27 = .ok (.if_icmp .ge 5, 3) := by decide +kernel
theorem dX4_within_30 : decode cX4_within 30 = .ok (.iconst 0, 1) := by decide +kernel
theorem dX4_within_31 : decode cX4_within 31 = .ok (.ireturn, 1) := by decide +kernel
theorem dX4_within_32 : decode cX4_within 32 = .ok (.aload_n 0, 1) := by decide +kernel
theorem dX4_within_33 : decode cX4_within 33 = .ok (.iload_n 1, 1) := by decide +kernel
theorem dX4_within_34 : decode cX4_within 34 = .ok (.iload_n 2, 1) := by decide +kernel
theorem dX4_within_35 : decode cX4_within 35 = .ok (.isub, 1) := by decide +kernel
theorem dX4_within_36 : decode cX4_within 36 = .ok (.aload_n 0, 1) := by decide +kernel
theorem dX4_within_37 : decode cX4_within 37 = .ok (.getfield 16, 3) := by decide +kernel
theorem dX4_within_40 : decode cX4_within 40 = .ok (.imul, 1) := by decide +kernel
theorem dX4_within_41 : decode cX4_within 41 = .ok (.iload_n 2, 1) := by decide +kernel
theorem dX4_within_42 : decode cX4_within 42 = .ok (.aload_n 0, 1) := by decide +kernel
theorem dX4_within_43 : decode cX4_within 43 = .ok (.getfield 16, 3) := by decide +kernel
theorem dX4_within_46 : decode cX4_within 46 = .ok (.aload_n 0, 1) := by decide +kernel
theorem dX4_within_47 : decode cX4_within 47 = .ok (.getfield 19, 3) := by decide +kernel
theorem dX4_within_50 : decode cX4_within 50 = .ok (.iadd, 1) := by decide +kernel
theorem dX4_within_51 : decode cX4_within 51 = .ok (.imul, 1) := by decide +kernel
theorem dX4_within_52 : decode cX4_within 52 = .ok (.invokevirtual 120, 3) := by decide +kernel
theorem dX4_within_55 : decode cX4_within 55 = .ok (.aload_n 0, 1) := by decide +kernel
theorem dX4_within_56 : decode cX4_within 56 = .ok (.getfield 35, 3) := by decide +kernel
theorem dX4_within_59 : decode cX4_within 59 = .ok (.iconst 0, 1) := by decide +kernel
theorem dX4_within_60 : decode cX4_within 60 = .ok (.iaload, 1) := by decide +kernel
theorem dX4_within_61 : decode cX4_within 61 = .ok (.ifCond .lt 7, 3) := by decide +kernel
theorem dX4_within_64 : decode cX4_within 64 = .ok (.iconst 1, 1) := by decide +kernel
theorem dX4_within_65 : decode cX4_within 65 = .ok (.goto 4, 3) := by decide +kernel
theorem dX4_within_68 : decode cX4_within 68 = .ok (.iconst 0, 1) := by decide +kernel
theorem dX4_within_69 : decode cX4_within 69 = .ok (.ireturn, 1) := by decide +kernel
theorem dX4_take_0 : decode cX4_take 0 = .ok (.iload_n 1, 1) := by decide +kernel
theorem dX4_take_1 : decode cX4_take 1 = .ok (.iconst 0, 1) := by decide +kernel
theorem dX4_take_2 : decode cX4_take 2 = .ok (.iconst 1, 1) := by decide +kernel
theorem dX4_take_3 : decode cX4_take 3 = .ok (.invokestatic 47, 3) := by decide +kernel
theorem dX4_take_6 : decode cX4_take 6 = .ok (.ifCond .ne 6, 3) := by decide +kernel
theorem dX4_take_9 : decode cX4_take 9 = .ok (.bipush (-2), 2) := by decide +kernel
theorem dX4_take_11 : decode cX4_take 11 = .ok (.ireturn, 1) := by decide +kernel
theorem dX4_take_12 : decode cX4_take 12 = .ok (.iload_n 1, 1) := by decide +kernel
theorem dX4_take_13 : decode cX4_take 13 = .ok (.ifCond .ne 10, 3) := by decide +kernel
theorem dX4_take_16 : decode cX4_take 16 = .ok (.aload_n 0, 1) := by decide +kernel
theorem dX4_take_17 : decode cX4_take 17 = .ok (.invokevirtual 103, 3) := by decide +kernel
theorem dX4_take_20 : decode cX4_take 20 = .ok (.goto 7, 3) := by decide +kernel
theorem dX4_take_23 : decode cX4_take 23 = .ok (.aload_n 0, 1) := by decide +kernel
theorem dX4_take_24 : decode cX4_take 24 = .ok (.invokevirtual 127, 3) := by decide +kernel
theorem dX4_take_27 : decode cX4_take 27 = .ok (.aload_n 0, 1) := by decide +kernel
theorem dX4_take_28 : decode cX4_take 28 = .ok (.aload_n 0, 1) := by decide +kernel
theorem dX4_take_29 : decode cX4_take 29 = .ok (.getfield 100, 3) := by decide +kernel
theorem dX4_take_32 : decode cX4_take 32 = .ok (.putfield 44, 3) := by decide +kernel
theorem dX4_take_35 : decode cX4_take 35 = .ok (.iconst 0, 1) := by decide +kernel
theorem dX4_take_36 : decode cX4_take 36 = .ok (.istore_n 2, 1) := by decide +kernel
theorem dX4_take_37 : decode cX4_take 37 = .ok (.iload_n 2, 1) := by decide +kernel
theorem dX4_take_38 : decode cX4_take 38 = .ok (.aload_n 0, 1) := by decide +kernel
theorem dX4_take_39 : decode cX4_take 39 = .ok (.getfield 100, 3) := by decide +kernel
theorem dX4_take_42 : decode cX4_take 42 = .ok (.if_icmp .ge 39, 3) := by decide +kernel
theorem dX4_take_45 : decode cX4_take 45 = .ok (.aload_n 0, 1) := by decide +kernel
theorem dX4_take_46 : decode cX4_take 46 = .ok (.getfield 26, 3) := by decide +kernel
theorem dX4_take_49 : decode cX4_take 49 = .ok (.iload_n 2, 1) := by decide +kernel
theorem dX4_take_50 : decode cX4_take 50 = .ok (.aload_n 0, 1) := by decide +kernel
theorem dX4_take_51 : decode cX4_take 51 = .ok (.getfield 38, 3) := by decide +kernel
theorem dX4_take_54 : decode cX4_take 54 = .ok (.iload_n 2, 1) := by decide +kernel
theorem dX4_take_55 : decode cX4_take 55 = .ok (.iaload, 1) := by decide +kernel
theorem dX4_take_56 : decode cX4_take 56 = .ok (.bipush 10, 2) := by decide +kernel
theorem dX4_take_58 : decode cX4_take 58 = .ok (.idiv, 1) := by decide +kernel
theorem dX4_take_59 : decode cX4_take 59 = .ok (.iastore, 1) := by decide +kernel
theorem dX4_take_60 : decode cX4_take 60 = .ok (.aload_n 0, 1) := by decide +kernel
theorem dX4_take_61 : decode cX4_take 61 = .ok (.getfield 29, 3) := by decide +kernel
theorem dX4_take_64 : decode cX4_take 64 = .ok (.iload_n 2, 1) := by decide +kernel
theorem dX4_take_65 : decode cX4_take 65 = .ok (.aload_n 0, 1) := by decide +kernel
theorem dX4_take_66 : decode cX4_take 66 = .ok (.getfield 38, 3) := by decide +kernel
theorem dX4_take_69 : decode cX4_take 69 = .ok (.iload_n 2, 1) := by decide +kernel
theorem dX4_take_70 : decode cX4_take 70 = .ok (.iaload, 1) := by decide +kernel
theorem dX4_take_71 : decode cX4_take 71 = .ok (.bipush 10, 2) := by decide +kernel
theorem dX4_take_73 : decode cX4_take 73 = .ok (.irem, 1) := by decide +kernel
theorem dX4_take_74 : decode cX4_take 74 = .ok (.iastore, 1) := by decide +kernel
theorem dX4_take_75 : decode cX4_take 75 = .ok (.iinc 2 1, 3) := by decide +kernel
theorem dX4_take_78 : decode cX4_take 78 = .ok (.goto (-41), 3) := by decide +kernel
theorem dX4_take_81 : decode cX4_take 81 = .ok (.aload_n 0, 1) := by decide +kernel
theorem dX4_take_82 : decode cX4_take 82 = .ok (.getfield 44, 3) := by decide +kernel
theorem dX4_take_85 : decode cX4_take 85 = .ok (.ireturn, 1) := by decide +kernel
theorem dX4_comesBy_0 : decode cX4_comesBy 0 = .ok (.iload_n 1, 1) := by decide +kernel
theorem dX4_comesBy_1 : decode cX4_comesBy 1 = .ok (.istore 4, 2) := by decide +kernel
theorem dX4_comesBy_3 : decode cX4_comesBy 3 = .ok (.iload 4, 2) := by decide +kernel
theorem dX4_comesBy_5 : decode cX4_comesBy 5 = .ok (.aload_n 0, 1) := by decide +kernel
theorem dX4_comesBy_6 : decode cX4_comesBy 6 = .ok (.getfield 44, 3) := by decide +kernel
theorem dX4_comesBy_9 : decode cX4_comesBy 9 = .ok (.if_icmp .ge 34, 3) := by decide +kernel
theorem dX4_comesBy_12 : decode cX4_comesBy 12 = .ok (.aload_n 0, 1) := by decide +kernel
theorem dX4_comesBy_13 : decode cX4_comesBy 13 = .ok (.getfield 26, 3) := by decide +kernel
theorem dX4_comesBy_16 : decode cX4_comesBy 16 = .ok (.iload 4, 2) := by decide +kernel
theorem dX4_comesBy_18 : decode cX4_comesBy 18 = .ok (.iaload, 1) := by decide +kernel
theorem dX4_comesBy_19 : decode cX4_comesBy 19 = .ok (.iload_n 2, 1) := by decide +kernel
theorem dX4_comesBy_20 : decode cX4_comesBy 20 = .ok (.if_icmp .ne 17, 3) := by decide +kernel
theorem dX4_comesBy_23 : decode cX4_comesBy 23 = .ok (.aload_n 0, 1) := by decide +kernel
theorem dX4_comesBy_24 : decode cX4_comesBy 24 = .ok (.getfield 29, 3) := by decide +kernel
theorem dX4_comesBy_27 : decode cX4_comesBy 27 = .ok (.iload 4, 2) := by decide +kernel
theorem dX4_comesBy_29 : decode cX4_comesBy 29 = .ok (.iaload, 1) := by decide +kernel
theorem dX4_comesBy_30 : decode cX4_comesBy 30 = .ok (.iload_n 3, 1) := by decide +kernel
theorem dX4_comesBy_31 : decode cX4_comesBy 31 = .ok (.if_icmp .lt 6, 3) := by decide +kernel
theorem dX4_comesBy_34 : decode cX4_comesBy 34 = .ok (.iload 4, 2) := by decide +kernel
theorem dX4_comesBy_36 : decode cX4_comesBy 36 = .ok (.ireturn, 1) := by decide +kernel
theorem dX4_comesBy_37 : decode cX4_comesBy 37 = .ok (.iinc 4 2, 3) := by decide +kernel
theorem dX4_comesBy_40 : decode cX4_comesBy 40 = .ok (.goto (-37), 3) := by decide +kernel
theorem dX4_comesBy_43 : decode cX4_comesBy 43 = .ok (.bipush (-6), 2) := by decide +kernel
theorem dX4_comesBy_45 : decode cX4_comesBy 45 = .ok (.ireturn, 1) := by decide +kernel
theorem dX4_aheadOf_0 : decode cX4_aheadOf 0 = .ok (.iconst 0, 1) := by decide +kernel
theorem dX4_aheadOf_1 : decode cX4_aheadOf 1 = .ok (.istore_n 2, 1) := by decide +kernel
theorem dX4_aheadOf_2 : decode cX4_aheadOf 2 = .ok (.iload_n 1, 1) := by decide +kernel
theorem dX4_aheadOf_3 : decode cX4_aheadOf 3 = .ok (.iconst 2, 1) := by decide +kernel
theorem dX4_aheadOf_4 : decode cX4_aheadOf 4 = .ok (.irem, 1) := by decide +kernel
theorem dX4_aheadOf_5 : decode cX4_aheadOf 5 = .ok (.istore_n 3, 1) := by decide +kernel
theorem dX4_aheadOf_6 : decode cX4_aheadOf 6 = .ok (.iload_n 3, 1) := by decide +kernel
theorem dX4_aheadOf_7 : decode cX4_aheadOf 7 = .ok (.iload_n 1, 1) := by decide +kernel
theorem dX4_aheadOf_8 : decode cX4_aheadOf 8 = .ok (.if_icmp .ge 28, 3) := by decide +kernel
theorem dX4_aheadOf_11 : decode cX4_aheadOf 11 = .ok (.iload_n 2, 1) := by decide +kernel
theorem dX4_aheadOf_12 : decode cX4_aheadOf 12 = .ok (.aload_n 0, 1) := by decide +kernel
theorem dX4_aheadOf_13 : decode cX4_aheadOf 13 = .ok (.getfield 29, 3) := by decide +kernel
theorem dX4_aheadOf_16 : decode cX4_aheadOf 16 = .ok (.iload_n 3, 1) := by decide +kernel
theorem dX4_aheadOf_17 : decode cX4_aheadOf 17 = .ok (.iaload, 1) := by decide +kernel
theorem dX4_aheadOf_18 : decode cX4_aheadOf 18 = .ok (.aload_n 0, 1) := by decide +kernel
theorem dX4_aheadOf_19 : decode cX4_aheadOf 19 = .ok (.getfield 16, 3) := by decide +kernel
theorem dX4_aheadOf_22 : decode cX4_aheadOf 22 = .ok (.aload_n 0, 1) := by decide +kernel
theorem dX4_aheadOf_23 : decode cX4_aheadOf 23 = .ok (.getfield 19, 3) := by decide +kernel
theorem dX4_aheadOf_26 : decode cX4_aheadOf 26 = .ok (.iadd, 1) := by decide +kernel
theorem dX4_aheadOf_27 : decode cX4_aheadOf 27 = .ok (.imul, 1) := by decide +kernel
theorem dX4_aheadOf_28 : decode cX4_aheadOf 28 = .ok (.iadd, 1) := by decide +kernel
theorem dX4_aheadOf_29 : decode cX4_aheadOf 29 = .ok (.istore_n 2, 1) := by decide +kernel
theorem dX4_aheadOf_30 : decode cX4_aheadOf 30 = .ok (.iinc 3 2, 3) := by decide +kernel
theorem dX4_aheadOf_33 : decode cX4_aheadOf 33 = .ok (.goto (-27), 3) := by decide +kernel
theorem dX4_aheadOf_36 : decode cX4_aheadOf 36 = .ok (.iload_n 2, 1) := by decide +kernel
theorem dX4_aheadOf_37 : decode cX4_aheadOf 37 = .ok (.ireturn, 1) := by decide +kernel
theorem dX4_both_0 : decode cX4_both 0 = .ok (.aload_n 0, 1) := by decide +kernel
theorem dX4_both_1 : decode cX4_both 1 = .ok (.iload_n 1, 1) := by decide +kernel
theorem dX4_both_2 : decode cX4_both 2 = .ok (.iload_n 2, 1) := by decide +kernel
theorem dX4_both_3 : decode cX4_both 3 = .ok (.invokevirtual 51, 3) := by decide +kernel
theorem dX4_both_6 : decode cX4_both 6 = .ok (.ifCond .ne 5, 3) := by decide +kernel
theorem dX4_both_9 : decode cX4_both 9 = .ok (.iconst (-1), 1) := by decide +kernel
theorem dX4_both_10 : decode cX4_both 10 = .ok (.ireturn, 1) := by decide +kernel
theorem dX4_both_11 : decode cX4_both 11 = .ok (.iload_n 3, 1) := by decide +kernel
theorem dX4_both_12 : decode cX4_both 12 = .ok (.iconst 0, 1) := by decide +kernel
theorem dX4_both_13 : decode cX4_both 13 = .ok (.iconst 4, 1) := by decide +kernel
theorem dX4_both_14 : decode cX4_both 14 = .ok (.invokestatic 47, 3) := by decide +kernel
theorem dX4_both_17 : decode cX4_both 17 = .ok (.ifCond .ne 6, 3) := by decide +kernel
theorem dX4_both_20 : decode cX4_both 20 = .ok (.bipush (-2), 2) := by decide +kernel
theorem dX4_both_22 : decode cX4_both 22 = .ok (.ireturn, 1) := by decide +kernel
theorem dX4_both_23 : decode cX4_both 23 = .ok (.aload_n 0, 1) := by decide +kernel
theorem dX4_both_24 : decode cX4_both 24 = .ok (.iconst 0, 1) := by decide +kernel
theorem dX4_both_25 : decode cX4_both 25 = .ok (.iload_n 1, 1) := by decide +kernel
theorem dX4_both_26 : decode cX4_both 26 = .ok (.iload_n 2, 1) := by decide +kernel
theorem dX4_both_27 : decode cX4_both 27 = .ok (.invokevirtual 130, 3) := by decide +kernel
theorem dX4_both_30 : decode cX4_both 30 = .ok (.istore 4, 2) := by decide +kernel
theorem dX4_both_32 : decode cX4_both 32 = .ok (.aload_n 0, 1) := by decide +kernel
theorem dX4_both_33 : decode cX4_both 33 = .ok (.iconst 1, 1) := by decide +kernel
theorem dX4_both_34 : decode cX4_both 34 = .ok (.iload_n 1, 1) := by decide +kernel
theorem dX4_both_35 : decode cX4_both 35 = .ok (.iload_n 2, 1) := by decide +kernel
theorem dX4_both_36 : decode cX4_both 36 = .ok (.invokevirtual 130, 3) := by decide +kernel
theorem dX4_both_39 : decode cX4_both 39 = .ok (.istore 5, 2) := by decide +kernel
theorem dX4_both_41 : decode cX4_both 41 = .ok (.iload 4, 2) := by decide +kernel
theorem dX4_both_43 : decode cX4_both 43 = .ok (.ifCond .ge 11, 3) := by decide +kernel
theorem dX4_both_46 : decode cX4_both 46 = .ok (.iload 5, 2) := by decide +kernel
theorem dX4_both_48 : decode cX4_both 48 = .ok (.ifCond .ge 6, 3) := by decide +kernel
theorem dX4_both_51 : decode cX4_both 51 = .ok (.bipush (-6), 2) := by decide +kernel
theorem dX4_both_53 : decode cX4_both 53 = .ok (.ireturn, 1) := by decide +kernel
theorem dX4_both_54 : decode cX4_both 54 = .ok (.iload 5, 2) := by decide +kernel
theorem dX4_both_56 : decode cX4_both 56 = .ok (.ifCond .lt 23, 3) := by decide +kernel
theorem dX4_both_59 : decode cX4_both 59 = .ok (.iload 4, 2) := by decide +kernel
theorem dX4_both_61 : decode cX4_both 61 = .ok (.ifCond .lt 22, 3) := by decide +kernel
theorem dX4_both_64 : decode cX4_both 64 = .ok (.aload_n 0, 1) := by decide +kernel
theorem dX4_both_65 : decode cX4_both 65 = .ok (.iload 4, 2) := by decide +kernel
theorem dX4_both_67 : decode cX4_both 67 = .ok (.invokevirtual 133, 3) := by decide +kernel
theorem dX4_both_70 : decode cX4_both 70 = .ok (.aload_n 0, 1) := by decide +kernel
theorem dX4_both_71 : decode cX4_both 71 = .ok (.iload 5, 2) := by decide +kernel
theorem dX4_both_73 : decode cX4_both 73 = .ok (.invokevirtual 133, 3) := by decide +kernel
theorem dX4_both_76 : decode cX4_both 76 = .ok (.if_icmp .gt 7, 3) := by decide +kernel
theorem dX4_both_79 : decode cX4_both 79 = .ok (.iconst 1, 1) := by decide +kernel
theorem dX4_both_80 : decode cX4_both 80 = .ok (.goto 4, 3) := by decide +kernel
theorem dX4_both_83 : decode cX4_both 83 = .ok (.iconst 0, 1) := by decide +kernel
theorem dX4_both_84 : decode cX4_both 84 = .ok (.istore 6, 2) := by decide +kernel
theorem dX4_both_86 : decode cX4_both 86 = .ok (.iload 6, 2) := by decide +kernel
theorem dX4_both_88 : decode cX4_both 88 = .ok (.ifCond .eq 8, 3) := by decide +kernel
theorem dX4_both_91 : decode cX4_both 91 = .ok (.iload 4, 2) := by decide +kernel
theorem dX4_both_93 : decode cX4_both 93 = .ok (.goto 5, 3) := by decide +kernel
theorem dX4_both_96 : decode cX4_both 96 = .ok (.iload 5, 2) := by decide +kernel
theorem dX4_both_98 : decode cX4_both 98 = .ok (.istore 7, 2) := by decide +kernel
theorem dX4_both_100 : decode cX4_both 100 = .ok (.aload_n 0, 1) := by decide +kernel
theorem dX4_both_101 : decode cX4_both 101 = .ok (.iload 7, 2) := by decide +kernel
theorem dX4_both_103 : decode cX4_both 103 = .ok (.invokevirtual 133, 3) := by decide +kernel
theorem dX4_both_106 : decode cX4_both 106 = .ok (.aload_n 0, 1) := by decide +kernel
theorem dX4_both_107 : decode cX4_both 107 = .ok (.getfield 16, 3) := by decide +kernel
theorem dX4_both_110 : decode cX4_both 110 = .ok (.iload_n 2, 1) := by decide +kernel
theorem dX4_both_111 : decode cX4_both 111 = .ok (.imul, 1) := by decide +kernel
theorem dX4_both_112 : decode cX4_both 112 = .ok (.iadd, 1) := by decide +kernel
theorem dX4_both_113 : decode cX4_both 113 = .ok (.istore 8, 2) := by decide +kernel
theorem dX4_both_115 : decode cX4_both 115 = .ok (.iload_n 3, 1) := by decide +kernel
theorem dX4_both_116 : decode cX4_both 116 = .ok (.tableswitch 61 0 2 #[28, 31, 56], 28) := by decide +kernel
theorem dX4_both_144 : decode cX4_both 144 = .ok (.iload 8, 2) := by decide +kernel
theorem dX4_both_146 : decode cX4_both 146 = .ok (.ireturn, 1) := by decide +kernel
theorem dX4_both_147 : decode cX4_both 147 = .ok (.aload_n 0, 1) := by decide +kernel
theorem dX4_both_148 : decode cX4_both 148 = .ok (.iload 7, 2) := by decide +kernel
theorem dX4_both_150 : decode cX4_both 150 = .ok (.invokevirtual 133, 3) := by decide +kernel
theorem dX4_both_153 : decode cX4_both 153 = .ok (.aload_n 0, 1) := by decide +kernel
theorem dX4_both_154 : decode cX4_both 154 = .ok (.getfield 29, 3) := by decide +kernel
theorem dX4_both_157 : decode cX4_both 157 = .ok (.iload 7, 2) := by decide +kernel
theorem dX4_both_159 : decode cX4_both 159 = .ok (.iaload, 1) := by decide +kernel
theorem dX4_both_160 : decode cX4_both 160 = .ok (.aload_n 0, 1) := by decide +kernel
theorem dX4_both_161 : decode cX4_both 161 = .ok (.getfield 16, 3) := by decide +kernel
theorem dX4_both_164 : decode cX4_both 164 = .ok (.aload_n 0, 1) := by decide +kernel
theorem dX4_both_165 : decode cX4_both 165 = .ok (.getfield 19, 3) := by decide +kernel
theorem dX4_both_168 : decode cX4_both 168 = .ok (.iadd, 1) := by decide +kernel
theorem dX4_both_169 : decode cX4_both 169 = .ok (.imul, 1) := by decide +kernel
theorem dX4_both_170 : decode cX4_both 170 = .ok (.iadd, 1) := by decide +kernel
theorem dX4_both_171 : decode cX4_both 171 = .ok (.ireturn, 1) := by decide +kernel
theorem dX4_both_172 : decode cX4_both 172 = .ok (.iload 7, 2) := by decide +kernel
theorem dX4_both_174 : decode cX4_both 174 = .ok (.iconst 2, 1) := by decide +kernel
theorem dX4_both_175 : decode cX4_both 175 = .ok (.irem, 1) := by decide +kernel
theorem dX4_both_176 : decode cX4_both 176 = .ok (.ireturn, 1) := by decide +kernel
theorem dX4_both_177 : decode cX4_both 177 = .ok (.iload 8, 2) := by decide +kernel
theorem dX4_both_179 : decode cX4_both 179 = .ok (.aload_n 0, 1) := by decide +kernel
theorem dX4_both_180 : decode cX4_both 180 = .ok (.getfield 16, 3) := by decide +kernel
theorem dX4_both_183 : decode cX4_both 183 = .ok (.iload_n 2, 1) := by decide +kernel
theorem dX4_both_184 : decode cX4_both 184 = .ok (.imul, 1) := by decide +kernel
theorem dX4_both_185 : decode cX4_both 185 = .ok (.iload_n 3, 1) := by decide +kernel
theorem dX4_both_186 : decode cX4_both 186 = .ok (.iconst 3, 1) := by decide +kernel
theorem dX4_both_187 : decode cX4_both 187 = .ok (.isub, 1) := by decide +kernel
theorem dX4_both_188 : decode cX4_both 188 = .ok (.invokestatic 69, 3) := by decide +kernel
theorem dX4_both_191 : decode cX4_both 191 = .ok (.ireturn, 1) := by decide +kernel
theorem dX4_end_0 : decode cX4_end 0 = .ok (.iconst 0, 1) := by decide +kernel
theorem dX4_end_1 : decode cX4_end 1 = .ok (.istore_n 1, 1) := by decide +kernel
theorem dX4_end_2 : decode cX4_end 2 = .ok (.iconst 0, 1) := by decide +kernel
theorem dX4_end_3 : decode cX4_end 3 = .ok (.istore_n 2, 1) := by decide +kernel
theorem dX4_end_4 : decode cX4_end 4 = .ok (.iconst 0, 1) := by decide +kernel
theorem dX4_end_5 : decode cX4_end 5 = .ok (.istore_n 3, 1) := by decide +kernel
theorem dX4_end_6 : decode cX4_end 6 = .ok (.iload_n 3, 1) := by decide +kernel
theorem dX4_end_7 : decode cX4_end 7 = .ok (.aload_n 0, 1) := by decide +kernel
theorem dX4_end_8 : decode cX4_end 8 = .ok (.getfield 44, 3) := by decide +kernel
theorem dX4_end_11 : decode cX4_end 11 = .ok (.if_icmp .ge 68, 3) := by decide +kernel
theorem dX4_end_14 : decode cX4_end 14 = .ok (.iload_n 1, 1) := by decide +kernel
theorem dX4_end_15 : decode cX4_end 15 = .ok (.iload_n 3, 1) := by decide +kernel
theorem dX4_end_16 : decode cX4_end 16 = .ok (.iconst 2, 1) := by decide +kernel
theorem dX4_end_17 : decode cX4_end 17 = .ok (.irem, 1) := by decide +kernel
theorem dX4_end_18 : decode cX4_end 18 = .ok (.ifCond .ne 22, 3) := by decide +kernel
theorem dX4_end_21 : decode cX4_end 21 = .ok (.aload_n 0, 1) := by decide +kernel
theorem dX4_end_22 : decode cX4_end 22 = .ok (.getfield 29, 3) := by decide +kernel
theorem dX4_end_25 : decode cX4_end 25 = .ok (.iload_n 3, 1) := by decide +kernel
theorem dX4_end_26 : decode cX4_end 26 = .ok (.iaload, 1) := by decide +kernel
theorem dX4_end_27 : decode cX4_end 27 = .ok (.aload_n 0, 1) := by decide +kernel
theorem dX4_end_28 : decode cX4_end 28 = .ok (.getfield 16, 3) := by decide +kernel
theorem dX4_end_31 : decode cX4_end 31 = .ok (.aload_n 0, 1) := by decide +kernel
theorem dX4_end_32 : decode cX4_end 32 = .ok (.getfield 19, 3) := by decide +kernel
theorem dX4_end_35 : decode cX4_end 35 = .ok (.iadd, 1) := by decide +kernel
theorem dX4_end_36 : decode cX4_end 36 = .ok (.imul, 1) := by decide +kernel
theorem dX4_end_37 : decode cX4_end 37 = .ok (.goto 4, 3) := by decide +kernel
theorem dX4_end_40 : decode cX4_end 40 = .ok (.iconst 0, 1) := by decide +kernel
theorem dX4_end_41 : decode cX4_end 41 = .ok (.iadd, 1) := by decide +kernel
theorem dX4_end_42 : decode cX4_end 42 = .ok (.istore_n 1, 1) := by decide +kernel
theorem dX4_end_43 : decode cX4_end 43 = .ok (.iload_n 2, 1) := by decide +kernel
theorem dX4_end_44 : decode cX4_end 44 = .ok (.iload_n 3, 1) := by decide +kernel
theorem dX4_end_45 : decode cX4_end 45 = .ok (.iconst 2, 1) := by decide +kernel
theorem dX4_end_46 : decode cX4_end 46 = .ok (.irem, 1) := by decide +kernel
theorem dX4_end_47 : decode cX4_end 47 = .ok (.iconst 1, 1) := by decide +kernel
theorem dX4_end_48 : decode cX4_end 48 = .ok (.if_icmp .ne 22, 3) := by decide +kernel
theorem dX4_end_51 : decode cX4_end 51 = .ok (.aload_n 0, 1) := by decide +kernel
theorem dX4_end_52 : decode cX4_end 52 = .ok (.getfield 29, 3) := by decide +kernel
theorem dX4_end_55 : decode cX4_end 55 = .ok (.iload_n 3, 1) := by decide +kernel
theorem dX4_end_56 : decode cX4_end 56 = .ok (.iaload, 1) := by decide +kernel
theorem dX4_end_57 : decode cX4_end 57 = .ok (.aload_n 0, 1) := by decide +kernel
theorem dX4_end_58 : decode cX4_end 58 = .ok (.getfield 16, 3) := by decide +kernel
theorem dX4_end_61 : decode cX4_end 61 = .ok (.aload_n 0, 1) := by decide +kernel
theorem dX4_end_62 : decode cX4_end 62 = .ok (.getfield 19, 3) := by decide +kernel
theorem dX4_end_65 : decode cX4_end 65 = .ok (.iadd, 1) := by decide +kernel
theorem dX4_end_66 : decode cX4_end 66 = .ok (.imul, 1) := by decide +kernel
theorem dX4_end_67 : decode cX4_end 67 = .ok (.goto 4, 3) := by decide +kernel
theorem dX4_end_70 : decode cX4_end 70 = .ok (.iconst 0, 1) := by decide +kernel
theorem dX4_end_71 : decode cX4_end 71 = .ok (.iadd, 1) := by decide +kernel
theorem dX4_end_72 : decode cX4_end 72 = .ok (.istore_n 2, 1) := by decide +kernel
theorem dX4_end_73 : decode cX4_end 73 = .ok (.iinc 3 1, 3) := by decide +kernel
theorem dX4_end_76 : decode cX4_end 76 = .ok (.goto (-70), 3) := by decide +kernel
theorem dX4_end_79 : decode cX4_end 79 = .ok (.iload_n 1, 1) := by decide +kernel
theorem dX4_end_80 : decode cX4_end 80 = .ok (.iload_n 2, 1) := by decide +kernel
theorem dX4_end_81 : decode cX4_end 81 = .ok (.if_icmp .le 7, 3) := by decide +kernel
theorem dX4_end_84 : decode cX4_end 84 = .ok (.iload_n 1, 1) := by decide +kernel
theorem dX4_end_85 : decode cX4_end 85 = .ok (.goto 4, 3) := by decide +kernel
theorem dX4_end_88 : decode cX4_end 88 = .ok (.iload_n 2, 1) := by decide +kernel
theorem dX4_end_89 : decode cX4_end 89 = .ok (.ireturn, 1) := by decide +kernel
theorem dX4_told_0 : decode cX4_told 0 = .ok (.iload_n 1, 1) := by decide +kernel
theorem dX4_told_1 : decode cX4_told 1 = .ok (.tableswitch 83 0 6 #[43, 48, 53, 58, 63, 68, 74], 43) := by decide +kernel
theorem dX4_told_44 : decode cX4_told 44 = .ok (.aload_n 0, 1) := by decide +kernel
theorem dX4_told_45 : decode cX4_told 45 = .ok (.getfield 7, 3) := by decide +kernel
theorem dX4_told_48 : decode cX4_told 48 = .ok (.ireturn, 1) := by decide +kernel
theorem dX4_told_49 : decode cX4_told 49 = .ok (.aload_n 0, 1) := by decide +kernel
theorem dX4_told_50 : decode cX4_told 50 = .ok (.getfield 13, 3) := by decide +kernel
theorem dX4_told_53 : decode cX4_told 53 = .ok (.ireturn, 1) := by decide +kernel
theorem dX4_told_54 : decode cX4_told 54 = .ok (.aload_n 0, 1) := by decide +kernel
theorem dX4_told_55 : decode cX4_told 55 = .ok (.getfield 16, 3) := by decide +kernel
theorem dX4_told_58 : decode cX4_told 58 = .ok (.ireturn, 1) := by decide +kernel
theorem dX4_told_59 : decode cX4_told 59 = .ok (.aload_n 0, 1) := by decide +kernel
theorem dX4_told_60 : decode cX4_told 60 = .ok (.getfield 19, 3) := by decide +kernel
theorem dX4_told_63 : decode cX4_told 63 = .ok (.ireturn, 1) := by decide +kernel
theorem dX4_told_64 : decode cX4_told 64 = .ok (.aload_n 0, 1) := by decide +kernel
theorem dX4_told_65 : decode cX4_told 65 = .ok (.getfield 44, 3) := by decide +kernel
theorem dX4_told_68 : decode cX4_told 68 = .ok (.ireturn, 1) := by decide +kernel
theorem dX4_told_69 : decode cX4_told 69 = .ok (.aload_n 0, 1) := by decide +kernel
theorem dX4_told_70 : decode cX4_told 70 = .ok (.iconst 0, 1) := by decide +kernel
theorem dX4_told_71 : decode cX4_told 71 = .ok (.invokevirtual 82, 3) := by decide +kernel
theorem dX4_told_74 : decode cX4_told 74 = .ok (.ireturn, 1) := by decide +kernel
theorem dX4_told_75 : decode cX4_told 75 = .ok (.aload_n 0, 1) := by decide +kernel
theorem dX4_told_76 : decode cX4_told 76 = .ok (.aload_n 0, 1) := by decide +kernel
theorem dX4_told_77 : decode cX4_told 77 = .ok (.getfield 44, 3) := by decide +kernel
theorem dX4_told_80 : decode cX4_told 80 = .ok (.invokevirtual 55, 3) := by decide +kernel
theorem dX4_told_83 : decode cX4_told 83 = .ok (.ireturn, 1) := by decide +kernel
theorem dX4_told_84 : decode cX4_told 84 = .ok (.bipush (-2), 2) := by decide +kernel
theorem dX4_told_86 : decode cX4_told 86 = .ok (.ireturn, 1) := by decide +kernel
end
section
theorem dL_law_0 : decode cL_law 0 = .ok (.new 7, 3) := by decide +kernel
theorem dL_law_3 : decode cL_law 3 = .ok (.dup, 1) := by decide +kernel
theorem dL_law_4 : decode cL_law 4 = .ok (.invokespecial 9, 3) := by decide +kernel
theorem dL_law_7 : decode cL_law 7 = .ok (.astore_n 1, 1) := by decide +kernel
theorem dL_law_8 : decode cL_law 8 = .ok (.new 10, 3) := by decide +kernel
theorem dL_law_11 : decode cL_law 11 = .ok (.dup, 1) := by decide +kernel
theorem dL_law_12 : decode cL_law 12 = .ok (.invokespecial 12, 3) := by decide +kernel
theorem dL_law_15 : decode cL_law 15 = .ok (.astore_n 2, 1) := by decide +kernel
theorem dL_law_16 : decode cL_law 16 = .ok (.iconst 0, 1) := by decide +kernel
theorem dL_law_17 : decode cL_law 17 = .ok (.istore_n 3, 1) := by decide +kernel
theorem dL_law_18 : decode cL_law 18 = .ok (.iload_n 3, 1) := by decide +kernel
theorem dL_law_19 : decode cL_law 19 = .ok (.aload_n 0, 1) := by decide +kernel
theorem dL_law_20 : decode cL_law 20 = .ok (.arraylength, 1) := by decide +kernel
theorem dL_law_21 : decode cL_law 21 = .ok (.iconst 4, 1) := by decide +kernel
theorem dL_law_22 : decode cL_law 22 = .ok (.isub, 1) := by decide +kernel
theorem dL_law_23 : decode cL_law 23 = .ok (.if_icmp .gt 732, 3) := by decide +kernel
theorem dL_law_26 : decode cL_law 26 = .ok (.aload_n 0, 1) := by decide +kernel
theorem dL_law_27 : decode cL_law 27 = .ok (.iload_n 3, 1) := by decide +kernel
theorem dL_law_28 : decode cL_law 28 = .ok (.iaload, 1) := by decide +kernel
theorem dL_law_29 : decode cL_law 29 = .ok (.bipush 31, 2) := by decide +kernel
theorem dL_law_31 : decode cL_law 31 = .ok (.iand, 1) := by decide +kernel
theorem dL_law_32 : decode cL_law 32 = .ok (.tableswitch 717 0 22 #[108, 141, 174, 217, 250, 283, 316, 329, 342, 375, 418, 441, 454, 477, 500, 513, 536, 559, 582, 615, 638, 681, 694], 108) := by decide +kernel
theorem dL_law_140 : decode cL_law 140 = .ok (.aload_n 1, 1) := by decide +kernel
theorem dL_law_141 : decode cL_law 141 = .ok (.aload_n 0, 1) := by decide +kernel
theorem dL_law_142 : decode cL_law 142 = .ok (.iload_n 3, 1) := by decide +kernel
theorem dL_law_143 : decode cL_law 143 = .ok (.iconst 1, 1) := by decide +kernel
theorem dL_law_144 : decode cL_law 144 = .ok (.iadd, 1) := by decide +kernel
theorem dL_law_145 : decode cL_law 145 = .ok (.iaload, 1) := by decide +kernel
theorem dL_law_146 : decode cL_law 146 = .ok (.aload_n 0, 1) := by decide +kernel
theorem dL_law_147 : decode cL_law 147 = .ok (.iload_n 3, 1) := by decide +kernel
theorem dL_law_148 : decode cL_law 148 = .ok (.iconst 2, 1) := by decide +kernel
theorem dL_law_149 : decode cL_law 149 = .ok (.iadd, 1) := by decide +kernel
theorem dL_law_150 : decode cL_law 150 = .ok (.iaload, 1) := by decide +kernel
theorem dL_law_151 : decode cL_law 151 = .ok (.invokevirtual 13, 3) := by decide +kernel
theorem dL_law_154 : decode cL_law 154 = .ok (.aload_n 2, 1) := by decide +kernel
theorem dL_law_155 : decode cL_law 155 = .ok (.aload_n 0, 1) := by decide +kernel
theorem dL_law_156 : decode cL_law 156 = .ok (.iload_n 3, 1) := by decide +kernel
theorem dL_law_157 : decode cL_law 157 = .ok (.iconst 1, 1) := by decide +kernel
theorem dL_law_158 : decode cL_law 158 = .ok (.iadd, 1) := by decide +kernel
theorem dL_law_159 : decode cL_law 159 = .ok (.iaload, 1) := by decide +kernel
theorem dL_law_160 : decode cL_law 160 = .ok (.aload_n 0, 1) := by decide +kernel
theorem dL_law_161 : decode cL_law 161 = .ok (.iload_n 3, 1) := by decide +kernel
theorem dL_law_162 : decode cL_law 162 = .ok (.iconst 2, 1) := by decide +kernel
theorem dL_law_163 : decode cL_law 163 = .ok (.iadd, 1) := by decide +kernel
theorem dL_law_164 : decode cL_law 164 = .ok (.iaload, 1) := by decide +kernel
theorem dL_law_165 : decode cL_law 165 = .ok (.invokevirtual 17, 3) := by decide +kernel
theorem dL_law_168 : decode cL_law 168 = .ok (.if_icmp .eq 581, 3) := by decide +kernel
theorem dL_law_171 : decode cL_law 171 = .ok (.iconst 0, 1) := by decide +kernel
theorem dL_law_172 : decode cL_law 172 = .ok (.ireturn, 1) := by decide +kernel
theorem dL_law_173 : decode cL_law 173 = .ok (.aload_n 1, 1) := by decide +kernel
theorem dL_law_174 : decode cL_law 174 = .ok (.aload_n 0, 1) := by decide +kernel
theorem dL_law_175 : decode cL_law 175 = .ok (.iload_n 3, 1) := by decide +kernel
theorem dL_law_176 : decode cL_law 176 = .ok (.iconst 1, 1) := by decide +kernel
theorem dL_law_177 : decode cL_law 177 = .ok (.iadd, 1) := by decide +kernel
theorem dL_law_178 : decode cL_law 178 = .ok (.iaload, 1) := by decide +kernel
theorem dL_law_179 : decode cL_law 179 = .ok (.aload_n 0, 1) := by decide +kernel
theorem dL_law_180 : decode cL_law 180 = .ok (.iload_n 3, 1) := by decide +kernel
theorem dL_law_181 : decode cL_law 181 = .ok (.iconst 2, 1) := by decide +kernel
theorem dL_law_182 : decode cL_law 182 = .ok (.iadd, 1) := by decide +kernel
theorem dL_law_183 : decode cL_law 183 = .ok (.iaload, 1) := by decide +kernel
theorem dL_law_184 : decode cL_law 184 = .ok (.invokevirtual 18, 3) := by decide +kernel
theorem dL_law_187 : decode cL_law 187 = .ok (.aload_n 2, 1) := by decide +kernel
theorem dL_law_188 : decode cL_law 188 = .ok (.aload_n 0, 1) := by decide +kernel
theorem dL_law_189 : decode cL_law 189 = .ok (.iload_n 3, 1) := by decide +kernel
theorem dL_law_190 : decode cL_law 190 = .ok (.iconst 1, 1) := by decide +kernel
theorem dL_law_191 : decode cL_law 191 = .ok (.iadd, 1) := by decide +kernel
theorem dL_law_192 : decode cL_law 192 = .ok (.iaload, 1) := by decide +kernel
theorem dL_law_193 : decode cL_law 193 = .ok (.aload_n 0, 1) := by decide +kernel
theorem dL_law_194 : decode cL_law 194 = .ok (.iload_n 3, 1) := by decide +kernel
theorem dL_law_195 : decode cL_law 195 = .ok (.iconst 2, 1) := by decide +kernel
theorem dL_law_196 : decode cL_law 196 = .ok (.iadd, 1) := by decide +kernel
theorem dL_law_197 : decode cL_law 197 = .ok (.iaload, 1) := by decide +kernel
theorem dL_law_198 : decode cL_law 198 = .ok (.invokevirtual 21, 3) := by decide +kernel
theorem dL_law_201 : decode cL_law 201 = .ok (.if_icmp .eq 548, 3) := by decide +kernel
theorem dL_law_204 : decode cL_law 204 = .ok (.iconst 0, 1) := by decide +kernel
theorem dL_law_205 : decode cL_law 205 = .ok (.ireturn, 1) := by decide +kernel
theorem dL_law_206 : decode cL_law 206 = .ok (.aload_n 1, 1) := by decide +kernel
theorem dL_law_207 : decode cL_law 207 = .ok (.aload_n 0, 1) := by decide +kernel
theorem dL_law_208 : decode cL_law 208 = .ok (.iload_n 3, 1) := by decide +kernel
theorem dL_law_209 : decode cL_law 209 = .ok (.iconst 1, 1) := by decide +kernel
theorem dL_law_210 : decode cL_law 210 = .ok (.iadd, 1) := by decide +kernel
theorem dL_law_211 : decode cL_law 211 = .ok (.iaload, 1) := by decide +kernel
theorem dL_law_212 : decode cL_law 212 = .ok (.aload_n 0, 1) := by decide +kernel
theorem dL_law_213 : decode cL_law 213 = .ok (.iload_n 3, 1) := by decide +kernel
theorem dL_law_214 : decode cL_law 214 = .ok (.iconst 2, 1) := by decide +kernel
theorem dL_law_215 : decode cL_law 215 = .ok (.iadd, 1) := by decide +kernel
theorem dL_law_216 : decode cL_law 216 = .ok (.iaload, 1) := by decide +kernel
theorem dL_law_217 : decode cL_law 217 = .ok (.aload_n 0, 1) := by decide +kernel
theorem dL_law_218 : decode cL_law 218 = .ok (.iload_n 3, 1) := by decide +kernel
theorem dL_law_219 : decode cL_law 219 = .ok (.iconst 3, 1) := by decide +kernel
theorem dL_law_220 : decode cL_law 220 = .ok (.iadd, 1) := by decide +kernel
theorem dL_law_221 : decode cL_law 221 = .ok (.iaload, 1) := by decide +kernel
theorem dL_law_222 : decode cL_law 222 = .ok (.invokevirtual 22, 3) := by decide +kernel
theorem dL_law_225 : decode cL_law 225 = .ok (.aload_n 2, 1) := by decide +kernel
theorem dL_law_226 : decode cL_law 226 = .ok (.aload_n 0, 1) := by decide +kernel
theorem dL_law_227 : decode cL_law 227 = .ok (.iload_n 3, 1) := by decide +kernel
theorem dL_law_228 : decode cL_law 228 = .ok (.iconst 1, 1) := by decide +kernel
theorem dL_law_229 : decode cL_law 229 = .ok (.iadd, 1) := by decide +kernel
theorem dL_law_230 : decode cL_law 230 = .ok (.iaload, 1) := by decide +kernel
theorem dL_law_231 : decode cL_law 231 = .ok (.aload_n 0, 1) := by decide +kernel
theorem dL_law_232 : decode cL_law 232 = .ok (.iload_n 3, 1) := by decide +kernel
theorem dL_law_233 : decode cL_law 233 = .ok (.iconst 2, 1) := by decide +kernel
theorem dL_law_234 : decode cL_law 234 = .ok (.iadd, 1) := by decide +kernel
theorem dL_law_235 : decode cL_law 235 = .ok (.iaload, 1) := by decide +kernel
theorem dL_law_236 : decode cL_law 236 = .ok (.aload_n 0, 1) := by decide +kernel
theorem dL_law_237 : decode cL_law 237 = .ok (.iload_n 3, 1) := by decide +kernel
theorem dL_law_238 : decode cL_law 238 = .ok (.iconst 3, 1) := by decide +kernel
theorem dL_law_239 : decode cL_law 239 = .ok (.iadd, 1) := by decide +kernel
theorem dL_law_240 : decode cL_law 240 = .ok (.iaload, 1) := by decide +kernel
theorem dL_law_241 : decode cL_law 241 = .ok (.invokevirtual 26, 3) := by decide +kernel
theorem dL_law_244 : decode cL_law 244 = .ok (.if_icmp .eq 505, 3) := by decide +kernel
theorem dL_law_247 : decode cL_law 247 = .ok (.iconst 0, 1) := by decide +kernel
theorem dL_law_248 : decode cL_law 248 = .ok (.ireturn, 1) := by decide +kernel
theorem dL_law_249 : decode cL_law 249 = .ok (.aload_n 1, 1) := by decide +kernel
theorem dL_law_250 : decode cL_law 250 = .ok (.aload_n 0, 1) := by decide +kernel
theorem dL_law_251 : decode cL_law 251 = .ok (.iload_n 3, 1) := by decide +kernel
theorem dL_law_252 : decode cL_law 252 = .ok (.iconst 1, 1) := by decide +kernel
theorem dL_law_253 : decode cL_law 253 = .ok (.iadd, 1) := by decide +kernel
theorem dL_law_254 : decode cL_law 254 = .ok (.iaload, 1) := by decide +kernel
theorem dL_law_255 : decode cL_law 255 = .ok (.aload_n 0, 1) := by decide +kernel
theorem dL_law_256 : decode cL_law 256 = .ok (.iload_n 3, 1) := by decide +kernel
theorem dL_law_257 : decode cL_law 257 = .ok (.iconst 2, 1) := by decide +kernel
theorem dL_law_258 : decode cL_law 258 = .ok (.iadd, 1) := by decide +kernel
theorem dL_law_259 : decode cL_law 259 = .ok (.iaload, 1) := by decide +kernel
theorem dL_law_260 : decode cL_law 260 = .ok (.invokevirtual 27, 3) := by decide +kernel
theorem dL_law_263 : decode cL_law 263 = .ok (.aload_n 2, 1) := by decide +kernel
theorem dL_law_264 : decode cL_law 264 = .ok (.aload_n 0, 1) := by decide +kernel
theorem dL_law_265 : decode cL_law 265 = .ok (.iload_n 3, 1) := by decide +kernel
theorem dL_law_266 : decode cL_law 266 = .ok (.iconst 1, 1) := by decide +kernel
theorem dL_law_267 : decode cL_law 267 = .ok (.iadd, 1) := by decide +kernel
theorem dL_law_268 : decode cL_law 268 = .ok (.iaload, 1) := by decide +kernel
theorem dL_law_269 : decode cL_law 269 = .ok (.aload_n 0, 1) := by decide +kernel
theorem dL_law_270 : decode cL_law 270 = .ok (.iload_n 3, 1) := by decide +kernel
theorem dL_law_271 : decode cL_law 271 = .ok (.iconst 2, 1) := by decide +kernel
theorem dL_law_272 : decode cL_law 272 = .ok (.iadd, 1) := by decide +kernel
theorem dL_law_273 : decode cL_law 273 = .ok (.iaload, 1) := by decide +kernel
theorem dL_law_274 : decode cL_law 274 = .ok (.invokevirtual 30, 3) := by decide +kernel
theorem dL_law_277 : decode cL_law 277 = .ok (.if_icmp .eq 472, 3) := by decide +kernel
theorem dL_law_280 : decode cL_law 280 = .ok (.iconst 0, 1) := by decide +kernel
theorem dL_law_281 : decode cL_law 281 = .ok (.ireturn, 1) := by decide +kernel
theorem dL_law_282 : decode cL_law 282 = .ok (.aload_n 1, 1) := by decide +kernel
theorem dL_law_283 : decode cL_law 283 = .ok (.aload_n 0, 1) := by decide +kernel
theorem dL_law_284 : decode cL_law 284 = .ok (.iload_n 3, 1) := by decide +kernel
theorem dL_law_285 : decode cL_law 285 = .ok (.iconst 1, 1) := by decide +kernel
theorem dL_law_286 : decode cL_law 286 = .ok (.iadd, 1) := by decide +kernel
theorem dL_law_287 : decode cL_law 287 = .ok (.iaload, 1) := by decide +kernel
theorem dL_law_288 : decode cL_law 288 = .ok (.aload_n 0, 1) := by decide +kernel
theorem dL_law_289 : decode cL_law 289 = .ok (.iload_n 3, 1) := by decide +kernel
theorem dL_law_290 : decode cL_law 290 = .ok (.iconst 2, 1) := by decide +kernel
theorem dL_law_291 : decode cL_law 291 = .ok (.iadd, 1) := by decide +kernel
theorem dL_law_292 : decode cL_law 292 = .ok (.iaload, 1) := by decide +kernel
theorem dL_law_293 : decode cL_law 293 = .ok (.invokevirtual 31, 3) := by decide +kernel
theorem dL_law_296 : decode cL_law 296 = .ok (.aload_n 2, 1) := by decide +kernel
theorem dL_law_297 : decode cL_law 297 = .ok (.aload_n 0, 1) := by decide +kernel
theorem dL_law_298 : decode cL_law 298 = .ok (.iload_n 3, 1) := by decide +kernel
theorem dL_law_299 : decode cL_law 299 = .ok (.iconst 1, 1) := by decide +kernel
theorem dL_law_300 : decode cL_law 300 = .ok (.iadd, 1) := by decide +kernel
theorem dL_law_301 : decode cL_law 301 = .ok (.iaload, 1) := by decide +kernel
theorem dL_law_302 : decode cL_law 302 = .ok (.aload_n 0, 1) := by decide +kernel
theorem dL_law_303 : decode cL_law 303 = .ok (.iload_n 3, 1) := by decide +kernel
theorem dL_law_304 : decode cL_law 304 = .ok (.iconst 2, 1) := by decide +kernel
theorem dL_law_305 : decode cL_law 305 = .ok (.iadd, 1) := by decide +kernel
theorem dL_law_306 : decode cL_law 306 = .ok (.iaload, 1) := by decide +kernel
theorem dL_law_307 : decode cL_law 307 = .ok (.invokevirtual 34, 3) := by decide +kernel
theorem dL_law_310 : decode cL_law 310 = .ok (.if_icmp .eq 439, 3) := by decide +kernel
theorem dL_law_313 : decode cL_law 313 = .ok (.iconst 0, 1) := by decide +kernel
theorem dL_law_314 : decode cL_law 314 = .ok (.ireturn, 1) := by decide +kernel
theorem dL_law_315 : decode cL_law 315 = .ok (.aload_n 1, 1) := by decide +kernel
theorem dL_law_316 : decode cL_law 316 = .ok (.aload_n 0, 1) := by decide +kernel
theorem dL_law_317 : decode cL_law 317 = .ok (.iload_n 3, 1) := by decide +kernel
theorem dL_law_318 : decode cL_law 318 = .ok (.iconst 1, 1) := by decide +kernel
theorem dL_law_319 : decode cL_law 319 = .ok (.iadd, 1) := by decide +kernel
theorem dL_law_320 : decode cL_law 320 = .ok (.iaload, 1) := by decide +kernel
theorem dL_law_321 : decode cL_law 321 = .ok (.aload_n 0, 1) := by decide +kernel
theorem dL_law_322 : decode cL_law 322 = .ok (.iload_n 3, 1) := by decide +kernel
theorem dL_law_323 : decode cL_law 323 = .ok (.iconst 2, 1) := by decide +kernel
theorem dL_law_324 : decode cL_law 324 = .ok (.iadd, 1) := by decide +kernel
theorem dL_law_325 : decode cL_law 325 = .ok (.iaload, 1) := by decide +kernel
theorem dL_law_326 : decode cL_law 326 = .ok (.invokevirtual 35, 3) := by decide +kernel
theorem dL_law_329 : decode cL_law 329 = .ok (.aload_n 2, 1) := by decide +kernel
theorem dL_law_330 : decode cL_law 330 = .ok (.aload_n 0, 1) := by decide +kernel
theorem dL_law_331 : decode cL_law 331 = .ok (.iload_n 3, 1) := by decide +kernel
theorem dL_law_332 : decode cL_law 332 = .ok (.iconst 1, 1) := by decide +kernel
theorem dL_law_333 : decode cL_law 333 = .ok (.iadd, 1) := by decide +kernel
theorem dL_law_334 : decode cL_law 334 = .ok (.iaload, 1) := by decide +kernel
theorem dL_law_335 : decode cL_law 335 = .ok (.aload_n 0, 1) := by decide +kernel
theorem dL_law_336 : decode cL_law 336 = .ok (.iload_n 3, 1) := by decide +kernel
theorem dL_law_337 : decode cL_law 337 = .ok (.iconst 2, 1) := by decide +kernel
theorem dL_law_338 : decode cL_law 338 = .ok (.iadd, 1) := by decide +kernel
theorem dL_law_339 : decode cL_law 339 = .ok (.iaload, 1) := by decide +kernel
theorem dL_law_340 : decode cL_law 340 = .ok (.invokevirtual 38, 3) := by decide +kernel
theorem dL_law_343 : decode cL_law 343 = .ok (.if_icmp .eq 406, 3) := by decide +kernel
theorem dL_law_346 : decode cL_law 346 = .ok (.iconst 0, 1) := by decide +kernel
theorem dL_law_347 : decode cL_law 347 = .ok (.ireturn, 1) := by decide +kernel
theorem dL_law_348 : decode cL_law 348 = .ok (.aload_n 1, 1) := by decide +kernel
theorem dL_law_349 : decode cL_law 349 = .ok (.invokevirtual 39, 3) := by decide +kernel
theorem dL_law_352 : decode cL_law 352 = .ok (.aload_n 2, 1) := by decide +kernel
theorem dL_law_353 : decode cL_law 353 = .ok (.invokevirtual 43, 3) := by decide +kernel
theorem dL_law_356 : decode cL_law 356 = .ok (.if_icmp .eq 393, 3) := by decide +kernel
theorem dL_law_359 : decode cL_law 359 = .ok (.iconst 0, 1) := by decide +kernel
theorem dL_law_360 : decode cL_law 360 = .ok (.ireturn, 1) := by decide +kernel
theorem dL_law_361 : decode cL_law 361 = .ok (.aload_n 1, 1) := by decide +kernel
theorem dL_law_362 : decode cL_law 362 = .ok (.invokevirtual 44, 3) := by decide +kernel
theorem dL_law_365 : decode cL_law 365 = .ok (.aload_n 2, 1) := by decide +kernel
theorem dL_law_366 : decode cL_law 366 = .ok (.invokevirtual 47, 3) := by decide +kernel
theorem dL_law_369 : decode cL_law 369 = .ok (.if_icmp .eq 380, 3) := by decide +kernel
theorem dL_law_372 : decode cL_law 372 = .ok (.iconst 0, 1) := by decide +kernel
theorem dL_law_373 : decode cL_law 373 = .ok (.ireturn, 1) := by decide +kernel
theorem dL_law_374 : decode cL_law 374 = .ok (.aload_n 1, 1) := by decide +kernel
theorem dL_law_375 : decode cL_law 375 = .ok (.aload_n 0, 1) := by decide +kernel
theorem dL_law_376 : decode cL_law 376 = .ok (.iload_n 3, 1) := by decide +kernel
theorem dL_law_377 : decode cL_law 377 = .ok (.iconst 1, 1) := by decide +kernel
theorem dL_law_378 : decode cL_law 378 = .ok (.iadd, 1) := by decide +kernel
theorem dL_law_379 : decode cL_law 379 = .ok (.iaload, 1) := by decide +kernel
theorem dL_law_380 : decode cL_law 380 = .ok (.aload_n 0, 1) := by decide +kernel
theorem dL_law_381 : decode cL_law 381 = .ok (.iload_n 3, 1) := by decide +kernel
theorem dL_law_382 : decode cL_law 382 = .ok (.iconst 2, 1) := by decide +kernel
theorem dL_law_383 : decode cL_law 383 = .ok (.iadd, 1) := by decide +kernel
theorem dL_law_384 : decode cL_law 384 = .ok (.iaload, 1) := by decide +kernel
theorem dL_law_385 : decode cL_law 385 = .ok (.invokevirtual 48, 3) := by decide +kernel
theorem dL_law_388 : decode cL_law 388 = .ok (.aload_n 2, 1) := by decide +kernel
theorem dL_law_389 : decode cL_law 389 = .ok (.aload_n 0, 1) := by decide +kernel
theorem dL_law_390 : decode cL_law 390 = .ok (.iload_n 3, 1) := by decide +kernel
theorem dL_law_391 : decode cL_law 391 = .ok (.iconst 1, 1) := by decide +kernel
theorem dL_law_392 : decode cL_law 392 = .ok (.iadd, 1) := by decide +kernel
theorem dL_law_393 : decode cL_law 393 = .ok (.iaload, 1) := by decide +kernel
theorem dL_law_394 : decode cL_law 394 = .ok (.aload_n 0, 1) := by decide +kernel
theorem dL_law_395 : decode cL_law 395 = .ok (.iload_n 3, 1) := by decide +kernel
theorem dL_law_396 : decode cL_law 396 = .ok (.iconst 2, 1) := by decide +kernel
theorem dL_law_397 : decode cL_law 397 = .ok (.iadd, 1) := by decide +kernel
theorem dL_law_398 : decode cL_law 398 = .ok (.iaload, 1) := by decide +kernel
theorem dL_law_399 : decode cL_law 399 = .ok (.invokevirtual 51, 3) := by decide +kernel
theorem dL_law_402 : decode cL_law 402 = .ok (.if_icmp .eq 347, 3) := by decide +kernel
theorem dL_law_405 : decode cL_law 405 = .ok (.iconst 0, 1) := by decide +kernel
theorem dL_law_406 : decode cL_law 406 = .ok (.ireturn, 1) := by decide +kernel
theorem dL_law_407 : decode cL_law 407 = .ok (.aload_n 1, 1) := by decide +kernel
theorem dL_law_408 : decode cL_law 408 = .ok (.aload_n 0, 1) := by decide +kernel
theorem dL_law_409 : decode cL_law 409 = .ok (.iload_n 3, 1) := by decide +kernel
theorem dL_law_410 : decode cL_law 410 = .ok (.iconst 1, 1) := by decide +kernel
theorem dL_law_411 : decode cL_law 411 = .ok (.iadd, 1) := by decide +kernel
theorem dL_law_412 : decode cL_law 412 = .ok (.iaload, 1) := by decide +kernel
theorem dL_law_413 : decode cL_law 413 = .ok (.aload_n 0, 1) := by decide +kernel
theorem dL_law_414 : decode cL_law 414 = .ok (.iload_n 3, 1) := by decide +kernel
theorem dL_law_415 : decode cL_law 415 = .ok (.iconst 2, 1) := by decide +kernel
theorem dL_law_416 : decode cL_law 416 = .ok (.iadd, 1) := by decide +kernel
theorem dL_law_417 : decode cL_law 417 = .ok (.iaload, 1) := by decide +kernel
theorem dL_law_418 : decode cL_law 418 = .ok (.aload_n 0, 1) := by decide +kernel
theorem dL_law_419 : decode cL_law 419 = .ok (.iload_n 3, 1) := by decide +kernel
theorem dL_law_420 : decode cL_law 420 = .ok (.iconst 3, 1) := by decide +kernel
theorem dL_law_421 : decode cL_law 421 = .ok (.iadd, 1) := by decide +kernel
theorem dL_law_422 : decode cL_law 422 = .ok (.iaload, 1) := by decide +kernel
theorem dL_law_423 : decode cL_law 423 = .ok (.invokevirtual 52, 3) := by decide +kernel
theorem dL_law_426 : decode cL_law 426 = .ok (.aload_n 2, 1) := by decide +kernel
theorem dL_law_427 : decode cL_law 427 = .ok (.aload_n 0, 1) := by decide +kernel
theorem dL_law_428 : decode cL_law 428 = .ok (.iload_n 3, 1) := by decide +kernel
theorem dL_law_429 : decode cL_law 429 = .ok (.iconst 1, 1) := by decide +kernel
theorem dL_law_430 : decode cL_law 430 = .ok (.iadd, 1) := by decide +kernel
theorem dL_law_431 : decode cL_law 431 = .ok (.iaload, 1) := by decide +kernel
theorem dL_law_432 : decode cL_law 432 = .ok (.aload_n 0, 1) := by decide +kernel
theorem dL_law_433 : decode cL_law 433 = .ok (.iload_n 3, 1) := by decide +kernel
theorem dL_law_434 : decode cL_law 434 = .ok (.iconst 2, 1) := by decide +kernel
theorem dL_law_435 : decode cL_law 435 = .ok (.iadd, 1) := by decide +kernel
theorem dL_law_436 : decode cL_law 436 = .ok (.iaload, 1) := by decide +kernel
theorem dL_law_437 : decode cL_law 437 = .ok (.aload_n 0, 1) := by decide +kernel
theorem dL_law_438 : decode cL_law 438 = .ok (.iload_n 3, 1) := by decide +kernel
theorem dL_law_439 : decode cL_law 439 = .ok (.iconst 3, 1) := by decide +kernel
theorem dL_law_440 : decode cL_law 440 = .ok (.iadd, 1) := by decide +kernel
theorem dL_law_441 : decode cL_law 441 = .ok (.iaload, 1) := by decide +kernel
theorem dL_law_442 : decode cL_law 442 = .ok (.invokevirtual 55, 3) := by decide +kernel
theorem dL_law_445 : decode cL_law 445 = .ok (.if_icmp .eq 304, 3) := by decide +kernel
theorem dL_law_448 : decode cL_law 448 = .ok (.iconst 0, 1) := by decide +kernel
theorem dL_law_449 : decode cL_law 449 = .ok (.ireturn, 1) := by decide +kernel
theorem dL_law_450 : decode cL_law 450 = .ok (.aload_n 1, 1) := by decide +kernel
theorem dL_law_451 : decode cL_law 451 = .ok (.aload_n 0, 1) := by decide +kernel
theorem dL_law_452 : decode cL_law 452 = .ok (.iload_n 3, 1) := by decide +kernel
theorem dL_law_453 : decode cL_law 453 = .ok (.iconst 1, 1) := by decide +kernel
theorem dL_law_454 : decode cL_law 454 = .ok (.iadd, 1) := by decide +kernel
theorem dL_law_455 : decode cL_law 455 = .ok (.iaload, 1) := by decide +kernel
theorem dL_law_456 : decode cL_law 456 = .ok (.invokevirtual 56, 3) := by decide +kernel
theorem dL_law_459 : decode cL_law 459 = .ok (.aload_n 2, 1) := by decide +kernel
theorem dL_law_460 : decode cL_law 460 = .ok (.aload_n 0, 1) := by decide +kernel
theorem dL_law_461 : decode cL_law 461 = .ok (.iload_n 3, 1) := by decide +kernel
theorem dL_law_462 : decode cL_law 462 = .ok (.iconst 1, 1) := by decide +kernel
theorem dL_law_463 : decode cL_law 463 = .ok (.iadd, 1) := by decide +kernel
theorem dL_law_464 : decode cL_law 464 = .ok (.iaload, 1) := by decide +kernel
theorem dL_law_465 : decode cL_law 465 = .ok (.invokevirtual 60, 3) := by decide +kernel
theorem dL_law_468 : decode cL_law 468 = .ok (.if_icmp .eq 281, 3) := by decide +kernel
theorem dL_law_471 : decode cL_law 471 = .ok (.iconst 0, 1) := by decide +kernel
theorem dL_law_472 : decode cL_law 472 = .ok (.ireturn, 1) := by decide +kernel
theorem dL_law_473 : decode cL_law 473 = .ok (.aload_n 1, 1) := by decide +kernel
theorem dL_law_474 : decode cL_law 474 = .ok (.invokevirtual 61, 3) := by decide +kernel
theorem dL_law_477 : decode cL_law 477 = .ok (.aload_n 2, 1) := by decide +kernel
theorem dL_law_478 : decode cL_law 478 = .ok (.invokevirtual 64, 3) := by decide +kernel
theorem dL_law_481 : decode cL_law 481 = .ok (.if_icmp .eq 268, 3) := by decide +kernel
theorem dL_law_484 : decode cL_law 484 = .ok (.iconst 0, 1) := by decide +kernel
theorem dL_law_485 : decode cL_law 485 = .ok (.ireturn, 1) := by decide +kernel
theorem dL_law_486 : decode cL_law 486 = .ok (.aload_n 1, 1) := by decide +kernel
theorem dL_law_487 : decode cL_law 487 = .ok (.aload_n 0, 1) := by decide +kernel
theorem dL_law_488 : decode cL_law 488 = .ok (.iload_n 3, 1) := by decide +kernel
theorem dL_law_489 : decode cL_law 489 = .ok (.iconst 1, 1) := by decide +kernel
theorem dL_law_490 : decode cL_law 490 = .ok (.iadd, 1) := by decide +kernel
theorem dL_law_491 : decode cL_law 491 = .ok (.iaload, 1) := by decide +kernel
theorem dL_law_492 : decode cL_law 492 = .ok (.invokevirtual 65, 3) := by decide +kernel
theorem dL_law_495 : decode cL_law 495 = .ok (.aload_n 2, 1) := by decide +kernel
theorem dL_law_496 : decode cL_law 496 = .ok (.aload_n 0, 1) := by decide +kernel
theorem dL_law_497 : decode cL_law 497 = .ok (.iload_n 3, 1) := by decide +kernel
theorem dL_law_498 : decode cL_law 498 = .ok (.iconst 1, 1) := by decide +kernel
theorem dL_law_499 : decode cL_law 499 = .ok (.iadd, 1) := by decide +kernel
theorem dL_law_500 : decode cL_law 500 = .ok (.iaload, 1) := by decide +kernel
theorem dL_law_501 : decode cL_law 501 = .ok (.invokevirtual 68, 3) := by decide +kernel
theorem dL_law_504 : decode cL_law 504 = .ok (.if_icmp .eq 245, 3) := by decide +kernel
theorem dL_law_507 : decode cL_law 507 = .ok (.iconst 0, 1) := by decide +kernel
theorem dL_law_508 : decode cL_law 508 = .ok (.ireturn, 1) := by decide +kernel
theorem dL_law_509 : decode cL_law 509 = .ok (.aload_n 1, 1) := by decide +kernel
theorem dL_law_510 : decode cL_law 510 = .ok (.aload_n 0, 1) := by decide +kernel
theorem dL_law_511 : decode cL_law 511 = .ok (.iload_n 3, 1) := by decide +kernel
theorem dL_law_512 : decode cL_law 512 = .ok (.iconst 1, 1) := by decide +kernel
theorem dL_law_513 : decode cL_law 513 = .ok (.iadd, 1) := by decide +kernel
theorem dL_law_514 : decode cL_law 514 = .ok (.iaload, 1) := by decide +kernel
theorem dL_law_515 : decode cL_law 515 = .ok (.invokevirtual 69, 3) := by decide +kernel
theorem dL_law_518 : decode cL_law 518 = .ok (.aload_n 2, 1) := by decide +kernel
theorem dL_law_519 : decode cL_law 519 = .ok (.aload_n 0, 1) := by decide +kernel
theorem dL_law_520 : decode cL_law 520 = .ok (.iload_n 3, 1) := by decide +kernel
theorem dL_law_521 : decode cL_law 521 = .ok (.iconst 1, 1) := by decide +kernel
theorem dL_law_522 : decode cL_law 522 = .ok (.iadd, 1) := by decide +kernel
theorem dL_law_523 : decode cL_law 523 = .ok (.iaload, 1) := by decide +kernel
theorem dL_law_524 : decode cL_law 524 = .ok (.invokevirtual 72, 3) := by decide +kernel
theorem dL_law_527 : decode cL_law 527 = .ok (.if_icmp .eq 222, 3) := by decide +kernel
theorem dL_law_530 : decode cL_law 530 = .ok (.iconst 0, 1) := by decide +kernel
theorem dL_law_531 : decode cL_law 531 = .ok (.ireturn, 1) := by decide +kernel
theorem dL_law_532 : decode cL_law 532 = .ok (.aload_n 1, 1) := by decide +kernel
theorem dL_law_533 : decode cL_law 533 = .ok (.invokevirtual 73, 3) := by decide +kernel
theorem dL_law_536 : decode cL_law 536 = .ok (.aload_n 2, 1) := by decide +kernel
theorem dL_law_537 : decode cL_law 537 = .ok (.invokevirtual 76, 3) := by decide +kernel
theorem dL_law_540 : decode cL_law 540 = .ok (.if_icmp .eq 209, 3) := by decide +kernel
theorem dL_law_543 : decode cL_law 543 = .ok (.iconst 0, 1) := by decide +kernel
theorem dL_law_544 : decode cL_law 544 = .ok (.ireturn, 1) := by decide +kernel
theorem dL_law_545 : decode cL_law 545 = .ok (.aload_n 1, 1) := by decide +kernel
theorem dL_law_546 : decode cL_law 546 = .ok (.aload_n 0, 1) := by decide +kernel
theorem dL_law_547 : decode cL_law 547 = .ok (.iload_n 3, 1) := by decide +kernel
theorem dL_law_548 : decode cL_law 548 = .ok (.iconst 1, 1) := by decide +kernel
theorem dL_law_549 : decode cL_law 549 = .ok (.iadd, 1) := by decide +kernel
theorem dL_law_550 : decode cL_law 550 = .ok (.iaload, 1) := by decide +kernel
theorem dL_law_551 : decode cL_law 551 = .ok (.invokevirtual 77, 3) := by decide +kernel
theorem dL_law_554 : decode cL_law 554 = .ok (.aload_n 2, 1) := by decide +kernel
theorem dL_law_555 : decode cL_law 555 = .ok (.aload_n 0, 1) := by decide +kernel
theorem dL_law_556 : decode cL_law 556 = .ok (.iload_n 3, 1) := by decide +kernel
theorem dL_law_557 : decode cL_law 557 = .ok (.iconst 1, 1) := by decide +kernel
theorem dL_law_558 : decode cL_law 558 = .ok (.iadd, 1) := by decide +kernel
theorem dL_law_559 : decode cL_law 559 = .ok (.iaload, 1) := by decide +kernel
theorem dL_law_560 : decode cL_law 560 = .ok (.invokevirtual 80, 3) := by decide +kernel
theorem dL_law_563 : decode cL_law 563 = .ok (.if_icmp .eq 186, 3) := by decide +kernel
theorem dL_law_566 : decode cL_law 566 = .ok (.iconst 0, 1) := by decide +kernel
theorem dL_law_567 : decode cL_law 567 = .ok (.ireturn, 1) := by decide +kernel
theorem dL_law_568 : decode cL_law 568 = .ok (.aload_n 1, 1) := by decide +kernel
theorem dL_law_569 : decode cL_law 569 = .ok (.aload_n 0, 1) := by decide +kernel
theorem dL_law_570 : decode cL_law 570 = .ok (.iload_n 3, 1) := by decide +kernel
theorem dL_law_571 : decode cL_law 571 = .ok (.iconst 1, 1) := by decide +kernel
theorem dL_law_572 : decode cL_law 572 = .ok (.iadd, 1) := by decide +kernel
theorem dL_law_573 : decode cL_law 573 = .ok (.iaload, 1) := by decide +kernel
theorem dL_law_574 : decode cL_law 574 = .ok (.invokevirtual 81, 3) := by decide +kernel
theorem dL_law_577 : decode cL_law 577 = .ok (.aload_n 2, 1) := by decide +kernel
theorem dL_law_578 : decode cL_law 578 = .ok (.aload_n 0, 1) := by decide +kernel
theorem dL_law_579 : decode cL_law 579 = .ok (.iload_n 3, 1) := by decide +kernel
theorem dL_law_580 : decode cL_law 580 = .ok (.iconst 1, 1) := by decide +kernel
theorem dL_law_581 : decode cL_law 581 = .ok (.iadd, 1) := by decide +kernel
theorem dL_law_582 : decode cL_law 582 = .ok (.iaload, 1) := by decide +kernel
theorem dL_law_583 : decode cL_law 583 = .ok (.invokevirtual 84, 3) := by decide +kernel
theorem dL_law_586 : decode cL_law 586 = .ok (.if_icmp .eq 163, 3) := by decide +kernel
theorem dL_law_589 : decode cL_law 589 = .ok (.iconst 0, 1) := by decide +kernel
theorem dL_law_590 : decode cL_law 590 = .ok (.ireturn, 1) := by decide +kernel
theorem dL_law_591 : decode cL_law 591 = .ok (.aload_n 1, 1) := by decide +kernel
theorem dL_law_592 : decode cL_law 592 = .ok (.aload_n 0, 1) := by decide +kernel
theorem dL_law_593 : decode cL_law 593 = .ok (.iload_n 3, 1) := by decide +kernel
theorem dL_law_594 : decode cL_law 594 = .ok (.iconst 1, 1) := by decide +kernel
theorem dL_law_595 : decode cL_law 595 = .ok (.iadd, 1) := by decide +kernel
theorem dL_law_596 : decode cL_law 596 = .ok (.iaload, 1) := by decide +kernel
theorem dL_law_597 : decode cL_law 597 = .ok (.invokevirtual 85, 3) := by decide +kernel
theorem dL_law_600 : decode cL_law 600 = .ok (.aload_n 2, 1) := by decide +kernel
theorem dL_law_601 : decode cL_law 601 = .ok (.aload_n 0, 1) := by decide +kernel
theorem dL_law_602 : decode cL_law 602 = .ok (.iload_n 3, 1) := by decide +kernel
theorem dL_law_603 : decode cL_law 603 = .ok (.iconst 1, 1) := by decide +kernel
theorem dL_law_604 : decode cL_law 604 = .ok (.iadd, 1) := by decide +kernel
theorem dL_law_605 : decode cL_law 605 = .ok (.iaload, 1) := by decide +kernel
theorem dL_law_606 : decode cL_law 606 = .ok (.invokevirtual 88, 3) := by decide +kernel
theorem dL_law_609 : decode cL_law 609 = .ok (.if_icmp .eq 140, 3) := by decide +kernel
theorem dL_law_612 : decode cL_law 612 = .ok (.iconst 0, 1) := by decide +kernel
theorem dL_law_613 : decode cL_law 613 = .ok (.ireturn, 1) := by decide +kernel
theorem dL_law_614 : decode cL_law 614 = .ok (.aload_n 1, 1) := by decide +kernel
theorem dL_law_615 : decode cL_law 615 = .ok (.aload_n 0, 1) := by decide +kernel
theorem dL_law_616 : decode cL_law 616 = .ok (.iload_n 3, 1) := by decide +kernel
theorem dL_law_617 : decode cL_law 617 = .ok (.iconst 1, 1) := by decide +kernel
theorem dL_law_618 : decode cL_law 618 = .ok (.iadd, 1) := by decide +kernel
theorem dL_law_619 : decode cL_law 619 = .ok (.iaload, 1) := by decide +kernel
theorem dL_law_620 : decode cL_law 620 = .ok (.aload_n 0, 1) := by decide +kernel
theorem dL_law_621 : decode cL_law 621 = .ok (.iload_n 3, 1) := by decide +kernel
theorem dL_law_622 : decode cL_law 622 = .ok (.iconst 2, 1) := by decide +kernel
theorem dL_law_623 : decode cL_law 623 = .ok (.iadd, 1) := by decide +kernel
theorem dL_law_624 : decode cL_law 624 = .ok (.iaload, 1) := by decide +kernel
theorem dL_law_625 : decode cL_law 625 = .ok (.invokevirtual 89, 3) := by decide +kernel
theorem dL_law_628 : decode cL_law 628 = .ok (.aload_n 2, 1) := by decide +kernel
theorem dL_law_629 : decode cL_law 629 = .ok (.aload_n 0, 1) := by decide +kernel
theorem dL_law_630 : decode cL_law 630 = .ok (.iload_n 3, 1) := by decide +kernel
theorem dL_law_631 : decode cL_law 631 = .ok (.iconst 1, 1) := by decide +kernel
theorem dL_law_632 : decode cL_law 632 = .ok (.iadd, 1) := by decide +kernel
theorem dL_law_633 : decode cL_law 633 = .ok (.iaload, 1) := by decide +kernel
theorem dL_law_634 : decode cL_law 634 = .ok (.aload_n 0, 1) := by decide +kernel
theorem dL_law_635 : decode cL_law 635 = .ok (.iload_n 3, 1) := by decide +kernel
theorem dL_law_636 : decode cL_law 636 = .ok (.iconst 2, 1) := by decide +kernel
theorem dL_law_637 : decode cL_law 637 = .ok (.iadd, 1) := by decide +kernel
theorem dL_law_638 : decode cL_law 638 = .ok (.iaload, 1) := by decide +kernel
theorem dL_law_639 : decode cL_law 639 = .ok (.invokevirtual 92, 3) := by decide +kernel
theorem dL_law_642 : decode cL_law 642 = .ok (.if_icmp .eq 107, 3) := by decide +kernel
theorem dL_law_645 : decode cL_law 645 = .ok (.iconst 0, 1) := by decide +kernel
theorem dL_law_646 : decode cL_law 646 = .ok (.ireturn, 1) := by decide +kernel
theorem dL_law_647 : decode cL_law 647 = .ok (.aload_n 1, 1) := by decide +kernel
theorem dL_law_648 : decode cL_law 648 = .ok (.aload_n 0, 1) := by decide +kernel
theorem dL_law_649 : decode cL_law 649 = .ok (.iload_n 3, 1) := by decide +kernel
theorem dL_law_650 : decode cL_law 650 = .ok (.iconst 1, 1) := by decide +kernel
theorem dL_law_651 : decode cL_law 651 = .ok (.iadd, 1) := by decide +kernel
theorem dL_law_652 : decode cL_law 652 = .ok (.iaload, 1) := by decide +kernel
theorem dL_law_653 : decode cL_law 653 = .ok (.invokevirtual 93, 3) := by decide +kernel
theorem dL_law_656 : decode cL_law 656 = .ok (.aload_n 2, 1) := by decide +kernel
theorem dL_law_657 : decode cL_law 657 = .ok (.aload_n 0, 1) := by decide +kernel
theorem dL_law_658 : decode cL_law 658 = .ok (.iload_n 3, 1) := by decide +kernel
theorem dL_law_659 : decode cL_law 659 = .ok (.iconst 1, 1) := by decide +kernel
theorem dL_law_660 : decode cL_law 660 = .ok (.iadd, 1) := by decide +kernel
theorem dL_law_661 : decode cL_law 661 = .ok (.iaload, 1) := by decide +kernel
theorem dL_law_662 : decode cL_law 662 = .ok (.invokevirtual 96, 3) := by decide +kernel
theorem dL_law_665 : decode cL_law 665 = .ok (.if_icmp .eq 84, 3) := by decide +kernel
theorem dL_law_668 : decode cL_law 668 = .ok (.iconst 0, 1) := by decide +kernel
theorem dL_law_669 : decode cL_law 669 = .ok (.ireturn, 1) := by decide +kernel
theorem dL_law_670 : decode cL_law 670 = .ok (.aload_n 1, 1) := by decide +kernel
theorem dL_law_671 : decode cL_law 671 = .ok (.aload_n 0, 1) := by decide +kernel
theorem dL_law_672 : decode cL_law 672 = .ok (.iload_n 3, 1) := by decide +kernel
theorem dL_law_673 : decode cL_law 673 = .ok (.iconst 1, 1) := by decide +kernel
theorem dL_law_674 : decode cL_law 674 = .ok (.iadd, 1) := by decide +kernel
theorem dL_law_675 : decode cL_law 675 = .ok (.iaload, 1) := by decide +kernel
theorem dL_law_676 : decode cL_law 676 = .ok (.aload_n 0, 1) := by decide +kernel
theorem dL_law_677 : decode cL_law 677 = .ok (.iload_n 3, 1) := by decide +kernel
theorem dL_law_678 : decode cL_law 678 = .ok (.iconst 2, 1) := by decide +kernel
theorem dL_law_679 : decode cL_law 679 = .ok (.iadd, 1) := by decide +kernel
theorem dL_law_680 : decode cL_law 680 = .ok (.iaload, 1) := by decide +kernel
theorem dL_law_681 : decode cL_law 681 = .ok (.aload_n 0, 1) := by decide +kernel
theorem dL_law_682 : decode cL_law 682 = .ok (.iload_n 3, 1) := by decide +kernel
theorem dL_law_683 : decode cL_law 683 = .ok (.iconst 3, 1) := by decide +kernel
theorem dL_law_684 : decode cL_law 684 = .ok (.iadd, 1) := by decide +kernel
theorem dL_law_685 : decode cL_law 685 = .ok (.iaload, 1) := by decide +kernel
theorem dL_law_686 : decode cL_law 686 = .ok (.invokevirtual 97, 3) := by decide +kernel
theorem dL_law_689 : decode cL_law 689 = .ok (.aload_n 2, 1) := by decide +kernel
theorem dL_law_690 : decode cL_law 690 = .ok (.aload_n 0, 1) := by decide +kernel
theorem dL_law_691 : decode cL_law 691 = .ok (.iload_n 3, 1) := by decide +kernel
theorem dL_law_692 : decode cL_law 692 = .ok (.iconst 1, 1) := by decide +kernel
theorem dL_law_693 : decode cL_law 693 = .ok (.iadd, 1) := by decide +kernel
theorem dL_law_694 : decode cL_law 694 = .ok (.iaload, 1) := by decide +kernel
theorem dL_law_695 : decode cL_law 695 = .ok (.aload_n 0, 1) := by decide +kernel
theorem dL_law_696 : decode cL_law 696 = .ok (.iload_n 3, 1) := by decide +kernel
theorem dL_law_697 : decode cL_law 697 = .ok (.iconst 2, 1) := by decide +kernel
theorem dL_law_698 : decode cL_law 698 = .ok (.iadd, 1) := by decide +kernel
theorem dL_law_699 : decode cL_law 699 = .ok (.iaload, 1) := by decide +kernel
theorem dL_law_700 : decode cL_law 700 = .ok (.aload_n 0, 1) := by decide +kernel
theorem dL_law_701 : decode cL_law 701 = .ok (.iload_n 3, 1) := by decide +kernel
theorem dL_law_702 : decode cL_law 702 = .ok (.iconst 3, 1) := by decide +kernel
theorem dL_law_703 : decode cL_law 703 = .ok (.iadd, 1) := by decide +kernel
theorem dL_law_704 : decode cL_law 704 = .ok (.iaload, 1) := by decide +kernel
theorem dL_law_705 : decode cL_law 705 = .ok (.invokevirtual 100, 3) := by decide +kernel
theorem dL_law_708 : decode cL_law 708 = .ok (.if_icmp .eq 41, 3) := by decide +kernel
theorem dL_law_711 : decode cL_law 711 = .ok (.iconst 0, 1) := by decide +kernel
theorem dL_law_712 : decode cL_law 712 = .ok (.ireturn, 1) := by decide +kernel
theorem dL_law_713 : decode cL_law 713 = .ok (.aload_n 1, 1) := by decide +kernel
theorem dL_law_714 : decode cL_law 714 = .ok (.invokevirtual 101, 3) := by decide +kernel
theorem dL_law_717 : decode cL_law 717 = .ok (.aload_n 2, 1) := by decide +kernel
theorem dL_law_718 : decode cL_law 718 = .ok (.invokevirtual 104, 3) := by decide +kernel
theorem dL_law_721 : decode cL_law 721 = .ok (.if_icmp .eq 28, 3) := by decide +kernel
theorem dL_law_724 : decode cL_law 724 = .ok (.iconst 0, 1) := by decide +kernel
theorem dL_law_725 : decode cL_law 725 = .ok (.ireturn, 1) := by decide +kernel
theorem dL_law_726 : decode cL_law 726 = .ok (.aload_n 1, 1) := by decide +kernel
theorem dL_law_727 : decode cL_law 727 = .ok (.aload_n 0, 1) := by decide +kernel
theorem dL_law_728 : decode cL_law 728 = .ok (.iload_n 3, 1) := by decide +kernel
theorem dL_law_729 : decode cL_law 729 = .ok (.iconst 1, 1) := by decide +kernel
theorem dL_law_730 : decode cL_law 730 = .ok (.iadd, 1) := by decide +kernel
theorem dL_law_731 : decode cL_law 731 = .ok (.iaload, 1) := by decide +kernel
theorem dL_law_732 : decode cL_law 732 = .ok (.invokevirtual 105, 3) := by decide +kernel
theorem dL_law_735 : decode cL_law 735 = .ok (.aload_n 2, 1) := by decide +kernel
theorem dL_law_736 : decode cL_law 736 = .ok (.aload_n 0, 1) := by decide +kernel
theorem dL_law_737 : decode cL_law 737 = .ok (.iload_n 3, 1) := by decide +kernel
theorem dL_law_738 : decode cL_law 738 = .ok (.iconst 1, 1) := by decide +kernel
theorem dL_law_739 : decode cL_law 739 = .ok (.iadd, 1) := by decide +kernel
theorem dL_law_740 : decode cL_law 740 = .ok (.iaload, 1) := by decide +kernel
theorem dL_law_741 : decode cL_law 741 = .ok (.invokevirtual 108, 3) := by decide +kernel
theorem dL_law_744 : decode cL_law 744 = .ok (.if_icmp .eq 5, 3) := by decide +kernel
theorem dL_law_747 : decode cL_law 747 = .ok (.iconst 0, 1) := by decide +kernel
theorem dL_law_748 : decode cL_law 748 = .ok (.ireturn, 1) := by decide +kernel
theorem dL_law_749 : decode cL_law 749 = .ok (.iinc 3 4, 3) := by decide +kernel
theorem dL_law_752 : decode cL_law 752 = .ok (.goto (-734), 3) := by decide +kernel
theorem dL_law_755 : decode cL_law 755 = .ok (.iconst 1, 1) := by decide +kernel
theorem dL_law_756 : decode cL_law 756 = .ok (.ireturn, 1) := by decide +kernel
end
section
/-! ===== the frame of the walk: a store of ints by cell and place, a judgement qJ that carries the computation ===== -/
abbrev qSt : Type := Nat → Nat → Int32
def qset (σ : qSt) (k j : Nat) (v : Int32) : qSt := fun k' j' => if k' = k then (if j' = j then v else σ k' j') else σ k' j'
abbrev qR : Type := Option (Int32 × qSt)
def qb (x : qR) (f : Int32 → qSt → qR) : qR := match x with
  | none => none
  | some z => f z.1 z.2
def qz (x : qR) : qR := match x with
  | none => none
  | some z => if z.1 = 0 ∨ z.1 = 1 then some z else none
/-- kinds of the cells: 0 Ground, 1 Outlook, 2 Plan, 3 LineSearch, 4 Model, 5 rows of ints -/
def qkl : List Nat := [3, 0, 5, 2, 5, 5, 1, 5, 5, 5, 5, 5, 2, 5, 5, 2, 5, 5, 4, 5, 5, 5, 5, 5, 5]
def qnl : List Nat := [0, 0, 27, 0, 30, 30, 0, 9, 27, 729, 243, 3, 0, 30, 30, 0, 30, 30, 0, 27, 30, 30, 729, 729, 30]
def qk (k : Nat) : Nat := qkl.getD k 6
def qlen (k : Nat) : Nat := qnl.getD k 0
abbrev qcl : List vw_C := [(RX0, TX0, 3), (RX1, TX1, 8), (RX2, TX2, 3), (RX3, TX3, 11), (RX4, TX4, 15)]
def qfs (b : Nat) (σ : qSt) (k : Nat) (ci : Nat) : List Value := match ci with
  | 0 => [.int (σ k 0), .int (σ k 1), .ref (b + (k + 1))]
  | 1 => [.int (σ k 0), .int (σ k 1), .ref (b + (k + 1)), .ref (b + (k + 2)), .int (σ k 4), .ref (b + (k + 3)), .ref (b + (k + 4)), .ref (b + (k + 5))]
  | 2 => [.ref (b + (k + 1)), .ref (b + (k + 2)), .int (σ k 2)]
  | 3 => [.int (σ k 0), .int (σ k 1), .ref (b + (k + 1)), .ref (b + (k + 3)), .ref (b + (k + 6)), .ref (b + (k + 12)), .ref (b + (k + 15)), .int (σ k 7), .int (σ k 8), .int (σ k 9), .int (σ k 10)]
  | 4 => [.int (σ k 0), .int (σ k 1), .int (σ k 2), .int (σ k 3), .ref (b + (k + 1)), .int (σ k 5), .ref (b + (k + 2)), .ref (b + (k + 3)), .ref (b + (k + 4)), .ref (b + (k + 5)), .int (σ k 10), .ref (b + (k + 6)), .int (σ k 12), .int (σ k 13), .int (σ k 14)]
  | _ => []
def qent (b : Nat) (cA : ClassId) (σ : qSt) (k : Nat) : va_E := if qk k < 5 then .inr (qk k, qfs b σ k (qk k)) else .inl (cA, qlen k, .inl (σ k))
def qw (b : Nat) (cA : ClassId) (σ : qSt) (K : List Nat) : va_W := K.map (fun k => (b + k, qent b cA σ k))
/-- a cell that is there, of a kind -/
def qIn (K : List Nat) (k ci : Nat) : Prop := k ∈ K ∧ qk k = ci
def qoff : Nat → Nat → Nat
  | 0, 2 => 1
  | 1, 2 => 1
  | 1, 3 => 2
  | 1, 5 => 3
  | 1, 6 => 4
  | 1, 7 => 5
  | 2, 0 => 1
  | 2, 1 => 2
  | 3, 2 => 1
  | 3, 3 => 3
  | 3, 4 => 6
  | 3, 5 => 12
  | 3, 6 => 15
  | 4, 4 => 1
  | 4, 6 => 2
  | 4, 7 => 3
  | 4, 8 => 4
  | 4, 9 => 5
  | 4, 11 => 6
  | _, _ => 0
/-- a set of cells, with what they refer to -/
def qOk (K : List Nat) : Prop := K.Nodup ∧ ∀ k ∈ K, ∀ j, j < 15 → qoff (qk k) j ≠ 0 → k + qoff (qk k) j ∈ K
theorem qlt_of {k ci : Nat} (h : qk k = ci) (hc : ci < 6) : k < 25 := by
  rcases Nat.lt_or_ge k 25 with h1 | h1
  · exact h1
  · exfalso
    have : qk k = 6 := by
      unfold qk
      rw [List.getD_eq_getElem?_getD, List.getElem?_eq_none (by simpa [qkl] using h1)]
      rfl
    omega
theorem qIn.child {K : List Nat} (hK : qOk K) {k ci : Nat} (h : qIn K k ci) (j off kd : Nat) (hj : j < 15) (ho : qoff ci j = off) (hn : off ≠ 0) (hd : ∀ q, q < 25 → qk q = ci → qk (q + off) = kd) (hc : ci < 6) : qIn K (k + off) kd := by
  obtain ⟨h1, h2⟩ := h
  refine ⟨?_, hd k (qlt_of h2 hc) h2⟩
  have := hK.2 k h1 j hj (by rw [h2, ho]; exact hn)
  rwa [h2, ho] at this
theorem qw_at {b : Nat} {cA : ClassId} {σ : qSt} {K : List Nat} {k : Nat} (h : k ∈ K) : ∃ i : Nat, K[i]? = some k ∧ (qw b cA σ K)[i]? = some (b + k, qent b cA σ k) := by
  obtain ⟨i, hi⟩ := List.getElem?_of_mem h
  exact ⟨i, hi, by rw [qw, List.getElem?_map, hi]; rfl⟩
theorem qnodup {K : List Nat} (h : K.Nodup) {i j k : Nat} (hi : K[i]? = some k) (hj : K[j]? = some k) : i = j := by
  obtain ⟨a, ha⟩ := List.getElem?_eq_some_iff.mp hi
  obtain ⟨c, hc⟩ := List.getElem?_eq_some_iff.mp hj
  exact (List.getElem_inj h).mp (ha.trans hc.symm)
/-- the world behind a write to one cell -/
theorem qw_put {D : va_G} {cl : List vw_C} {b : Nat} {cA : ClassId} {σ σ' : qSt} {K : List Nat} {k i : Nat} {e : va_E} {H1 : Heap} (hn : K.Nodup) (hi : K[i]? = some k) (he : qent b cA σ' k = e) (ho : ∀ k', k' ≠ k → qent b cA σ' k' = qent b cA σ k') (h : va_P D cl ((qw b cA σ K).set i (b + k, e)) H1) : va_P D cl (qw b cA σ' K) H1 := by
  intro q x hx
  rw [qw, List.getElem?_map] at hx
  cases hq : K[q]? with
  | none => rw [hq] at hx; cases hx
  | some k' =>
    rw [hq] at hx
    cases hx
    by_cases hqi : q = i
    · subst hqi
      rw [hi] at hq
      cases hq
      refine h q _ ?_
      rw [List.getElem?_set_self (by rw [qw, List.length_map]; exact (List.getElem?_eq_some_iff.mp hi).1), ← he]
    · refine h q _ ?_
      rw [List.getElem?_set_ne (Ne.symm hqi), qw, List.getElem?_map, hq]
      have : k' ≠ k := fun z => hqi (qnodup hn (z ▸ hq) hi)
      show some (b + k', qent b cA σ k') = some (b + k', qent b cA σ' k')
      rw [ho k' this]
def qA (b : Nat) (K : List Nat) : Nat → Prop := fun q => ∃ k, k ∈ K ∧ q = b + k
theorem qw_D {A : Nat → Prop} {b : Nat} {cA : ClassId} {σ : qSt} {K : List Nat} (hn : K.Nodup) (hA : ∀ k ∈ K, A (b + k)) : va_D A (qw b cA σ K) := by
  have key : ∀ (i : Nat) (q : Nat × va_E), (qw b cA σ K)[i]? = some q → ∃ k, K[i]? = some k ∧ q = (b + k, qent b cA σ k) := by
    intro i q h
    rw [qw, List.getElem?_map] at h
    cases hq : K[i]? with
    | none => rw [hq] at h; cases h
    | some k => rw [hq] at h; cases h; exact ⟨k, rfl, rfl⟩
  refine ⟨fun i j p q hi hj hpq => ?_, fun i q hi => ?_⟩
  · obtain ⟨k, h1, rfl⟩ := key i p hi
    obtain ⟨k', h2, rfl⟩ := key j q hj
    have : k = k' := Nat.add_left_cancel hpq
    subst this
    exact qnodup hn h1 h2
  · obtain ⟨k, h1, rfl⟩ := key i q hi
    exact hA k (List.mem_of_getElem? h1)
/-- locals -/
def qLs (ls : Array Slot) (n : Nat) (L : List (Option Value)) : Prop := ls.size = n ∧ lv_wf ls ∧ ∀ (i : Nat) (v : Value), L[i]? = some (some v) → ls[i]? = some (.val v) ∧ v.category = 1
def qprs (L : List (Option Value)) : List (Nat × Value) := (List.range L.length).filterMap (fun i => (L[i]?.join).map (fun v => (i, v)))
theorem qprs_mem {L : List (Option Value)} {i : Nat} {v : Value} : (i, v) ∈ qprs L ↔ L[i]? = some (some v) := by
  unfold qprs
  rw [List.mem_filterMap]
  constructor
  · rintro ⟨j, -, h⟩
    cases hq : L[j]? with
    | none => rw [hq] at h; cases h
    | some o =>
      rw [hq] at h
      cases o with
      | none => cases h
      | some w => cases h; exact hq
  · intro h
    exact ⟨i, List.mem_range.mpr (List.getElem?_eq_some_iff.mp h).1, by rw [h]; rfl⟩
theorem qLs.has {ls : Array Slot} {n : Nat} {L : List (Option Value)} (h : qLs ls n L) : lv_has ls n (qprs L) := ⟨h.1, h.2.1, fun q hq => (h.2.2 q.1 q.2 (qprs_mem.mp hq)).1⟩
theorem qLs.put {ls ls' : Array Slot} {n i : Nat} {L : List (Option Value)} {v : Value} (hv : v.category = 1) (h : qLs ls n L) (h' : lv_has ls' n ((i, v) :: (qprs L).filter (fun q => !(q.1 == i) && !(q.1 + 1 == i && q.2.category == 2)))) : qLs ls' n (L.set i (some v)) := by
  refine ⟨h'.1, h'.2.1, fun j w hj => ?_⟩
  rw [List.getElem?_set] at hj
  by_cases hij : i = j
  · rw [if_pos hij] at hj
    split at hj
    · cases hj
      subst hij
      exact ⟨h'.2.2 (i, v) List.mem_cons_self, hv⟩
    · cases hj
  · rw [if_neg hij] at hj
    have hc := (h.2.2 j w hj).2
    refine ⟨h'.2.2 (j, w) (List.mem_cons_of_mem _ (List.mem_filter.mpr ⟨qprs_mem.mpr hj, ?_⟩)), hc⟩
    simp [hc]
    intro z
    exact hij z.symm
def qle : List (Option Value) → List (Option Value) → Prop
  | [], _ => True
  | none :: a, _ :: c => qle a c
  | some v :: a, some w :: c => v = w ∧ qle a c
  | _ :: _, _ => False
theorem qle_get : ∀ {A B : List (Option Value)}, qle A B → ∀ (i : Nat) (v : Value), A[i]? = some (some v) → B[i]? = some (some v)
  | [], _, _, i, v, h => by simp at h
  | none :: a, [], hl, i, v, h => by simp [qle] at hl
  | none :: a, _ :: c, hl, i, v, h => by
    cases i with
    | zero => simp at h
    | succ i => simp only [List.getElem?_cons_succ] at h ⊢; exact qle_get (A := a) (B := c) hl i v h
  | some x :: a, [], hl, i, v, h => by simp [qle] at hl
  | some x :: a, none :: c, hl, i, v, h => by simp [qle] at hl
  | some x :: a, some w :: c, hl, i, v, h => by
    obtain ⟨rfl, hl⟩ := hl
    cases i with
    | zero => exact h
    | succ i => simp only [List.getElem?_cons_succ] at h ⊢; exact qle_get (A := a) (B := c) hl i v h
theorem qLs.weak {ls : Array Slot} {n : Nat} {A B : List (Option Value)} (h : qLs ls n B) (hl : qle A B) : qLs ls n A := ⟨h.1, h.2.1, fun i v hi => h.2.2 i v (qle_get hl i v hi)⟩
/-- the words that every call keeps -/
def qtbl : List Cond := lw_tbl.filter goodWord
theorem qmem {w : Cond} (i : Nat) (h : lw_tbl[i]? = some w) (hg : goodWord w = true) : w ∈ qtbl := List.mem_filter.mpr ⟨List.mem_of_getElem? h, hg⟩
theorem qtbl_in {w : Cond} (h : w ∈ qtbl) : w ∈ lw_tbl := (List.mem_filter.mp h).1
def qnest : List (String × Nat × MethodName × String) := [("LineSearch$Ground", 26, ⟨"LineSearch", "putAll", "([II)V"⟩, "LineSearch"), ("LineSearch$Ground", 34, ⟨"LineSearch", "at", "([II)I"⟩, "LineSearch"), ("LineSearch$Ground", 38, ⟨"LineSearch", "put", "([III)V"⟩, "LineSearch"), ("LineSearch$Plan", 30, ⟨"LineSearch", "put", "([III)V"⟩, "LineSearch"), ("LineSearch$Plan", 26, ⟨"LineSearch", "at", "([II)I"⟩, "LineSearch"), ("LineSearch$Outlook", 41, ⟨"LineSearch", "put", "([III)V"⟩, "LineSearch"), ("LineSearch$Outlook", 50, ⟨"LineSearch", "putAll", "([II)V"⟩, "LineSearch"), ("LineSearch$Outlook", 57, ⟨"LineSearch", "at", "([II)I"⟩, "LineSearch")]
def qNs (U : State) : Prop := ∀ q ∈ qnest, va_Nw (.methodLinkNest q.1 q.2.1 q.2.2.1 q.2.2.2) U
theorem qNs.moved {s U : State} (hW : s.WarmedH U.vm) (h : qNs s) : qNs U := fun q hq => va_Nw.warmM hW (h q hq)
def qKK (dC : Nat → ClassId) (dI : Nat → Nat → Nat) (cA : ClassId) (U : State) : Prop := va_K (dC, dI) qcl [(cA, .int)] U ∧ qNs U
theorem qKK.moved {dC : Nat → ClassId} {dI : Nat → Nat → Nat} {cA : ClassId} {s U : State} (hW : s.WarmedH U.vm) (h : qKK dC dI cA s) : qKK dC dI cA U := ⟨va_K.moved hW.alike h.1, h.2.moved hW⟩
/-- what stands of the method and the machine -/
def qF (own : String) (cc : ByteArray) (nL fr lo : Nat) (G : State → (Nat → Prop) → Prop) (b : Nat) (K : List Nat) (p : Program) (R : Room) (s : State) (m : MethodId) (args : Array Value) (c : Code) (cells slots : Nat) (dC : Nat → ClassId) (dI : Nat → Nat → Nat) (cA : ClassId) (A : Nat → Prop) : Prop :=
  CallFix p m c cc nL s args qtbl own ∧ (fr ≤ R.frames ∧ lo ≤ R.locals ∧ cells ≤ R.cells ∧ slots ≤ R.slots) ∧ qKK dC dI cA s ∧ K.Nodup ∧ (∀ k ∈ K, A (b + k)) ∧ G s A
def qRet (cc : ByteArray) (vd : Bool) (pc : Nat) (st : List Value) (r : Int32) : Prop := (vd = false ∧ decode cc pc = .ok (.ireturn, 1) ∧ st = [.int r]) ∨ (vd = true ∧ decode cc pc = .ok (.return_, 1) ∧ st = [] ∧ r = 0)
def qJ (own : String) (cc : ByteArray) (nL fr lo : Nat) (vd : Bool) (G : State → (Nat → Prop) → Prop) (b : Nat) (K : List Nat) (pc : Nat) (L : List (Option Value)) (st : List Value) (σ : qSt) (e : qR) : Prop :=
  ∀ z : Int32 × qSt, e = some z → ∀ (p : Program) (l : Launch) (ev : Env) (R : Room) (s : State) (m : MethodId) (args : Array Value) (below : List Frame) (meth : Method) (c : Code) (H : Heap) (locs : List Loc) (cells slots : Nat) (Q : State → Prop) (dC : Nat → ClassId) (dI : Nat → Nat → Nat) (cA : ClassId) (A : Nat → Prop),
    qF own cc nL fr lo G b K p R s m args c cells slots dC dI cA A → va_P (dC, dI) qcl (qw b cA σ K) H → va_S A s.heap H locs →
    (∀ (pcr : Nat) (st' : List Value) (H' : Heap) (locs' : List Loc) (ls' : Array Slot), qRet cc vd pcr st' z.1 → va_P (dC, dI) qcl (qw b cA z.2 K) H' → va_S A s.heap H' locs' → W p l ev R s m args below meth c H' locs' cells slots Q (F0 m pcr ls' st')) →
    ∀ ls : Array Slot, qLs ls nL L → W p l ev R s m args below meth c H locs cells slots Q (F0 m pc ls st)
section QROWS
variable {own : String} {cc : ByteArray} {nL fr lo : Nat} {vd : Bool} {G : State → (Nat → Prop) → Prop} {b : Nat} {K : List Nat} {pc : Nat} {L : List (Option Value)} {st : List Value} {σ : qSt} {e : qR}
theorem qJ_none : qJ own cc nL fr lo vd G b K pc L st σ none := fun z hz => by cases hz
theorem qJ_eq {e' : qR} (h : e = e') (k : qJ own cc nL fr lo vd G b K pc L st σ e') : qJ own cc nL fr lo vd G b K pc L st σ e := h ▸ k
theorem qJ_weak (L' : List (Option Value)) (hl : qle L' L) (k : qJ own cc nL fr lo vd G b K pc L' st σ e) : qJ own cc nL fr lo vd G b K pc L st σ e :=
  fun z hz p l ev R s m args below meth c H locs cells slots Q dC dI cA A hF hP hS hr ls hL => k z hz p l ev R s m args below meth c H locs cells slots Q dC dI cA A hF hP hS hr ls (hL.weak hl)
theorem q_iconst {n : Int} (v : Int32) (hd : decode cc pc = .ok (.iconst n, 1)) (hv : Int32.ofInt n = v) (k : qJ own cc nL fr lo vd G b K (pc + 1) L (.int v :: st) σ e) : qJ own cc nL fr lo vd G b K pc L st σ e :=
  fun z hz p l ev R s m args below meth c H locs cells slots Q dC dI cA A hF hP hS hr ls hL => lv_iconst hF.1.1 hF.1.2.1 hd hv (k z hz p l ev R s m args below meth c H locs cells slots Q dC dI cA A hF hP hS hr ls hL)
theorem q_bipush {n : Int} (v : Int32) (hd : decode cc pc = .ok (.bipush n, 2)) (hv : (Int8.ofInt n).toInt32 = v) (k : qJ own cc nL fr lo vd G b K (pc + 2) L (.int v :: st) σ e) : qJ own cc nL fr lo vd G b K pc L st σ e :=
  fun z hz p l ev R s m args below meth c H locs cells slots Q dC dI cA A hF hP hS hr ls hL => lv_bipush hF.1.1 hF.1.2.1 hd hv (k z hz p l ev R s m args below meth c H locs cells slots Q dC dI cA A hF hP hS hr ls hL)
theorem q_sipush {n : Int} (v : Int32) (hd : decode cc pc = .ok (.sipush n, 3)) (hv : (Int16.ofInt n).toInt32 = v) (k : qJ own cc nL fr lo vd G b K (pc + 3) L (.int v :: st) σ e) : qJ own cc nL fr lo vd G b K pc L st σ e :=
  fun z hz p l ev R s m args below meth c H locs cells slots Q dC dI cA A hF hP hS hr ls hL => lv_sipush hF.1.1 hF.1.2.1 hd hv (k z hz p l ev R s m args below meth c H locs cells slots Q dC dI cA A hF hP hS hr ls hL)
theorem q_ldc {index : Nat} (v : Int32) (hd : decode cc pc = .ok (.ldc index, 2)) (hw : Cond.constant own index v ∈ qtbl) (k : qJ own cc nL fr lo vd G b K (pc + 2) L (.int v :: st) σ e) : qJ own cc nL fr lo vd G b K pc L st σ e :=
  fun z hz p l ev R s m args below meth c H locs cells slots Q dC dI cA A hF hP hS hr ls hL => lv_ldc hF.1.1 hF.1.2.1 hF.1.2.2.2.1 (hF.1.2.2.2.2 _ hw) hd (k z hz p l ev R s m args below meth c H locs cells slots Q dC dI cA A hF hP hS hr ls hL)
theorem q_iload_n {i : Fin 4} {x : Int32} (hd : decode cc pc = .ok (.iload_n i, 1)) (hl : L[(i : Nat)]? = some (some (.int x))) (k : qJ own cc nL fr lo vd G b K (pc + 1) L (.int x :: st) σ e) : qJ own cc nL fr lo vd G b K pc L st σ e :=
  fun z hz p l ev R s m args below meth c H locs cells slots Q dC dI cA A hF hP hS hr ls hL => lv_iload_n hF.1.1 hF.1.2.1 hd rfl (hL.2.2 _ _ hl).1 (k z hz p l ev R s m args below meth c H locs cells slots Q dC dI cA A hF hP hS hr ls hL)
theorem q_iload {i : Nat} {x : Int32} (hd : decode cc pc = .ok (.iload i, 2)) (hl : L[i]? = some (some (.int x))) (k : qJ own cc nL fr lo vd G b K (pc + 2) L (.int x :: st) σ e) : qJ own cc nL fr lo vd G b K pc L st σ e :=
  fun z hz p l ev R s m args below meth c H locs cells slots Q dC dI cA A hF hP hS hr ls hL => lv_iload hF.1.1 hF.1.2.1 hd (hL.2.2 _ _ hl).1 (k z hz p l ev R s m args below meth c H locs cells slots Q dC dI cA A hF hP hS hr ls hL)
theorem q_aload_n {i : Fin 4} {x : Nat} (hd : decode cc pc = .ok (.aload_n i, 1)) (hl : L[(i : Nat)]? = some (some (.ref x))) (k : qJ own cc nL fr lo vd G b K (pc + 1) L (.ref x :: st) σ e) : qJ own cc nL fr lo vd G b K pc L st σ e :=
  fun z hz p l ev R s m args below meth c H locs cells slots Q dC dI cA A hF hP hS hr ls hL => lv_aload_n hF.1.1 hF.1.2.1 hd rfl (hL.2.2 _ _ hl).1 (k z hz p l ev R s m args below meth c H locs cells slots Q dC dI cA A hF hP hS hr ls hL)
theorem q_istore_n {i : Fin 4} {x : Int32} (hd : decode cc pc = .ok (.istore_n i, 1)) (hn : (i : Nat) < nL) (k : qJ own cc nL fr lo vd G b K (pc + 1) (L.set (i : Nat) (some (.int x))) st σ e) : qJ own cc nL fr lo vd G b K pc L (.int x :: st) σ e :=
  fun z hz p l ev R s m args below meth c H locs cells slots Q dC dI cA A hF hP hS hr ls hL => lv_istore_n hF.1.1 hF.1.2.1 hd rfl hL.has hn rfl (fun ls' h' => k z hz p l ev R s m args below meth c H locs cells slots Q dC dI cA A hF hP hS hr ls' (hL.put rfl h'))
theorem q_istore {i : Nat} {x : Int32} (hd : decode cc pc = .ok (.istore i, 2)) (hn : i < nL) (k : qJ own cc nL fr lo vd G b K (pc + 2) (L.set i (some (.int x))) st σ e) : qJ own cc nL fr lo vd G b K pc L (.int x :: st) σ e :=
  fun z hz p l ev R s m args below meth c H locs cells slots Q dC dI cA A hF hP hS hr ls hL => lv_istore hF.1.1 hF.1.2.1 hd hL.has hn rfl (fun ls' h' => k z hz p l ev R s m args below meth c H locs cells slots Q dC dI cA A hF hP hS hr ls' (hL.put rfl h'))
theorem q_iinc {i : Nat} {n : Int} {x : Int32} (v : Int32) (hd : decode cc pc = .ok (.iinc i n, 3)) (hl : L[i]? = some (some (.int x))) (hn : i < nL) (hv : Int32.ofInt n = v) (k : qJ own cc nL fr lo vd G b K (pc + 3) (L.set i (some (.int (x + v)))) st σ e) : qJ own cc nL fr lo vd G b K pc L st σ e :=
  fun z hz p l ev R s m args below meth c H locs cells slots Q dC dI cA A hF hP hS hr ls hL => by
    obtain ⟨q, hq⟩ := List.getElem?_of_mem (qprs_mem.mpr hl)
    exact lv_iinc (v := x + v) hF.1.1 hF.1.2.1 hd hL.has hq (by rw [hv]) hn rfl (fun ls' h' => k z hz p l ev R s m args below meth c H locs cells slots Q dC dI cA A hF hP hS hr ls' (hL.put rfl h'))
theorem q_iadd {x y : Int32} (hd : decode cc pc = .ok (.iadd, 1)) (k : qJ own cc nL fr lo vd G b K (pc + 1) L (.int (x + y) :: st) σ e) : qJ own cc nL fr lo vd G b K pc L (.int y :: .int x :: st) σ e :=
  fun z hz p l ev R s m args below meth c H locs cells slots Q dC dI cA A hF hP hS hr ls hL => lv_iadd hF.1.1 hF.1.2.1 hd (k z hz p l ev R s m args below meth c H locs cells slots Q dC dI cA A hF hP hS hr ls hL)
theorem q_isub {x y : Int32} (hd : decode cc pc = .ok (.isub, 1)) (k : qJ own cc nL fr lo vd G b K (pc + 1) L (.int (x - y) :: st) σ e) : qJ own cc nL fr lo vd G b K pc L (.int y :: .int x :: st) σ e :=
  fun z hz p l ev R s m args below meth c H locs cells slots Q dC dI cA A hF hP hS hr ls hL => lv_isub hF.1.1 hF.1.2.1 hd (k z hz p l ev R s m args below meth c H locs cells slots Q dC dI cA A hF hP hS hr ls hL)
theorem q_imul {x y : Int32} (hd : decode cc pc = .ok (.imul, 1)) (k : qJ own cc nL fr lo vd G b K (pc + 1) L (.int (x * y) :: st) σ e) : qJ own cc nL fr lo vd G b K pc L (.int y :: .int x :: st) σ e :=
  fun z hz p l ev R s m args below meth c H locs cells slots Q dC dI cA A hF hP hS hr ls hL => lv_imul hF.1.1 hF.1.2.1 hd (k z hz p l ev R s m args below meth c H locs cells slots Q dC dI cA A hF hP hS hr ls hL)
theorem q_iand {x y : Int32} (hd : decode cc pc = .ok (.iand, 1)) (k : qJ own cc nL fr lo vd G b K (pc + 1) L (.int (x &&& y) :: st) σ e) : qJ own cc nL fr lo vd G b K pc L (.int y :: .int x :: st) σ e :=
  fun z hz p l ev R s m args below meth c H locs cells slots Q dC dI cA A hF hP hS hr ls hL => lv_iand hF.1.1 hF.1.2.1 hd (k z hz p l ev R s m args below meth c H locs cells slots Q dC dI cA A hF hP hS hr ls hL)
/-- a divisor that is a constant -/
theorem q_idivc {x y : Int32} (hd : decode cc pc = .ok (.idiv, 1)) (hy : ¬ y = 0) (k : qJ own cc nL fr lo vd G b K (pc + 1) L (.int (x / y) :: st) σ e) : qJ own cc nL fr lo vd G b K pc L (.int y :: .int x :: st) σ e :=
  fun z hz p l ev R s m args below meth c H locs cells slots Q dC dI cA A hF hP hS hr ls hL => lv_idiv hF.1.1 hF.1.2.1 hd hy (k z hz p l ev R s m args below meth c H locs cells slots Q dC dI cA A hF hP hS hr ls hL)
theorem q_iremc {x y : Int32} (hd : decode cc pc = .ok (.irem, 1)) (hy : ¬ y = 0) (k : qJ own cc nL fr lo vd G b K (pc + 1) L (.int (x - x / y * y) :: st) σ e) : qJ own cc nL fr lo vd G b K pc L (.int y :: .int x :: st) σ e :=
  fun z hz p l ev R s m args below meth c H locs cells slots Q dC dI cA A hF hP hS hr ls hL => lv_irem hF.1.1 hF.1.2.1 hd hy (k z hz p l ev R s m args below meth c H locs cells slots Q dC dI cA A hF hP hS hr ls hL)
/-- a divisor that is looked at -/
theorem q_idiv {x y : Int32} (hd : decode cc pc = .ok (.idiv, 1)) (k : qJ own cc nL fr lo vd G b K (pc + 1) L (.int (x / y) :: st) σ e) : qJ own cc nL fr lo vd G b K pc L (.int y :: .int x :: st) σ (if y = 0 then none else e) := by
  by_cases hy : y = 0
  · rw [if_pos hy]; exact qJ_none
  · rw [if_neg hy]; exact q_idivc hd hy k
theorem q_irem {x y : Int32} (hd : decode cc pc = .ok (.irem, 1)) (k : qJ own cc nL fr lo vd G b K (pc + 1) L (.int (x - x / y * y) :: st) σ e) : qJ own cc nL fr lo vd G b K pc L (.int y :: .int x :: st) σ (if y = 0 then none else e) := by
  by_cases hy : y = 0
  · rw [if_pos hy]; exact qJ_none
  · rw [if_neg hy]; exact q_iremc hd hy k
theorem q_i2l {x : Int32} (hd : decode cc pc = .ok (.i2l, 1)) (k : qJ own cc nL fr lo vd G b K (pc + 1) L (.long x.toInt64 :: st) σ e) : qJ own cc nL fr lo vd G b K pc L (.int x :: st) σ e :=
  fun z hz p l ev R s m args below meth c H locs cells slots Q dC dI cA A hF hP hS hr ls hL => lv_i2l hF.1.1 hF.1.2.1 hd rfl (k z hz p l ev R s m args below meth c H locs cells slots Q dC dI cA A hF hP hS hr ls hL)
theorem q_lmul {x y : Int64} (hd : decode cc pc = .ok (.lmul, 1)) (k : qJ own cc nL fr lo vd G b K (pc + 1) L (.long (x * y) :: st) σ e) : qJ own cc nL fr lo vd G b K pc L (.long y :: .long x :: st) σ e :=
  fun z hz p l ev R s m args below meth c H locs cells slots Q dC dI cA A hF hP hS hr ls hL => lv_lmul hF.1.1 hF.1.2.1 hd (k z hz p l ev R s m args below meth c H locs cells slots Q dC dI cA A hF hP hS hr ls hL)
theorem q_lcmp {x y : Int64} (hd : decode cc pc = .ok (.lcmp, 1)) (k : qJ own cc nL fr lo vd G b K (pc + 1) L (.int (lg_cmp x y) :: st) σ e) : qJ own cc nL fr lo vd G b K pc L (.long y :: .long x :: st) σ e :=
  fun z hz p l ev R s m args below meth c H locs cells slots Q dC dI cA A hF hP hS hr ls hL => W.lcmp hF.1.1 hF.1.2.1 hd (k z hz p l ev R s m args below meth c H locs cells slots Q dC dI cA A hF hP hS hr ls hL)
theorem q_dup {v : Value} (hd : decode cc pc = .ok (.dup, 1)) (hv : v.category = 1) (k : qJ own cc nL fr lo vd G b K (pc + 1) L (v :: v :: st) σ e) : qJ own cc nL fr lo vd G b K pc L (v :: st) σ e :=
  fun z hz p l ev R s m args below meth c H locs cells slots Q dC dI cA A hF hP hS hr ls hL => lv_dup hF.1.1 hF.1.2.1 hd hv (k z hz p l ev R s m args below meth c H locs cells slots Q dC dI cA A hF hP hS hr ls hL)
theorem q_pop {v : Value} (hd : decode cc pc = .ok (.pop, 1)) (hv : v.category = 1) (k : qJ own cc nL fr lo vd G b K (pc + 1) L st σ e) : qJ own cc nL fr lo vd G b K pc L (v :: st) σ e :=
  fun z hz p l ev R s m args below meth c H locs cells slots Q dC dI cA A hF hP hS hr ls hL => lv_pop hF.1.1 hF.1.2.1 hd hv (k z hz p l ev R s m args below meth c H locs cells slots Q dC dI cA A hF hP hS hr ls hL)
theorem q_goto {off : Int} (tgt : Nat) (hd : decode cc pc = .ok (.goto off, 3)) (ht : (pc : Int) + off = (tgt : Int)) (k : qJ own cc nL fr lo vd G b K tgt L st σ e) : qJ own cc nL fr lo vd G b K pc L st σ e :=
  fun z hz p l ev R s m args below meth c H locs cells slots Q dC dI cA A hF hP hS hr ls hL => lv_goto hF.1.1 hF.1.2.1 hd ht (k z hz p l ev R s m args below meth c H locs cells slots Q dC dI cA A hF hP hS hr ls hL)
theorem q_ireturn {x : Int32} (hd : decode cc pc = .ok (.ireturn, 1)) : qJ own cc nL fr lo false G b K pc L [.int x] σ (some (x, σ)) :=
  fun z hz p l ev R s m args below meth c H locs cells slots Q dC dI cA A hF hP hS hr ls hL => by
    cases hz
    exact hr pc [.int x] H locs ls (Or.inl ⟨rfl, hd, rfl⟩) hP hS
theorem q_return (hd : decode cc pc = .ok (.return_, 1)) : qJ own cc nL fr lo true G b K pc L [] σ (some (0, σ)) :=
  fun z hz p l ev R s m args below meth c H locs cells slots Q dC dI cA A hF hP hS hr ls hL => by
    cases hz
    exact hr pc [] H locs ls (Or.inr ⟨rfl, hd, rfl, rfl⟩) hP hS
end QROWS
end
section
/-! ===== branches, fields, rows of ints ===== -/
section QROWS2
variable {own : String} {cc : ByteArray} {nL fr lo : Nat} {vd : Bool} {G : State → (Nat → Prop) → Prop} {b : Nat} {K : List Nat} {pc : Nat} {L : List (Option Value)} {st : List Value} {σ : qSt} {e e2 : qR}
theorem q_icmp_eq {x y : Int32} [hdc : Decidable (x = y)] {off : Int} (tgt : Nat) (hd : decode cc pc = .ok (.if_icmp .eq off, 3)) (ht : (pc : Int) + off = (tgt : Int)) (k1 : qJ own cc nL fr lo vd G b K tgt L st σ e) (k2 : qJ own cc nL fr lo vd G b K (pc + 3) L st σ e2) : qJ own cc nL fr lo vd G b K pc L (.int y :: .int x :: st) σ (if x = y then e else e2) :=
  fun z hz p l ev R s m args below meth c H locs cells slots Q dC dI cA A hF hP hS hr ls hL => lv_icmp_eq hF.1.1 hF.1.2.1 hd ht (fun hc => k1 z (by rw [if_pos hc] at hz; exact hz) p l ev R s m args below meth c H locs cells slots Q dC dI cA A hF hP hS hr ls hL) (fun hc => k2 z (by rw [if_neg hc] at hz; exact hz) p l ev R s m args below meth c H locs cells slots Q dC dI cA A hF hP hS hr ls hL)
theorem q_if_eq {x : Int32} [hdc : Decidable (x = 0)] {off : Int} (tgt : Nat) (hd : decode cc pc = .ok (.ifCond .eq off, 3)) (ht : (pc : Int) + off = (tgt : Int)) (k1 : qJ own cc nL fr lo vd G b K tgt L st σ e) (k2 : qJ own cc nL fr lo vd G b K (pc + 3) L st σ e2) : qJ own cc nL fr lo vd G b K pc L (.int x :: st) σ (if x = 0 then e else e2) :=
  fun z hz p l ev R s m args below meth c H locs cells slots Q dC dI cA A hF hP hS hr ls hL => lv_if_eq hF.1.1 hF.1.2.1 hd ht (fun hc => k1 z (by rw [if_pos hc] at hz; exact hz) p l ev R s m args below meth c H locs cells slots Q dC dI cA A hF hP hS hr ls hL) (fun hc => k2 z (by rw [if_neg hc] at hz; exact hz) p l ev R s m args below meth c H locs cells slots Q dC dI cA A hF hP hS hr ls hL)
theorem q_icmp_ne {x y : Int32} [hdc : Decidable (x = y)] {off : Int} (tgt : Nat) (hd : decode cc pc = .ok (.if_icmp .ne off, 3)) (ht : (pc : Int) + off = (tgt : Int)) (k1 : qJ own cc nL fr lo vd G b K tgt L st σ e) (k2 : qJ own cc nL fr lo vd G b K (pc + 3) L st σ e2) : qJ own cc nL fr lo vd G b K pc L (.int y :: .int x :: st) σ (if x = y then e2 else e) :=
  fun z hz p l ev R s m args below meth c H locs cells slots Q dC dI cA A hF hP hS hr ls hL => lv_icmp_ne hF.1.1 hF.1.2.1 hd ht (fun hc => k1 z (by rw [if_neg hc] at hz; exact hz) p l ev R s m args below meth c H locs cells slots Q dC dI cA A hF hP hS hr ls hL) (fun hc => k2 z (by rw [if_pos hc] at hz; exact hz) p l ev R s m args below meth c H locs cells slots Q dC dI cA A hF hP hS hr ls hL)
theorem q_if_ne {x : Int32} [hdc : Decidable (x = 0)] {off : Int} (tgt : Nat) (hd : decode cc pc = .ok (.ifCond .ne off, 3)) (ht : (pc : Int) + off = (tgt : Int)) (k1 : qJ own cc nL fr lo vd G b K tgt L st σ e) (k2 : qJ own cc nL fr lo vd G b K (pc + 3) L st σ e2) : qJ own cc nL fr lo vd G b K pc L (.int x :: st) σ (if x = 0 then e2 else e) :=
  fun z hz p l ev R s m args below meth c H locs cells slots Q dC dI cA A hF hP hS hr ls hL => lv_if_ne hF.1.1 hF.1.2.1 hd ht (fun hc => k1 z (by rw [if_neg hc] at hz; exact hz) p l ev R s m args below meth c H locs cells slots Q dC dI cA A hF hP hS hr ls hL) (fun hc => k2 z (by rw [if_pos hc] at hz; exact hz) p l ev R s m args below meth c H locs cells slots Q dC dI cA A hF hP hS hr ls hL)
theorem q_icmp_lt {x y : Int32} [hdc : Decidable (x < y)] {off : Int} (tgt : Nat) (hd : decode cc pc = .ok (.if_icmp .lt off, 3)) (ht : (pc : Int) + off = (tgt : Int)) (k1 : qJ own cc nL fr lo vd G b K tgt L st σ e) (k2 : qJ own cc nL fr lo vd G b K (pc + 3) L st σ e2) : qJ own cc nL fr lo vd G b K pc L (.int y :: .int x :: st) σ (if x < y then e else e2) :=
  fun z hz p l ev R s m args below meth c H locs cells slots Q dC dI cA A hF hP hS hr ls hL => lv_icmp_lt hF.1.1 hF.1.2.1 hd ht (fun hc => k1 z (by rw [if_pos hc] at hz; exact hz) p l ev R s m args below meth c H locs cells slots Q dC dI cA A hF hP hS hr ls hL) (fun hc => k2 z (by rw [if_neg hc] at hz; exact hz) p l ev R s m args below meth c H locs cells slots Q dC dI cA A hF hP hS hr ls hL)
theorem q_if_lt {x : Int32} [hdc : Decidable (x < 0)] {off : Int} (tgt : Nat) (hd : decode cc pc = .ok (.ifCond .lt off, 3)) (ht : (pc : Int) + off = (tgt : Int)) (k1 : qJ own cc nL fr lo vd G b K tgt L st σ e) (k2 : qJ own cc nL fr lo vd G b K (pc + 3) L st σ e2) : qJ own cc nL fr lo vd G b K pc L (.int x :: st) σ (if x < 0 then e else e2) :=
  fun z hz p l ev R s m args below meth c H locs cells slots Q dC dI cA A hF hP hS hr ls hL => lv_if_lt hF.1.1 hF.1.2.1 hd ht (fun hc => k1 z (by rw [if_pos hc] at hz; exact hz) p l ev R s m args below meth c H locs cells slots Q dC dI cA A hF hP hS hr ls hL) (fun hc => k2 z (by rw [if_neg hc] at hz; exact hz) p l ev R s m args below meth c H locs cells slots Q dC dI cA A hF hP hS hr ls hL)
theorem q_icmp_ge {x y : Int32} [hdc : Decidable (y ≤ x)] {off : Int} (tgt : Nat) (hd : decode cc pc = .ok (.if_icmp .ge off, 3)) (ht : (pc : Int) + off = (tgt : Int)) (k1 : qJ own cc nL fr lo vd G b K tgt L st σ e) (k2 : qJ own cc nL fr lo vd G b K (pc + 3) L st σ e2) : qJ own cc nL fr lo vd G b K pc L (.int y :: .int x :: st) σ (if y ≤ x then e else e2) :=
  fun z hz p l ev R s m args below meth c H locs cells slots Q dC dI cA A hF hP hS hr ls hL => lv_icmp_ge hF.1.1 hF.1.2.1 hd ht (fun hc => k1 z (by rw [if_pos hc] at hz; exact hz) p l ev R s m args below meth c H locs cells slots Q dC dI cA A hF hP hS hr ls hL) (fun hc => k2 z (by rw [if_neg hc] at hz; exact hz) p l ev R s m args below meth c H locs cells slots Q dC dI cA A hF hP hS hr ls hL)
theorem q_if_ge {x : Int32} [hdc : Decidable (0 ≤ x)] {off : Int} (tgt : Nat) (hd : decode cc pc = .ok (.ifCond .ge off, 3)) (ht : (pc : Int) + off = (tgt : Int)) (k1 : qJ own cc nL fr lo vd G b K tgt L st σ e) (k2 : qJ own cc nL fr lo vd G b K (pc + 3) L st σ e2) : qJ own cc nL fr lo vd G b K pc L (.int x :: st) σ (if 0 ≤ x then e else e2) :=
  fun z hz p l ev R s m args below meth c H locs cells slots Q dC dI cA A hF hP hS hr ls hL => lv_if_ge hF.1.1 hF.1.2.1 hd ht (fun hc => k1 z (by rw [if_pos hc] at hz; exact hz) p l ev R s m args below meth c H locs cells slots Q dC dI cA A hF hP hS hr ls hL) (fun hc => k2 z (by rw [if_neg hc] at hz; exact hz) p l ev R s m args below meth c H locs cells slots Q dC dI cA A hF hP hS hr ls hL)
theorem q_icmp_gt {x y : Int32} [hdc : Decidable (y < x)] {off : Int} (tgt : Nat) (hd : decode cc pc = .ok (.if_icmp .gt off, 3)) (ht : (pc : Int) + off = (tgt : Int)) (k1 : qJ own cc nL fr lo vd G b K tgt L st σ e) (k2 : qJ own cc nL fr lo vd G b K (pc + 3) L st σ e2) : qJ own cc nL fr lo vd G b K pc L (.int y :: .int x :: st) σ (if y < x then e else e2) :=
  fun z hz p l ev R s m args below meth c H locs cells slots Q dC dI cA A hF hP hS hr ls hL => lv_icmp_gt hF.1.1 hF.1.2.1 hd ht (fun hc => k1 z (by rw [if_pos hc] at hz; exact hz) p l ev R s m args below meth c H locs cells slots Q dC dI cA A hF hP hS hr ls hL) (fun hc => k2 z (by rw [if_neg hc] at hz; exact hz) p l ev R s m args below meth c H locs cells slots Q dC dI cA A hF hP hS hr ls hL)
theorem q_if_gt {x : Int32} [hdc : Decidable (0 < x)] {off : Int} (tgt : Nat) (hd : decode cc pc = .ok (.ifCond .gt off, 3)) (ht : (pc : Int) + off = (tgt : Int)) (k1 : qJ own cc nL fr lo vd G b K tgt L st σ e) (k2 : qJ own cc nL fr lo vd G b K (pc + 3) L st σ e2) : qJ own cc nL fr lo vd G b K pc L (.int x :: st) σ (if 0 < x then e else e2) :=
  fun z hz p l ev R s m args below meth c H locs cells slots Q dC dI cA A hF hP hS hr ls hL => lv_if_gt hF.1.1 hF.1.2.1 hd ht (fun hc => k1 z (by rw [if_pos hc] at hz; exact hz) p l ev R s m args below meth c H locs cells slots Q dC dI cA A hF hP hS hr ls hL) (fun hc => k2 z (by rw [if_neg hc] at hz; exact hz) p l ev R s m args below meth c H locs cells slots Q dC dI cA A hF hP hS hr ls hL)
theorem q_icmp_le {x y : Int32} [hdc : Decidable (x ≤ y)] {off : Int} (tgt : Nat) (hd : decode cc pc = .ok (.if_icmp .le off, 3)) (ht : (pc : Int) + off = (tgt : Int)) (k1 : qJ own cc nL fr lo vd G b K tgt L st σ e) (k2 : qJ own cc nL fr lo vd G b K (pc + 3) L st σ e2) : qJ own cc nL fr lo vd G b K pc L (.int y :: .int x :: st) σ (if x ≤ y then e else e2) :=
  fun z hz p l ev R s m args below meth c H locs cells slots Q dC dI cA A hF hP hS hr ls hL => lv_icmp_le hF.1.1 hF.1.2.1 hd ht (fun hc => k1 z (by rw [if_pos hc] at hz; exact hz) p l ev R s m args below meth c H locs cells slots Q dC dI cA A hF hP hS hr ls hL) (fun hc => k2 z (by rw [if_neg hc] at hz; exact hz) p l ev R s m args below meth c H locs cells slots Q dC dI cA A hF hP hS hr ls hL)
theorem q_if_le {x : Int32} [hdc : Decidable (x ≤ 0)] {off : Int} (tgt : Nat) (hd : decode cc pc = .ok (.ifCond .le off, 3)) (ht : (pc : Int) + off = (tgt : Int)) (k1 : qJ own cc nL fr lo vd G b K tgt L st σ e) (k2 : qJ own cc nL fr lo vd G b K (pc + 3) L st σ e2) : qJ own cc nL fr lo vd G b K pc L (.int x :: st) σ (if x ≤ 0 then e else e2) :=
  fun z hz p l ev R s m args below meth c H locs cells slots Q dC dI cA A hF hP hS hr ls hL => lv_if_le hF.1.1 hF.1.2.1 hd ht (fun hc => k1 z (by rw [if_pos hc] at hz; exact hz) p l ev R s m args below meth c H locs cells slots Q dC dI cA A hF hP hS hr ls hL) (fun hc => k2 z (by rw [if_neg hc] at hz; exact hz) p l ev R s m args below meth c H locs cells slots Q dC dI cA A hF hP hS hr ls hL)
theorem q_sel {x v : Int32} (k1 : x = v → qJ own cc nL fr lo vd G b K pc L st σ e) (k2 : ¬ x = v → qJ own cc nL fr lo vd G b K pc L st σ e2) : qJ own cc nL fr lo vd G b K pc L st σ (if x = v then e else e2) := by
  by_cases h : x = v
  · rw [if_pos h]; exact k1 h
  · rw [if_neg h]; exact k2 h
theorem q_tabIn {dflt lo1 hi : Int} {offs : Array Int} {len : Nat} {x : Int32} {off : Int} (tgt : Nat) (hd : decode cc pc = .ok (.tableswitch dflt lo1 hi offs, len)) (h1 : ¬ x.toInt < lo1) (h2 : ¬ hi < x.toInt) (ho : offs[(x.toInt - lo1).toNat]? = some off) (ht : (pc : Int) + off = (tgt : Int)) (k : qJ own cc nL fr lo vd G b K tgt L st σ e) : qJ own cc nL fr lo vd G b K pc L (.int x :: st) σ e :=
  fun z hz p l ev R s m args below meth c H locs cells slots Q dC dI cA A hF hP hS hr ls hL => lv_tableIn hF.1.1 hF.1.2.1 hd h1 h2 ho ht (k z hz p l ev R s m args below meth c H locs cells slots Q dC dI cA A hF hP hS hr ls hL)
theorem q_tabOut {dflt lo1 hi : Int} {offs : Array Int} {len : Nat} {x : Int32} (tgt : Nat) (hd : decode cc pc = .ok (.tableswitch dflt lo1 hi offs, len)) (h : x.toInt < lo1 ∨ hi < x.toInt) (ht : (pc : Int) + dflt = (tgt : Int)) (k : qJ own cc nL fr lo vd G b K tgt L st σ e) : qJ own cc nL fr lo vd G b K pc L (.int x :: st) σ e :=
  fun z hz p l ev R s m args below meth c H locs cells slots Q dC dI cA A hF hP hS hr ls hL => lv_tableOut hF.1.1 hF.1.2.1 hd h ht (k z hz p l ev R s m args below meth c H locs cells slots Q dC dI cA A hF hP hS hr ls hL)
theorem qent_o {cA : ClassId} {k j k' : Nat} {v : Int32} (h : k' ≠ k) : qent b cA (qset σ k j v) k' = qent b cA σ k' := by
  have hs : qset σ k j v k' = σ k' := by
    funext q
    simp [qset, h]
  unfold qent qfs
  rw [hs]
theorem q_get {k ci j N index : Nat} {C : String} {T : u_T} {v : Value} (hd : decode cc pc = .ok (.getfield index, 3)) (hk : qIn K k ci) (hci : ci < 5) (hc : qcl[ci]? = some (C, T, N)) (hin : ∀ w ∈ u_ws C T N, w ∈ qtbl) (hj : j < N) (hl : Cond.fieldLink own index (T j).1 (T j).2.1 (T j).2.2.1 ∈ qtbl) (hv : (qfs b σ k ci)[j]? = some v) (h : qJ own cc nL fr lo vd G b K (pc + 3) L (v :: st) σ e) : qJ own cc nL fr lo vd G b K pc L (.ref (b + k) :: st) σ e :=
  fun z hz p l ev R s m args below meth c H locs cells slots Q dC dI cA A hF hP hS hr ls hL => by
    obtain ⟨q0, -, he⟩ := qw_at (b := b) (cA := cA) (σ := σ) hk.1
    have he2 : qent b cA σ k = .inr (ci, qfs b σ k ci) := by unfold qent; rw [hk.2, if_pos hci]
    rw [he2] at he
    exact va_get hF.1.1 hF.1.2.1 hF.1.2.2.2.2 hin hF.1.2.2.2.1 hF.2.2.1.1 hP q0 he hc j hj (hF.1.2.2.2.2 _ hl) (fun x hx => hx) hv hd (h z hz p l ev R s m args below meth c H locs cells slots Q dC dI cA A hF hP hS hr ls hL)
theorem q_getN {k ci j N index : Nat} {C host : String} {T : u_T} {v : Value} (hd : decode cc pc = .ok (.getfield index, 3)) (hk : qIn K k ci) (hci : ci < 5) (hc : qcl[ci]? = some (C, T, N)) (hin : ∀ w ∈ u_ws C T N, w ∈ qtbl) (hj : j < N) (hl : Cond.fieldLinkNest own index (T j).1 (T j).2.1 (T j).2.2.1 host ∈ qtbl) (hv : (qfs b σ k ci)[j]? = some v) (h : qJ own cc nL fr lo vd G b K (pc + 3) L (v :: st) σ e) : qJ own cc nL fr lo vd G b K pc L (.ref (b + k) :: st) σ e :=
  fun z hz p l ev R s m args below meth c H locs cells slots Q dC dI cA A hF hP hS hr ls hL => by
    obtain ⟨q0, -, he⟩ := qw_at (b := b) (cA := cA) (σ := σ) hk.1
    have he2 : qent b cA σ k = .inr (ci, qfs b σ k ci) := by unfold qent; rw [hk.2, if_pos hci]
    rw [he2] at he
    exact va_getN hF.1.1 hF.1.2.1 hF.1.2.2.2.2 hin hF.1.2.2.2.1 hF.2.2.1.1 hP q0 he hc j hj (hF.1.2.2.2.2 _ hl) (fun x hx => hx) hv hd (h z hz p l ev R s m args below meth c H locs cells slots Q dC dI cA A hF hP hS hr ls hL)
theorem q_put {k ci j N index : Nat} {C : String} {T : u_T} {ty0 : Nat → FieldType} {ty : FieldType} {v : Int32} (hd : decode cc pc = .ok (.putfield index, 3)) (hk : qIn K k ci) (hci : ci < 5) (hc : qcl[ci]? = some (C, T, N)) (hin : ∀ w ∈ u_ws C T N, w ∈ qtbl) (hty : ∀ k, k < N → parseFieldDescriptor (T k).2.2.1 = some (ty0 k)) (hnm : ∀ a, a < N → ∀ b, b < N → a ≠ b → (T a).2.1 ≠ (T b).2.1) (hj : j < N) (hl : Cond.fieldLink own index (T j).1 (T j).2.1 (T j).2.2.1 ∈ qtbl) (hfin : (T j).2.2.2 = false) (hdt : parseFieldDescriptor (T j).2.2.1 = some ty) (hn : narrow ty (.int v) = .int v) (hfit : fits ty (.int v) = true) (hlen : j < (qfs b σ k ci).length) (hset : (qfs b σ k ci).set j (.int v) = qfs b (qset σ k j v) k ci) (h : qJ own cc nL fr lo vd G b K (pc + 3) L st (qset σ k j v) e) : qJ own cc nL fr lo vd G b K pc L (.int v :: .ref (b + k) :: st) σ e :=
  fun z hz p l ev R s m args below meth c H locs cells slots Q dC dI cA A hF hP hS hr ls hL => by
    obtain ⟨q0, hq0, he⟩ := qw_at (b := b) (cA := cA) (σ := σ) hk.1
    have he2 : ∀ σ : qSt, qent b cA σ k = .inr (ci, qfs b σ k ci) := fun σ => by unfold qent; rw [hk.2, if_pos hci]
    rw [he2] at he
    refine va_put hF.1.1 hF.1.2.1 hF.1.2.2.2.2 hin ty0 hty hnm hF.1.2.2.2.1 hF.2.2.1.1 hP (qw_D hF.2.2.2.1 hF.2.2.2.2.1) hS q0 he hc j hj (hF.1.2.2.2.2 _ hl) (fun x hx => hx) hfin hdt hn hfit hlen hd (fun H1 locs1 hP1 _ hS1 => ?_)
    refine h z hz p l ev R s m args below meth c H1 locs1 cells slots Q dC dI cA A hF (qw_put hF.2.2.2.1 hq0 ?_ (fun k' hk' => qent_o hk') hP1) hS1 hr ls hL
    rw [he2, hset]
def qin (i : Int32) (n : Nat) : Bool := decide (0 ≤ i) && decide (i.toNatClampNeg < n)
theorem qin_vp {i : Int32} {n : Nat} (h : qin i n = true) : vp_in i n := by
  simp only [qin, Bool.and_eq_true, decide_eq_true_eq] at h
  rintro (h1 | h1)
  · have a := Int32.lt_iff_toInt_lt.mp h1
    have c := Int32.le_iff_toInt_le.mp h.1
    omega
  · omega
theorem q_iald {k : Nat} {i : Int32} (hd : decode cc pc = .ok (.iaload, 1)) (hk : qIn K k 5) (h : qJ own cc nL fr lo vd G b K (pc + 1) L (.int (σ k i.toNatClampNeg) :: st) σ e) : qJ own cc nL fr lo vd G b K pc L (.int i :: .ref (b + k) :: st) σ (if qin i (qlen k) then e else none) :=
  fun z hz p l ev R s m args below meth c H locs cells slots Q dC dI cA A hF hP hS hr ls hL => by
    by_cases hi : qin i (qlen k) = true
    · rw [if_pos hi] at hz
      obtain ⟨q0, -, he⟩ := qw_at (b := b) (cA := cA) (σ := σ) hk.1
      have he2 : qent b cA σ k = .inl (cA, qlen k, .inl (σ k)) := by unfold qent; rw [hk.2]; rfl
      rw [he2] at he
      exact va_iald hF.1.1 hF.1.2.1 hF.2.2.1.1 hP q0 0 he rfl (qin_vp hi) hd (h z hz p l ev R s m args below meth c H locs cells slots Q dC dI cA A hF hP hS hr ls hL)
    · rw [if_neg hi] at hz
      cases hz
theorem q_iast {k : Nat} {i x : Int32} (hd : decode cc pc = .ok (.iastore, 1)) (hk : qIn K k 5) (h : qJ own cc nL fr lo vd G b K (pc + 1) L st (qset σ k i.toNatClampNeg x) e) : qJ own cc nL fr lo vd G b K pc L (.int x :: .int i :: .ref (b + k) :: st) σ (if qin i (qlen k) then e else none) :=
  fun z hz p l ev R s m args below meth c H locs cells slots Q dC dI cA A hF hP hS hr ls hL => by
    by_cases hi : qin i (qlen k) = true
    · rw [if_pos hi] at hz
      obtain ⟨q0, hq0, he⟩ := qw_at (b := b) (cA := cA) (σ := σ) hk.1
      have he2 : ∀ σ : qSt, qent b cA σ k = .inl (cA, qlen k, .inl (σ k)) := fun σ => by unfold qent; rw [hk.2]; rfl
      rw [he2] at he
      refine va_iast hF.1.1 hF.1.2.1 hF.2.2.1.1 hP (qw_D hF.2.2.2.1 hF.2.2.2.2.1) hS q0 0 he rfl (qin_vp hi) hd (fun H1 locs1 hP1 _ hS1 => ?_)
      refine h z hz p l ev R s m args below meth c H1 locs1 cells slots Q dC dI cA A hF (qw_put hF.2.2.2.1 hq0 ?_ (fun k' hk' => qent_o hk') hP1) hS1 hr ls hL
      rw [he2]
      have : qset σ k i.toNatClampNeg x k = upd (σ k) i.toNatClampNeg x := by
        funext q
        simp [qset, upd]
      rw [this]
    · rw [if_neg hi] at hz
      cases hz
theorem q_alen {k : Nat} (hd : decode cc pc = .ok (.arraylength, 1)) (hk : qIn K k 5) (h : qJ own cc nL fr lo vd G b K (pc + 1) L (.int (Int32.ofNat (qlen k)) :: st) σ e) : qJ own cc nL fr lo vd G b K pc L (.ref (b + k) :: st) σ e :=
  fun z hz p l ev R s m args below meth c H locs cells slots Q dC dI cA A hF hP hS hr ls hL => by
    obtain ⟨q0, -, he⟩ := qw_at (b := b) (cA := cA) (σ := σ) hk.1
    have he2 : qent b cA σ k = .inl (cA, qlen k, .inl (σ k)) := by unfold qent; rw [hk.2]; rfl
    rw [he2] at he
    exact va_alen hF.1.1 hF.1.2.1 hF.2.2.1.1 hP q0 0 he (ty := .int) rfl rfl hd (h z hz p l ev R s m args below meth c H locs cells slots Q dC dI cA A hF hP hS hr ls hL)
theorem q_mmax {x y : Int32} {index : Nat} (hd : decode cc pc = .ok (.invokestatic index, 3)) (hl : Cond.methodLink own index Lib.Math.max.name ∈ qtbl) (h1 : Cond.static Lib.Math.max.name ∈ qtbl) (h2 : Cond.initialized "java/lang/Math" ∈ qtbl) (h3 : Cond.code Lib.Math.max.name Lib.Math.max.code 2 (some .int) ∈ qtbl) (hfr : 1 ≤ fr) (hlo : (st.map fun v => v.category).sum + 13 ≤ lo) (h : qJ own cc nL fr lo vd G b K (pc + 3) L (.int (if x < y then y else x) :: st) σ e) : qJ own cc nL fr lo vd G b K pc L (.int y :: .int x :: st) σ e :=
  fun z hz p l ev R s m args below meth c H locs cells slots Q dC dI cA A hF hP hS hr ls hL => va_mmax hF.1.1 hF.1.2.1 (hF.1.2.2.1.trans hL.1.symm) hF.1.2.2.2.1 (hF.1.2.2.2.2 _ hl) (hF.1.2.2.2.2 _ h1) (hF.1.2.2.2.2 _ h2) (hF.1.2.2.2.2 _ h3) (Nat.le_trans hfr hF.2.1.1) (Nat.le_trans hlo hF.2.1.2.1) hF.2.1.2.2.1 hF.2.1.2.2.2 hd (h z hz p l ev R s m args below meth c H locs cells slots Q dC dI cA A hF hP hS hr ls hL)
theorem q_mmin {x y : Int32} {index : Nat} (hd : decode cc pc = .ok (.invokestatic index, 3)) (hl : Cond.methodLink own index Lib.Math.min.name ∈ qtbl) (h1 : Cond.static Lib.Math.min.name ∈ qtbl) (h2 : Cond.initialized "java/lang/Math" ∈ qtbl) (h3 : Cond.code Lib.Math.min.name Lib.Math.min.code 2 (some .int) ∈ qtbl) (hfr : 1 ≤ fr) (hlo : (st.map fun v => v.category).sum + 13 ≤ lo) (h : qJ own cc nL fr lo vd G b K (pc + 3) L (.int (if y < x then y else x) :: st) σ e) : qJ own cc nL fr lo vd G b K pc L (.int y :: .int x :: st) σ e :=
  fun z hz p l ev R s m args below meth c H locs cells slots Q dC dI cA A hF hP hS hr ls hL => va_mmin hF.1.1 hF.1.2.1 (hF.1.2.2.1.trans hL.1.symm) hF.1.2.2.2.1 (hF.1.2.2.2.2 _ hl) (hF.1.2.2.2.2 _ h1) (hF.1.2.2.2.2 _ h2) (hF.1.2.2.2.2 _ h3) (Nat.le_trans hfr hF.2.1.1) (Nat.le_trans hlo hF.2.1.2.1) hF.2.1.2.2.1 hF.2.1.2.2.2 hd (h z hz p l ev R s m args below meth c H locs cells slots Q dC dI cA A hF hP hS hr ls hL)
end QROWS2
end
section
/-! ===== contracts and calls ===== -/
def qo (ret : Option FieldType) (r : Int32) : Option Value := match ret with
  | none => none
  | some _ => some (.int r)
def qS (y : MethodName) (cc : ByteArray) (nL : Nat) (ret : Option FieldType) (fr lo : Nat) (b : Nat) (K : List Nat) (vs : List Value) (σ : qSt) (e : qR) : Prop :=
  ∀ z : Int32 × qSt, e = some z → ∀ (l : Launch) (dC : Nat → ClassId) (dI : Nat → Nat → Nat) (cA : ClassId),
    Met l y (.code y cc nL ret :: qtbl) { frames := fr, cells := 0, slots := 0, locals := lo } (va_Pc vs (fun U => va_P (dC, dI) qcl (qw b cA σ K) U.heap ∧ qKK dC dI cA U))
      (fun _ s oc t => (oc = .returned (qo ret z.1) ∧ va_P (dC, dI) qcl (qw b cA z.2 K) t.heap) ∧ va_F (qA b K) s t) 0 0 (qA b K)
def qL0 (n : Nat) (vs : List Value) : List (Option Value) := vs.map some ++ List.replicate (n - vs.length) none
theorem q_sl {vs : List Value} (hv : ∀ v ∈ vs, v.category = 1) : lg_sl vs = vs.map (fun v => Slot.val v) := by
  induction vs with
  | nil => rfl
  | cons a t ih =>
    have h1 := hv a List.mem_cons_self
    have := ih (fun v h => hv v (List.mem_cons_of_mem _ h))
    simp only [lg_sl] at this ⊢
    rw [List.flatMap_cons, this]
    simp [h1]
theorem q_args {vs : List Value} (hv : ∀ v ∈ vs, v.category = 1) : ∀ (n i : Nat) (v : Value), vs[i]? = some v → (n + i, v) ∈ lv_args n vs := by
  induction vs with
  | nil => intro n i v h; simp at h
  | cons a t ih =>
    intro n i v h
    have h1 := hv a List.mem_cons_self
    simp only [lv_args]
    cases i with
    | zero => simp at h; subst h; exact List.mem_cons_self
    | succ i =>
      rw [List.getElem?_cons_succ] at h
      have := ih (fun v h => hv v (List.mem_cons_of_mem _ h)) (n + 1) i v h
      rw [if_neg (by omega)]
      rw [show n + (i + 1) = n + 1 + i by omega]
      exact List.mem_cons_of_mem _ this
theorem qS_of {y : MethodName} {own : String} {cc : ByteArray} {nL fr lo : Nat} {ret : Option FieldType} {b : Nat} {K : List Nat} {vs : List Value} {σ : qSt} {e : qR} (hown : y.cls = own) (hpl : plainName y.cls = true) (hK : K.Nodup) (hv : ∀ v ∈ vs, v.category = 1) (hn : vs.length ≤ nL)
    (hret : ∀ z, e = some z → ∀ ty, ret = some ty → narrow ty (.int z.1) = .int z.1) (hJ : qJ own cc nL fr lo (ret == none) (fun _ _ => True) b K 0 (qL0 nL vs) [] σ e) : qS y cc nL ret fr lo b K vs σ e := by
  intro z hz l dC dI cA
  refine Met.ofW (cc := cc) (maxL := nL) (ret := ret) hpl rfl ?_
  intro p ev s m args below meth c s₁ B hml hv0
  obtain ⟨rfl, hP, hKK⟩ := hv0
  have hts := atoms_spec (ws := .code y cc nL ret :: qtbl) B.pre
  have hl := lv_entry vs (n := nL) (by rw [q_sl hv, List.length_map]; exact hn)
  rw [lg_entry_eq]
  generalize (lg_sl vs ++ List.replicate (nL - (lg_sl vs).length) Slot.unset).toArray = ls at hl ⊢
  have hown' : s.vm.findClass own = some m.cls := by rw [← hown]; exact findClass_of_methodNamed B.named
  have hlocks := B.notSynchronized
  have hr := B.returns
  refine hJ z hz p l ev _ s m vs.toArray below meth c s.heap [] 0 0 _ dC dI cA (qA b K) ⟨⟨B.exec, B.bytes, hml, hown', fun w hw => hts w (List.mem_cons_of_mem _ hw)⟩, ⟨Nat.le_refl _, Nat.le_refl _, Nat.zero_le _, Nat.zero_le _⟩, hKK, hK, fun k hk => ⟨k, hk, rfl⟩, trivial⟩ hP va_S.rf ?_ ls ⟨hl.1, hl.2.1, ?_⟩
  · intro pcr st' H' locs' ls' hq hP' hS'
    rcases hq with ⟨h1, h2, rfl⟩ | ⟨h1, h2, rfl, -⟩
    · cases ret with
      | none => cases h1
      | some ty =>
        refine W.zret B.exec B.bytes hr (hret z hz ty rfl) (fun t ht _ => ⟨⟨rfl, by rw [ht]; exact hP'⟩, hS'.F ht⟩) (fun q hq => hS'.2.2 q hq) h2 hlocks
    · cases ret with
      | some ty => cases h1
      | none =>
        refine W.vret B.exec B.bytes hr (fun t ht _ => ⟨⟨rfl, by rw [ht]; exact hP'⟩, hS'.F ht⟩) (fun q hq => hS'.2.2 q hq) h2 hlocks
  · intro i v hi
    rw [qL0, List.getElem?_append] at hi
    split at hi
    · rw [List.getElem?_map] at hi
      cases hq : vs[i]? with
      | none => rw [hq] at hi; cases hi
      | some w =>
        rw [hq] at hi
        cases hi
        have := q_args hv 0 i v hq
        rw [Nat.zero_add] at this
        exact ⟨hl.2.2 (i, v) this, hv v (List.mem_of_getElem? hq)⟩
    · rw [List.getElem?_replicate] at hi
      split at hi <;> cases hi
theorem q_good : qtbl.all goodWord = true := List.all_eq_true.mpr fun w h => (List.mem_filter.mp h).2
theorem q_gi {y : MethodName} {cc : ByteArray} {nL : Nat} {ret : Option FieldType} (h : Cond.code y cc nL ret ∈ qtbl) : GoodIn qtbl (.code y cc nL ret :: qtbl) := by
  intro w hw
  have hm : w ∈ qtbl := by
    rcases List.mem_cons.mp hw with rfl | h1
    · exact h
    · exact h1
  exact ⟨hm, good_of_word (List.all_eq_true.mp q_good w hm)⟩
/-- what the tables say of a method that is called -/
def qY (y : MethodName) (cc : ByteArray) (nL : Nat) (ret : Option FieldType) (n : Nat) : Prop := Cond.code y cc nL ret ∈ qtbl ∧ Cond.initialized y.cls ∈ qtbl ∧ (y.cls ≠ "java/lang/invoke/MethodHandle" ∧ y.cls ≠ "java/lang/invoke/VarHandle" ∧ (parseMethodDescriptor y.desc).map (fun d => d.parameters.length) = some n)
theorem q_blind {b : Nat} {K : List Nat} {vs : List Value} {σ : qSt} {dC : Nat → ClassId} {dI : Nat → Nat → Nat} {cA : ClassId} : FrameBlind (va_Pc vs (fun U => va_P (dC, dI) qcl (qw b cA σ K) U.heap ∧ qKK dC dI cA U)) :=
  fun a U g mk q => by
    obtain ⟨q0, q1, q2⟩ := q
    exact ⟨q0, q1, va_K.moved (u := U) (U := U.calling g mk a) (Vm.Alike.refl U.vm) q2.1, fun q hq => va_Nw.same rfl rfl (q2.2 q hq)⟩
section QCALLS
variable {own : String} {cc : ByteArray} {nL fr lo : Nat} {vd : Bool} {G : State → (Nat → Prop) → Prop} {b : Nat} {K : List Nat} {pc : Nat} {L : List (Option Value)} {st stk : List Value} {σ : qSt} {e1 : qR} {f : Int32 → qSt → qR}
variable {y : MethodName} {cc' : ByteArray} {nL' fr' lo' n index : Nat} {ret : Option FieldType}
theorem q_behind {p : Program} {l : Launch} {ev : Env} {R : Room} {s : State} {m : MethodId} {args : Array Value} {below : List Frame} {meth : Method} {c : Code} {H : Heap} {locs : List Loc} {cells slots : Nat} {Q : State → Prop} {dC : Nat → ClassId} {dI : Nat → Nat → Nat} {cA : ClassId} {A : Nat → Prop} {ls : Array Slot} {σ' : qSt} {v : Option Value}
    (hA : ∀ k ∈ K, A (b + k)) (hS : va_S A s.heap H locs)
    (hr : va_Run p l ev R s m args below meth c H locs cells slots 0 0 (F0 m pc ls stk) st (fun s oc t => (oc = .returned v ∧ va_P (dC, dI) qcl (qw b cA σ' K) t.heap) ∧ va_F (qA b K) s t) (qA b K))
    (kk : ∀ (H1 : Heap) (locs1 : List Loc), va_P (dC, dI) qcl (qw b cA σ' K) H1 → va_S A s.heap H1 locs1 → W p l ev R s m args below meth c H1 locs1 cells slots Q (F0 m (pc + 3) ls (v.toList ++ st))) : W p l ev R s m args below meth c H locs cells slots Q (F0 m pc ls stk) := by
  intro T hT X
  obtain ⟨v', st₀, t, T', L, h0, X', hL, e1, e2, ⟨⟨hv, hPt⟩, hz, hk⟩, go⟩ := hr T hT X
  cases hv
  rw [h0] at hz hk
  have hq : ∀ q, qA b K q → A q := fun q h => by obtain ⟨k, hk, rfl⟩ := h; exact hA k hk
  obtain ⟨t2, a1, b1⟩ := kk T'.heap (locs ++ L) (by rw [e1]; exact hPt)
    ⟨Nat.le_trans hS.1 (by rw [e1]; exact hz), fun q h1 h2 => by rw [e1, hk q (Nat.lt_of_lt_of_le h1 hS.1) (fun z => h2 (hq q z))]; exact hS.2.1 q h1 h2, fun q hq' => by
      rcases List.mem_append.mp hq' with h | h
      · exact hS.2.2 q h
      · exact hq _ (hL q h)⟩ T' rfl X'
  exact ⟨t2, go t2 a1, b1⟩
theorem qb_some {x : qR} {f : Int32 → qSt → qR} {z : Int32 × qSt} (h : qb x f = some z) : ∃ z1, x = some z1 ∧ f z1.1 z1.2 = some z := by
  cases x with
  | none => cases h
  | some z1 => exact ⟨z1, rfl, h⟩
theorem q_callV {k ci N : Nat} {C : String} {T : u_T} (As : List Value) (hd : decode cc pc = .ok (.invokevirtual index, 3)) (hl : Cond.methodLink own index y ∈ qtbl) (hy : qY y cc' nL' ret n) (hi : Cond.instanceMethod y ∈ qtbl ∧ Cond.selects C y y ∈ qtbl) (hk : qIn K k ci) (hci : ci < 5) (hc : qcl[ci]? = some (C, T, N)) (hs : qS y cc' nL' ret fr' lo' b K (.ref (b + k) :: As) σ e1) (hn : As.length = n) (hstk : stk = As.reverse ++ .ref (b + k) :: st) (hw : (st.map fun v => v.category).sum ≤ 8) (hroom : fr' + 1 ≤ fr ∧ 8 + (nL' + 11) + lo' ≤ lo)
    (h : ∀ (r : Int32) (σ' : qSt), qJ own cc nL fr lo vd G b K (pc + 3) L ((qo ret r).toList ++ st) σ' (f r σ')) : qJ own cc nL fr lo vd G b K pc L stk σ (qb e1 f) :=
  fun z hz p l ev R s m args below meth c H locs cells slots Q dC dI cA A hF hP hS hr ls hL => by
    obtain ⟨z1, h1, h2⟩ := qb_some hz
    obtain ⟨q0, -, he⟩ := qw_at (b := b) (cA := cA) (σ := σ) hk.1
    have he2 : qent b cA σ k = .inr (ci, qfs b σ k ci) := by unfold qent; rw [hk.2, if_pos hci]
    rw [he2] at he
    obtain ⟨hx, hb, hml, hown, hts⟩ := id hF.1
    have hM := hs z1 h1 l dC dI cA
    have cw := callB_of (R := R) (s := s) (args := args) (own := own) (index := index) (y := y) (bytes := cc') (maxL := nL') (ret := ret) (rm := { frames := fr', cells := 0, slots := 0, locals := lo' }) n hts (q_gi hy.1) rfl rfl rfl (hts _ hy.2.1) (hts _ hl) hy.2.2 ⟨Nat.le_trans hroom.1 hF.2.1.1, Nat.le_trans hroom.2 hF.2.1.2.1⟩
    refine q_behind hF.2.2.2.2.1 hS (va_runV (C := C) (As := As) (rest := st) (mc := 0) (ms := 0) ⟨hx, hb, hml, hown, hts⟩ hM ⟨cw, hts _ hi.1, hts _ hi.2⟩ ⟨q_blind, va_recv hF.2.2.1.1 hP hc he, fun U hU hW => ⟨rfl, by rw [hU]; exact hP, qKK.moved hW hF.2.2.1⟩⟩ rfl hn hL.1 hstk (lv_room hw) hd ⟨by rw [Nat.add_zero]; exact hF.2.1.2.2.1, by rw [Nat.add_zero]; exact hF.2.1.2.2.2⟩) (fun H1 locs1 hP1 hS1 => ?_)
    exact h z1.1 z1.2 z h2 p l ev R s m args below meth c H1 locs1 cells slots Q dC dI cA A hF hP1 hS1 hr ls hL
theorem q_callS (As : List Value) (hd : decode cc pc = .ok (.invokestatic index, 3)) (hl : Cond.methodLink own index y ∈ qtbl) (hy : qY y cc' nL' ret n) (hi : Cond.static y ∈ qtbl) (hs : qS y cc' nL' ret fr' lo' b K As σ e1) (hn : As.length = n) (hstk : stk = As.reverse ++ st) (hw : (st.map fun v => v.category).sum ≤ 8) (hroom : fr' + 1 ≤ fr ∧ 8 + (nL' + 11) + lo' ≤ lo)
    (h : ∀ (r : Int32) (σ' : qSt), qJ own cc nL fr lo vd G b K (pc + 3) L ((qo ret r).toList ++ st) σ' (f r σ')) : qJ own cc nL fr lo vd G b K pc L stk σ (qb e1 f) :=
  fun z hz p l ev R s m args below meth c H locs cells slots Q dC dI cA A hF hP hS hr ls hL => by
    obtain ⟨z1, h1, h2⟩ := qb_some hz
    obtain ⟨hx, hb, hml, hown, hts⟩ := id hF.1
    have hM := hs z1 h1 l dC dI cA
    have cw := callB_of (R := R) (s := s) (args := args) (own := own) (index := index) (y := y) (bytes := cc') (maxL := nL') (ret := ret) (rm := { frames := fr', cells := 0, slots := 0, locals := lo' }) n hts (q_gi hy.1) rfl rfl rfl (hts _ hy.2.1) (hts _ hl) hy.2.2 ⟨Nat.le_trans hroom.1 hF.2.1.1, Nat.le_trans hroom.2 hF.2.1.2.1⟩
    refine q_behind hF.2.2.2.2.1 hS (va_runS (As := As) (rest := st) (mc := 0) (ms := 0) ⟨hx, hb, hml, hown, hts⟩ hM ⟨cw, hts _ hi⟩ ⟨q_blind, fun U hU hW => ⟨rfl, by rw [hU]; exact hP, qKK.moved hW hF.2.2.1⟩⟩ rfl hn hL.1 hstk (lv_room hw) hd ⟨by rw [Nat.add_zero]; exact hF.2.1.2.2.1, by rw [Nat.add_zero]; exact hF.2.1.2.2.2⟩) (fun H1 locs1 hP1 hS1 => ?_)
    exact h z1.1 z1.2 z h2 p l ev R s m args below meth c H1 locs1 cells slots Q dC dI cA A hF hP1 hS1 hr ls hL
theorem q_callSN {host : String} (As : List Value) (hd : decode cc pc = .ok (.invokestatic index, 3)) (hl : (own, index, y, host) ∈ qnest) (hy : qY y cc' nL' ret n) (hi : Cond.static y ∈ qtbl) (hs : qS y cc' nL' ret fr' lo' b K As σ e1) (hn : As.length = n) (hstk : stk = As.reverse ++ st) (hw : (st.map fun v => v.category).sum ≤ 8) (hroom : fr' + 1 ≤ fr ∧ 8 + (nL' + 11) + lo' ≤ lo)
    (h : ∀ (r : Int32) (σ' : qSt), qJ own cc nL fr lo vd G b K (pc + 3) L ((qo ret r).toList ++ st) σ' (f r σ')) : qJ own cc nL fr lo vd G b K pc L stk σ (qb e1 f) :=
  fun z hz p l ev R s m args below meth c H locs cells slots Q dC dI cA A hF hP hS hr ls hL => by
    obtain ⟨z1, h1, h2⟩ := qb_some hz
    obtain ⟨hx, hb, hml, hown, hts⟩ := id hF.1
    have hM := hs z1 h1 l dC dI cA
    have hgi := q_gi hy.1
    have hc : Cond.code y cc' nL' ret ∈ (Cond.code y cc' nL' ret :: qtbl) := List.mem_cons_self
    have cw : va_CN R s args own index y host cc' nL' ret (Cond.code y cc' nL' ret :: qtbl) { frames := fr', cells := 0, slots := 0, locals := lo' } 0 0 n := ⟨⟨rfl, rfl, Nat.le_trans hroom.1 hF.2.1.1, Nat.le_trans hroom.2 hF.2.1.2.1, pay_in hts hgi, hc⟩, hts _ hy.1, hts _ hy.2.1, ⟨hy.2.2.1, hy.2.2.2.1⟩, fun sig hsg => by have h2 := hy.2.2.2.2; rw [hsg] at h2; exact (Option.some.inj h2).symm, va_Nw.use rfl (hF.2.2.1.2 _ hl)⟩
    refine q_behind hF.2.2.2.2.1 hS (va_runSN (As := As) (rest := st) (mc := 0) (ms := 0) ⟨hx, hb, hml, hown, hts⟩ hM ⟨cw, hts _ hi, trivial⟩ ⟨q_blind, fun U hU hW => ⟨rfl, by rw [hU]; exact hP, qKK.moved hW hF.2.2.1⟩⟩ rfl hn hL.1 hstk (lv_room hw) hd ⟨by rw [Nat.add_zero]; exact hF.2.1.2.2.1, by rw [Nat.add_zero]; exact hF.2.1.2.2.2⟩) (fun H1 locs1 hP1 hS1 => ?_)
    exact h z1.1 z1.2 z h2 p l ev R s m args below meth c H1 locs1 cells slots Q dC dI cA A hF hP1 hS1 hr ls hL
end QCALLS
end
section
/-! ===== by program (gen.py): rows of fields, links, methods ===== -/
def qfu : Nat := 1000
theorem qne {x : Int32} (c : Int32) (n : Int) (hc : c.toInt = n) (h : ¬ x = c) : x.toInt ≠ n := fun e => h (Int32.toInt_inj.mp (e.trans hc.symm))
theorem qz_bool {e : qR} {z : Int32 × qSt} (h : qz e = some z) : narrow .boolean (.int z.1) = .int z.1 := by
  cases e with
  | none => cases h
  | some w =>
    simp only [qz] at h
    split at h
    · cases h
      rename_i h1
      rcases h1 with h1 | h1 <;> rw [h1] <;> rfl
    · cases h
theorem qJ_qz {own : String} {cc : ByteArray} {nL fr lo : Nat} {vd : Bool} {G : State → (Nat → Prop) → Prop} {b : Nat} {K : List Nat} {pc : Nat} {L : List (Option Value)} {st : List Value} {σ : qSt} {e : qR} (k : qJ own cc nL fr lo vd G b K pc L st σ e) : qJ own cc nL fr lo vd G b K pc L st σ (qz e) := by
  intro z hz
  refine k z ?_
  cases e with
  | none => cases hz
  | some w =>
    simp only [qz] at hz
    split at hz
    · exact hz
    · cases hz
theorem inX0 : ∀ w ∈ u_ws RX0 TX0 3, w ∈ qtbl := by decide +kernel
theorem inX1 : ∀ w ∈ u_ws RX1 TX1 8, w ∈ qtbl := by decide +kernel
theorem inX2 : ∀ w ∈ u_ws RX2 TX2 3, w ∈ qtbl := by decide +kernel
theorem inX3 : ∀ w ∈ u_ws RX3 TX3 11, w ∈ qtbl := by decide +kernel
theorem inX4 : ∀ w ∈ u_ws RX4 TX4 15, w ∈ qtbl := by decide +kernel
theorem qch_0_2 {K : List Nat} {k : Nat} (hK : qOk K) (h : qIn K k 0) : qIn K (k + 1) 5 := qIn.child hK h 2 1 5 (by decide) rfl (by decide) (by decide) (by decide)
theorem qch_1_2 {K : List Nat} {k : Nat} (hK : qOk K) (h : qIn K k 1) : qIn K (k + 1) 5 := qIn.child hK h 2 1 5 (by decide) rfl (by decide) (by decide) (by decide)
theorem qch_1_3 {K : List Nat} {k : Nat} (hK : qOk K) (h : qIn K k 1) : qIn K (k + 2) 5 := qIn.child hK h 3 2 5 (by decide) rfl (by decide) (by decide) (by decide)
theorem qch_1_5 {K : List Nat} {k : Nat} (hK : qOk K) (h : qIn K k 1) : qIn K (k + 3) 5 := qIn.child hK h 5 3 5 (by decide) rfl (by decide) (by decide) (by decide)
theorem qch_1_6 {K : List Nat} {k : Nat} (hK : qOk K) (h : qIn K k 1) : qIn K (k + 4) 5 := qIn.child hK h 6 4 5 (by decide) rfl (by decide) (by decide) (by decide)
theorem qch_1_7 {K : List Nat} {k : Nat} (hK : qOk K) (h : qIn K k 1) : qIn K (k + 5) 5 := qIn.child hK h 7 5 5 (by decide) rfl (by decide) (by decide) (by decide)
theorem qch_2_0 {K : List Nat} {k : Nat} (hK : qOk K) (h : qIn K k 2) : qIn K (k + 1) 5 := qIn.child hK h 0 1 5 (by decide) rfl (by decide) (by decide) (by decide)
theorem qch_2_1 {K : List Nat} {k : Nat} (hK : qOk K) (h : qIn K k 2) : qIn K (k + 2) 5 := qIn.child hK h 1 2 5 (by decide) rfl (by decide) (by decide) (by decide)
theorem qch_3_2 {K : List Nat} {k : Nat} (hK : qOk K) (h : qIn K k 3) : qIn K (k + 1) 0 := qIn.child hK h 2 1 0 (by decide) rfl (by decide) (by decide) (by decide)
theorem qch_3_3 {K : List Nat} {k : Nat} (hK : qOk K) (h : qIn K k 3) : qIn K (k + 3) 2 := qIn.child hK h 3 3 2 (by decide) rfl (by decide) (by decide) (by decide)
theorem qch_3_4 {K : List Nat} {k : Nat} (hK : qOk K) (h : qIn K k 3) : qIn K (k + 6) 1 := qIn.child hK h 4 6 1 (by decide) rfl (by decide) (by decide) (by decide)
theorem qch_3_5 {K : List Nat} {k : Nat} (hK : qOk K) (h : qIn K k 3) : qIn K (k + 12) 2 := qIn.child hK h 5 12 2 (by decide) rfl (by decide) (by decide) (by decide)
theorem qch_3_6 {K : List Nat} {k : Nat} (hK : qOk K) (h : qIn K k 3) : qIn K (k + 15) 2 := qIn.child hK h 6 15 2 (by decide) rfl (by decide) (by decide) (by decide)
theorem qch_4_4 {K : List Nat} {k : Nat} (hK : qOk K) (h : qIn K k 4) : qIn K (k + 1) 5 := qIn.child hK h 4 1 5 (by decide) rfl (by decide) (by decide) (by decide)
theorem qch_4_6 {K : List Nat} {k : Nat} (hK : qOk K) (h : qIn K k 4) : qIn K (k + 2) 5 := qIn.child hK h 6 2 5 (by decide) rfl (by decide) (by decide) (by decide)
theorem qch_4_7 {K : List Nat} {k : Nat} (hK : qOk K) (h : qIn K k 4) : qIn K (k + 3) 5 := qIn.child hK h 7 3 5 (by decide) rfl (by decide) (by decide) (by decide)
theorem qch_4_8 {K : List Nat} {k : Nat} (hK : qOk K) (h : qIn K k 4) : qIn K (k + 4) 5 := qIn.child hK h 8 4 5 (by decide) rfl (by decide) (by decide) (by decide)
theorem qch_4_9 {K : List Nat} {k : Nat} (hK : qOk K) (h : qIn K k 4) : qIn K (k + 5) 5 := qIn.child hK h 9 5 5 (by decide) rfl (by decide) (by decide) (by decide)
theorem qch_4_11 {K : List Nat} {k : Nat} (hK : qOk K) (h : qIn K k 4) : qIn K (k + 6) 5 := qIn.child hK h 11 6 5 (by decide) rfl (by decide) (by decide) (by decide)
section QFIELDS
variable {own : String} {cc : ByteArray} {nL fr lo : Nat} {vd : Bool} {G : State → (Nat → Prop) → Prop} {b : Nat} {K : List Nat} {pc : Nat} {L : List (Option Value)} {st : List Value} {σ : qSt} {e : qR} {k index : Nat} {v : Int32}
theorem qg_0_0 (hd : decode cc pc = .ok (.getfield index, 3)) (hk : qIn K k 0) (hl : Cond.fieldLink own index "LineSearch$Ground" "rays" "I" ∈ qtbl) (h : qJ own cc nL fr lo vd G b K (pc + 3) L (.int (σ k 0) :: st) σ e) : qJ own cc nL fr lo vd G b K pc L (.ref (b + k) :: st) σ e := q_get (ci := 0) (j := 0) (C := RX0) (T := TX0) (N := 3) hd hk (by decide) rfl inX0 (by decide) hl rfl h
theorem qp_0_0 (hd : decode cc pc = .ok (.putfield index, 3)) (hk : qIn K k 0) (hl : Cond.fieldLink own index "LineSearch$Ground" "rays" "I" ∈ qtbl) (h : qJ own cc nL fr lo vd G b K (pc + 3) L st (qset σ k 0 v) e) : qJ own cc nL fr lo vd G b K pc L (.int v :: .ref (b + k) :: st) σ e := q_put (ci := 0) (j := 0) (C := RX0) (T := TX0) (N := 3) (ty0 := tyX0) hd hk (by decide) rfl inX0 tyX0_ok nmX0 (by decide) hl rfl (ty := .int) (by decide +kernel) (vp_nar_int _) rfl (by simp [qfs]) (by simp [qfs, qset]) h
theorem qg_0_1 (hd : decode cc pc = .ok (.getfield index, 3)) (hk : qIn K k 0) (hl : Cond.fieldLink own index "LineSearch$Ground" "reach" "I" ∈ qtbl) (h : qJ own cc nL fr lo vd G b K (pc + 3) L (.int (σ k 1) :: st) σ e) : qJ own cc nL fr lo vd G b K pc L (.ref (b + k) :: st) σ e := q_get (ci := 0) (j := 1) (C := RX0) (T := TX0) (N := 3) hd hk (by decide) rfl inX0 (by decide) hl rfl h
theorem qp_0_1 (hd : decode cc pc = .ok (.putfield index, 3)) (hk : qIn K k 0) (hl : Cond.fieldLink own index "LineSearch$Ground" "reach" "I" ∈ qtbl) (h : qJ own cc nL fr lo vd G b K (pc + 3) L st (qset σ k 1 v) e) : qJ own cc nL fr lo vd G b K pc L (.int v :: .ref (b + k) :: st) σ e := q_put (ci := 0) (j := 1) (C := RX0) (T := TX0) (N := 3) (ty0 := tyX0) hd hk (by decide) rfl inX0 tyX0_ok nmX0 (by decide) hl rfl (ty := .int) (by decide +kernel) (vp_nar_int _) rfl (by simp [qfs]) (by simp [qfs, qset]) h
theorem qg_0_2 (hd : decode cc pc = .ok (.getfield index, 3)) (hk : qIn K k 0) (hl : Cond.fieldLink own index "LineSearch$Ground" "shares" "[I" ∈ qtbl) (h : qJ own cc nL fr lo vd G b K (pc + 3) L (.ref (b + (k + 1)) :: st) σ e) : qJ own cc nL fr lo vd G b K pc L (.ref (b + k) :: st) σ e := q_get (ci := 0) (j := 2) (C := RX0) (T := TX0) (N := 3) hd hk (by decide) rfl inX0 (by decide) hl rfl h
theorem qg_1_0 (hd : decode cc pc = .ok (.getfield index, 3)) (hk : qIn K k 1) (hl : Cond.fieldLink own index "LineSearch$Outlook" "rays" "I" ∈ qtbl) (h : qJ own cc nL fr lo vd G b K (pc + 3) L (.int (σ k 0) :: st) σ e) : qJ own cc nL fr lo vd G b K pc L (.ref (b + k) :: st) σ e := q_get (ci := 1) (j := 0) (C := RX1) (T := TX1) (N := 8) hd hk (by decide) rfl inX1 (by decide) hl rfl h
theorem qp_1_0 (hd : decode cc pc = .ok (.putfield index, 3)) (hk : qIn K k 1) (hl : Cond.fieldLink own index "LineSearch$Outlook" "rays" "I" ∈ qtbl) (h : qJ own cc nL fr lo vd G b K (pc + 3) L st (qset σ k 0 v) e) : qJ own cc nL fr lo vd G b K pc L (.int v :: .ref (b + k) :: st) σ e := q_put (ci := 1) (j := 0) (C := RX1) (T := TX1) (N := 8) (ty0 := tyX1) hd hk (by decide) rfl inX1 tyX1_ok nmX1 (by decide) hl rfl (ty := .int) (by decide +kernel) (vp_nar_int _) rfl (by simp [qfs]) (by simp [qfs, qset]) h
theorem qg_1_1 (hd : decode cc pc = .ok (.getfield index, 3)) (hk : qIn K k 1) (hl : Cond.fieldLink own index "LineSearch$Outlook" "reach" "I" ∈ qtbl) (h : qJ own cc nL fr lo vd G b K (pc + 3) L (.int (σ k 1) :: st) σ e) : qJ own cc nL fr lo vd G b K pc L (.ref (b + k) :: st) σ e := q_get (ci := 1) (j := 1) (C := RX1) (T := TX1) (N := 8) hd hk (by decide) rfl inX1 (by decide) hl rfl h
theorem qp_1_1 (hd : decode cc pc = .ok (.putfield index, 3)) (hk : qIn K k 1) (hl : Cond.fieldLink own index "LineSearch$Outlook" "reach" "I" ∈ qtbl) (h : qJ own cc nL fr lo vd G b K (pc + 3) L st (qset σ k 1 v) e) : qJ own cc nL fr lo vd G b K pc L (.int v :: .ref (b + k) :: st) σ e := q_put (ci := 1) (j := 1) (C := RX1) (T := TX1) (N := 8) (ty0 := tyX1) hd hk (by decide) rfl inX1 tyX1_ok nmX1 (by decide) hl rfl (ty := .int) (by decide +kernel) (vp_nar_int _) rfl (by simp [qfs]) (by simp [qfs, qset]) h
theorem qg_1_2 (hd : decode cc pc = .ok (.getfield index, 3)) (hk : qIn K k 1) (hl : Cond.fieldLink own index "LineSearch$Outlook" "caps" "[I" ∈ qtbl) (h : qJ own cc nL fr lo vd G b K (pc + 3) L (.ref (b + (k + 1)) :: st) σ e) : qJ own cc nL fr lo vd G b K pc L (.ref (b + k) :: st) σ e := q_get (ci := 1) (j := 2) (C := RX1) (T := TX1) (N := 8) hd hk (by decide) rfl inX1 (by decide) hl rfl h
theorem qg_1_3 (hd : decode cc pc = .ok (.getfield index, 3)) (hk : qIn K k 1) (hl : Cond.fieldLink own index "LineSearch$Outlook" "prices" "[I" ∈ qtbl) (h : qJ own cc nL fr lo vd G b K (pc + 3) L (.ref (b + (k + 2)) :: st) σ e) : qJ own cc nL fr lo vd G b K pc L (.ref (b + k) :: st) σ e := q_get (ci := 1) (j := 3) (C := RX1) (T := TX1) (N := 8) hd hk (by decide) rfl inX1 (by decide) hl rfl h
theorem qg_1_4 (hd : decode cc pc = .ok (.getfield index, 3)) (hk : qIn K k 1) (hl : Cond.fieldLink own index "LineSearch$Outlook" "basePrice" "I" ∈ qtbl) (h : qJ own cc nL fr lo vd G b K (pc + 3) L (.int (σ k 4) :: st) σ e) : qJ own cc nL fr lo vd G b K pc L (.ref (b + k) :: st) σ e := q_get (ci := 1) (j := 4) (C := RX1) (T := TX1) (N := 8) hd hk (by decide) rfl inX1 (by decide) hl rfl h
theorem qp_1_4 (hd : decode cc pc = .ok (.putfield index, 3)) (hk : qIn K k 1) (hl : Cond.fieldLink own index "LineSearch$Outlook" "basePrice" "I" ∈ qtbl) (h : qJ own cc nL fr lo vd G b K (pc + 3) L st (qset σ k 4 v) e) : qJ own cc nL fr lo vd G b K pc L (.int v :: .ref (b + k) :: st) σ e := q_put (ci := 1) (j := 4) (C := RX1) (T := TX1) (N := 8) (ty0 := tyX1) hd hk (by decide) rfl inX1 tyX1_ok nmX1 (by decide) hl rfl (ty := .int) (by decide +kernel) (vp_nar_int _) rfl (by simp [qfs]) (by simp [qfs, qset]) h
theorem qg_1_5 (hd : decode cc pc = .ok (.getfield index, 3)) (hk : qIn K k 1) (hl : Cond.fieldLink own index "LineSearch$Outlook" "most" "[I" ∈ qtbl) (h : qJ own cc nL fr lo vd G b K (pc + 3) L (.ref (b + (k + 3)) :: st) σ e) : qJ own cc nL fr lo vd G b K pc L (.ref (b + k) :: st) σ e := q_get (ci := 1) (j := 5) (C := RX1) (T := TX1) (N := 8) hd hk (by decide) rfl inX1 (by decide) hl rfl h
theorem qg_1_6 (hd : decode cc pc = .ok (.getfield index, 3)) (hk : qIn K k 1) (hl : Cond.fieldLink own index "LineSearch$Outlook" "mostOnRay" "[I" ∈ qtbl) (h : qJ own cc nL fr lo vd G b K (pc + 3) L (.ref (b + (k + 4)) :: st) σ e) : qJ own cc nL fr lo vd G b K pc L (.ref (b + k) :: st) σ e := q_get (ci := 1) (j := 6) (C := RX1) (T := TX1) (N := 8) hd hk (by decide) rfl inX1 (by decide) hl rfl h
theorem qg_1_7 (hd : decode cc pc = .ok (.getfield index, 3)) (hk : qIn K k 1) (hl : Cond.fieldLink own index "LineSearch$Outlook" "gone" "[I" ∈ qtbl) (h : qJ own cc nL fr lo vd G b K (pc + 3) L (.ref (b + (k + 5)) :: st) σ e) : qJ own cc nL fr lo vd G b K pc L (.ref (b + k) :: st) σ e := q_get (ci := 1) (j := 7) (C := RX1) (T := TX1) (N := 8) hd hk (by decide) rfl inX1 (by decide) hl rfl h
theorem qg_2_0 (hd : decode cc pc = .ok (.getfield index, 3)) (hk : qIn K k 2) (hl : Cond.fieldLink own index "LineSearch$Plan" "onRay" "[I" ∈ qtbl) (h : qJ own cc nL fr lo vd G b K (pc + 3) L (.ref (b + (k + 1)) :: st) σ e) : qJ own cc nL fr lo vd G b K pc L (.ref (b + k) :: st) σ e := q_get (ci := 2) (j := 0) (C := RX2) (T := TX2) (N := 3) hd hk (by decide) rfl inX2 (by decide) hl rfl h
theorem qg_2_1 (hd : decode cc pc = .ok (.getfield index, 3)) (hk : qIn K k 2) (hl : Cond.fieldLink own index "LineSearch$Plan" "toSteps" "[I" ∈ qtbl) (h : qJ own cc nL fr lo vd G b K (pc + 3) L (.ref (b + (k + 2)) :: st) σ e) : qJ own cc nL fr lo vd G b K pc L (.ref (b + k) :: st) σ e := q_get (ci := 2) (j := 1) (C := RX2) (T := TX2) (N := 3) hd hk (by decide) rfl inX2 (by decide) hl rfl h
theorem qg_2_2 (hd : decode cc pc = .ok (.getfield index, 3)) (hk : qIn K k 2) (hl : Cond.fieldLink own index "LineSearch$Plan" "count" "I" ∈ qtbl) (h : qJ own cc nL fr lo vd G b K (pc + 3) L (.int (σ k 2) :: st) σ e) : qJ own cc nL fr lo vd G b K pc L (.ref (b + k) :: st) σ e := q_get (ci := 2) (j := 2) (C := RX2) (T := TX2) (N := 3) hd hk (by decide) rfl inX2 (by decide) hl rfl h
theorem qp_2_2 (hd : decode cc pc = .ok (.putfield index, 3)) (hk : qIn K k 2) (hl : Cond.fieldLink own index "LineSearch$Plan" "count" "I" ∈ qtbl) (h : qJ own cc nL fr lo vd G b K (pc + 3) L st (qset σ k 2 v) e) : qJ own cc nL fr lo vd G b K pc L (.int v :: .ref (b + k) :: st) σ e := q_put (ci := 2) (j := 2) (C := RX2) (T := TX2) (N := 3) (ty0 := tyX2) hd hk (by decide) rfl inX2 tyX2_ok nmX2 (by decide) hl rfl (ty := .int) (by decide +kernel) (vp_nar_int _) rfl (by simp [qfs]) (by simp [qfs, qset]) h
theorem qg_3_0 (hd : decode cc pc = .ok (.getfield index, 3)) (hk : qIn K k 3) (hl : Cond.fieldLink own index "LineSearch" "out" "I" ∈ qtbl) (h : qJ own cc nL fr lo vd G b K (pc + 3) L (.int (σ k 0) :: st) σ e) : qJ own cc nL fr lo vd G b K pc L (.ref (b + k) :: st) σ e := q_get (ci := 3) (j := 0) (C := RX3) (T := TX3) (N := 11) hd hk (by decide) rfl inX3 (by decide) hl rfl h
theorem qp_3_0 (hd : decode cc pc = .ok (.putfield index, 3)) (hk : qIn K k 3) (hl : Cond.fieldLink own index "LineSearch" "out" "I" ∈ qtbl) (h : qJ own cc nL fr lo vd G b K (pc + 3) L st (qset σ k 0 v) e) : qJ own cc nL fr lo vd G b K pc L (.int v :: .ref (b + k) :: st) σ e := q_put (ci := 3) (j := 0) (C := RX3) (T := TX3) (N := 11) (ty0 := tyX3) hd hk (by decide) rfl inX3 tyX3_ok nmX3 (by decide) hl rfl (ty := .int) (by decide +kernel) (vp_nar_int _) rfl (by simp [qfs]) (by simp [qfs, qset]) h
theorem qg_3_1 (hd : decode cc pc = .ok (.getfield index, 3)) (hk : qIn K k 3) (hl : Cond.fieldLink own index "LineSearch" "back" "I" ∈ qtbl) (h : qJ own cc nL fr lo vd G b K (pc + 3) L (.int (σ k 1) :: st) σ e) : qJ own cc nL fr lo vd G b K pc L (.ref (b + k) :: st) σ e := q_get (ci := 3) (j := 1) (C := RX3) (T := TX3) (N := 11) hd hk (by decide) rfl inX3 (by decide) hl rfl h
theorem qp_3_1 (hd : decode cc pc = .ok (.putfield index, 3)) (hk : qIn K k 3) (hl : Cond.fieldLink own index "LineSearch" "back" "I" ∈ qtbl) (h : qJ own cc nL fr lo vd G b K (pc + 3) L st (qset σ k 1 v) e) : qJ own cc nL fr lo vd G b K pc L (.int v :: .ref (b + k) :: st) σ e := q_put (ci := 3) (j := 1) (C := RX3) (T := TX3) (N := 11) (ty0 := tyX3) hd hk (by decide) rfl inX3 tyX3_ok nmX3 (by decide) hl rfl (ty := .int) (by decide +kernel) (vp_nar_int _) rfl (by simp [qfs]) (by simp [qfs, qset]) h
theorem qg_3_2 (hd : decode cc pc = .ok (.getfield index, 3)) (hk : qIn K k 3) (hl : Cond.fieldLink own index "LineSearch" "ground" "LLineSearch$Ground;" ∈ qtbl) (h : qJ own cc nL fr lo vd G b K (pc + 3) L (.ref (b + (k + 1)) :: st) σ e) : qJ own cc nL fr lo vd G b K pc L (.ref (b + k) :: st) σ e := q_get (ci := 3) (j := 2) (C := RX3) (T := TX3) (N := 11) hd hk (by decide) rfl inX3 (by decide) hl rfl h
theorem qg_3_3 (hd : decode cc pc = .ok (.getfield index, 3)) (hk : qIn K k 3) (hl : Cond.fieldLink own index "LineSearch" "plan" "LLineSearch$Plan;" ∈ qtbl) (h : qJ own cc nL fr lo vd G b K (pc + 3) L (.ref (b + (k + 3)) :: st) σ e) : qJ own cc nL fr lo vd G b K pc L (.ref (b + k) :: st) σ e := q_get (ci := 3) (j := 3) (C := RX3) (T := TX3) (N := 11) hd hk (by decide) rfl inX3 (by decide) hl rfl h
theorem qg_3_4 (hd : decode cc pc = .ok (.getfield index, 3)) (hk : qIn K k 3) (hl : Cond.fieldLink own index "LineSearch" "outlook" "LLineSearch$Outlook;" ∈ qtbl) (h : qJ own cc nL fr lo vd G b K (pc + 3) L (.ref (b + (k + 6)) :: st) σ e) : qJ own cc nL fr lo vd G b K pc L (.ref (b + k) :: st) σ e := q_get (ci := 3) (j := 4) (C := RX3) (T := TX3) (N := 11) hd hk (by decide) rfl inX3 (by decide) hl rfl h
theorem qg_3_5 (hd : decode cc pc = .ok (.getfield index, 3)) (hk : qIn K k 3) (hl : Cond.fieldLink own index "LineSearch" "meanPlan" "LLineSearch$Plan;" ∈ qtbl) (h : qJ own cc nL fr lo vd G b K (pc + 3) L (.ref (b + (k + 12)) :: st) σ e) : qJ own cc nL fr lo vd G b K pc L (.ref (b + k) :: st) σ e := q_get (ci := 3) (j := 5) (C := RX3) (T := TX3) (N := 11) hd hk (by decide) rfl inX3 (by decide) hl rfl h
theorem qg_3_6 (hd : decode cc pc = .ok (.getfield index, 3)) (hk : qIn K k 3) (hl : Cond.fieldLink own index "LineSearch" "worstPlan" "LLineSearch$Plan;" ∈ qtbl) (h : qJ own cc nL fr lo vd G b K (pc + 3) L (.ref (b + (k + 15)) :: st) σ e) : qJ own cc nL fr lo vd G b K pc L (.ref (b + k) :: st) σ e := q_get (ci := 3) (j := 6) (C := RX3) (T := TX3) (N := 11) hd hk (by decide) rfl inX3 (by decide) hl rfl h
theorem qg_3_7 (hd : decode cc pc = .ok (.getfield index, 3)) (hk : qIn K k 3) (hl : Cond.fieldLink own index "LineSearch" "meanKnown" "Z" ∈ qtbl) (h : qJ own cc nL fr lo vd G b K (pc + 3) L (.int (σ k 7) :: st) σ e) : qJ own cc nL fr lo vd G b K pc L (.ref (b + k) :: st) σ e := q_get (ci := 3) (j := 7) (C := RX3) (T := TX3) (N := 11) hd hk (by decide) rfl inX3 (by decide) hl rfl h
theorem qp_3_7 (hd : decode cc pc = .ok (.putfield index, 3)) (hk : qIn K k 3) (hl : Cond.fieldLink own index "LineSearch" "meanKnown" "Z" ∈ qtbl) (hn : narrow .boolean (.int v) = .int v) (hf : fits .boolean (.int v) = true) (h : qJ own cc nL fr lo vd G b K (pc + 3) L st (qset σ k 7 v) e) : qJ own cc nL fr lo vd G b K pc L (.int v :: .ref (b + k) :: st) σ e := q_put (ci := 3) (j := 7) (C := RX3) (T := TX3) (N := 11) (ty0 := tyX3) hd hk (by decide) rfl inX3 tyX3_ok nmX3 (by decide) hl rfl (ty := .boolean) (by decide +kernel) hn hf (by simp [qfs]) (by simp [qfs, qset]) h
theorem qg_3_8 (hd : decode cc pc = .ok (.getfield index, 3)) (hk : qIn K k 3) (hl : Cond.fieldLink own index "LineSearch" "worstKnown" "Z" ∈ qtbl) (h : qJ own cc nL fr lo vd G b K (pc + 3) L (.int (σ k 8) :: st) σ e) : qJ own cc nL fr lo vd G b K pc L (.ref (b + k) :: st) σ e := q_get (ci := 3) (j := 8) (C := RX3) (T := TX3) (N := 11) hd hk (by decide) rfl inX3 (by decide) hl rfl h
theorem qp_3_8 (hd : decode cc pc = .ok (.putfield index, 3)) (hk : qIn K k 3) (hl : Cond.fieldLink own index "LineSearch" "worstKnown" "Z" ∈ qtbl) (hn : narrow .boolean (.int v) = .int v) (hf : fits .boolean (.int v) = true) (h : qJ own cc nL fr lo vd G b K (pc + 3) L st (qset σ k 8 v) e) : qJ own cc nL fr lo vd G b K pc L (.int v :: .ref (b + k) :: st) σ e := q_put (ci := 3) (j := 8) (C := RX3) (T := TX3) (N := 11) (ty0 := tyX3) hd hk (by decide) rfl inX3 tyX3_ok nmX3 (by decide) hl rfl (ty := .boolean) (by decide +kernel) hn hf (by simp [qfs]) (by simp [qfs, qset]) h
theorem qg_3_9 (hd : decode cc pc = .ok (.getfield index, 3)) (hk : qIn K k 3) (hl : Cond.fieldLink own index "LineSearch" "meanSteps" "I" ∈ qtbl) (h : qJ own cc nL fr lo vd G b K (pc + 3) L (.int (σ k 9) :: st) σ e) : qJ own cc nL fr lo vd G b K pc L (.ref (b + k) :: st) σ e := q_get (ci := 3) (j := 9) (C := RX3) (T := TX3) (N := 11) hd hk (by decide) rfl inX3 (by decide) hl rfl h
theorem qp_3_9 (hd : decode cc pc = .ok (.putfield index, 3)) (hk : qIn K k 3) (hl : Cond.fieldLink own index "LineSearch" "meanSteps" "I" ∈ qtbl) (h : qJ own cc nL fr lo vd G b K (pc + 3) L st (qset σ k 9 v) e) : qJ own cc nL fr lo vd G b K pc L (.int v :: .ref (b + k) :: st) σ e := q_put (ci := 3) (j := 9) (C := RX3) (T := TX3) (N := 11) (ty0 := tyX3) hd hk (by decide) rfl inX3 tyX3_ok nmX3 (by decide) hl rfl (ty := .int) (by decide +kernel) (vp_nar_int _) rfl (by simp [qfs]) (by simp [qfs, qset]) h
theorem qg_3_10 (hd : decode cc pc = .ok (.getfield index, 3)) (hk : qIn K k 3) (hl : Cond.fieldLink own index "LineSearch" "worstParts" "I" ∈ qtbl) (h : qJ own cc nL fr lo vd G b K (pc + 3) L (.int (σ k 10) :: st) σ e) : qJ own cc nL fr lo vd G b K pc L (.ref (b + k) :: st) σ e := q_get (ci := 3) (j := 10) (C := RX3) (T := TX3) (N := 11) hd hk (by decide) rfl inX3 (by decide) hl rfl h
theorem qp_3_10 (hd : decode cc pc = .ok (.putfield index, 3)) (hk : qIn K k 3) (hl : Cond.fieldLink own index "LineSearch" "worstParts" "I" ∈ qtbl) (h : qJ own cc nL fr lo vd G b K (pc + 3) L st (qset σ k 10 v) e) : qJ own cc nL fr lo vd G b K pc L (.int v :: .ref (b + k) :: st) σ e := q_put (ci := 3) (j := 10) (C := RX3) (T := TX3) (N := 11) (ty0 := tyX3) hd hk (by decide) rfl inX3 tyX3_ok nmX3 (by decide) hl rfl (ty := .int) (by decide +kernel) (vp_nar_int _) rfl (by simp [qfs]) (by simp [qfs, qset]) h
theorem qg_4_0 (hd : decode cc pc = .ok (.getfield index, 3)) (hk : qIn K k 4) (hl : Cond.fieldLink own index "LineSearchModel" "rays" "I" ∈ qtbl) (h : qJ own cc nL fr lo vd G b K (pc + 3) L (.int (σ k 0) :: st) σ e) : qJ own cc nL fr lo vd G b K pc L (.ref (b + k) :: st) σ e := q_get (ci := 4) (j := 0) (C := RX4) (T := TX4) (N := 15) hd hk (by decide) rfl inX4 (by decide) hl rfl h
theorem qp_4_0 (hd : decode cc pc = .ok (.putfield index, 3)) (hk : qIn K k 4) (hl : Cond.fieldLink own index "LineSearchModel" "rays" "I" ∈ qtbl) (h : qJ own cc nL fr lo vd G b K (pc + 3) L st (qset σ k 0 v) e) : qJ own cc nL fr lo vd G b K pc L (.int v :: .ref (b + k) :: st) σ e := q_put (ci := 4) (j := 0) (C := RX4) (T := TX4) (N := 15) (ty0 := tyX4) hd hk (by decide) rfl inX4 tyX4_ok nmX4 (by decide) hl rfl (ty := .int) (by decide +kernel) (vp_nar_int _) rfl (by simp [qfs]) (by simp [qfs, qset]) h
theorem qg_4_1 (hd : decode cc pc = .ok (.getfield index, 3)) (hk : qIn K k 4) (hl : Cond.fieldLink own index "LineSearchModel" "steps" "I" ∈ qtbl) (h : qJ own cc nL fr lo vd G b K (pc + 3) L (.int (σ k 1) :: st) σ e) : qJ own cc nL fr lo vd G b K pc L (.ref (b + k) :: st) σ e := q_get (ci := 4) (j := 1) (C := RX4) (T := TX4) (N := 15) hd hk (by decide) rfl inX4 (by decide) hl rfl h
theorem qp_4_1 (hd : decode cc pc = .ok (.putfield index, 3)) (hk : qIn K k 4) (hl : Cond.fieldLink own index "LineSearchModel" "steps" "I" ∈ qtbl) (h : qJ own cc nL fr lo vd G b K (pc + 3) L st (qset σ k 1 v) e) : qJ own cc nL fr lo vd G b K pc L (.int v :: .ref (b + k) :: st) σ e := q_put (ci := 4) (j := 1) (C := RX4) (T := TX4) (N := 15) (ty0 := tyX4) hd hk (by decide) rfl inX4 tyX4_ok nmX4 (by decide) hl rfl (ty := .int) (by decide +kernel) (vp_nar_int _) rfl (by simp [qfs]) (by simp [qfs, qset]) h
theorem qg_4_2 (hd : decode cc pc = .ok (.getfield index, 3)) (hk : qIn K k 4) (hl : Cond.fieldLink own index "LineSearchModel" "out" "I" ∈ qtbl) (h : qJ own cc nL fr lo vd G b K (pc + 3) L (.int (σ k 2) :: st) σ e) : qJ own cc nL fr lo vd G b K pc L (.ref (b + k) :: st) σ e := q_get (ci := 4) (j := 2) (C := RX4) (T := TX4) (N := 15) hd hk (by decide) rfl inX4 (by decide) hl rfl h
theorem qp_4_2 (hd : decode cc pc = .ok (.putfield index, 3)) (hk : qIn K k 4) (hl : Cond.fieldLink own index "LineSearchModel" "out" "I" ∈ qtbl) (h : qJ own cc nL fr lo vd G b K (pc + 3) L st (qset σ k 2 v) e) : qJ own cc nL fr lo vd G b K pc L (.int v :: .ref (b + k) :: st) σ e := q_put (ci := 4) (j := 2) (C := RX4) (T := TX4) (N := 15) (ty0 := tyX4) hd hk (by decide) rfl inX4 tyX4_ok nmX4 (by decide) hl rfl (ty := .int) (by decide +kernel) (vp_nar_int _) rfl (by simp [qfs]) (by simp [qfs, qset]) h
theorem qg_4_3 (hd : decode cc pc = .ok (.getfield index, 3)) (hk : qIn K k 4) (hl : Cond.fieldLink own index "LineSearchModel" "back" "I" ∈ qtbl) (h : qJ own cc nL fr lo vd G b K (pc + 3) L (.int (σ k 3) :: st) σ e) : qJ own cc nL fr lo vd G b K pc L (.ref (b + k) :: st) σ e := q_get (ci := 4) (j := 3) (C := RX4) (T := TX4) (N := 15) hd hk (by decide) rfl inX4 (by decide) hl rfl h
theorem qp_4_3 (hd : decode cc pc = .ok (.putfield index, 3)) (hk : qIn K k 4) (hl : Cond.fieldLink own index "LineSearchModel" "back" "I" ∈ qtbl) (h : qJ own cc nL fr lo vd G b K (pc + 3) L st (qset σ k 3 v) e) : qJ own cc nL fr lo vd G b K pc L (.int v :: .ref (b + k) :: st) σ e := q_put (ci := 4) (j := 3) (C := RX4) (T := TX4) (N := 15) (ty0 := tyX4) hd hk (by decide) rfl inX4 tyX4_ok nmX4 (by decide) hl rfl (ty := .int) (by decide +kernel) (vp_nar_int _) rfl (by simp [qfs]) (by simp [qfs, qset]) h
theorem qg_4_4 (hd : decode cc pc = .ok (.getfield index, 3)) (hk : qIn K k 4) (hl : Cond.fieldLink own index "LineSearchModel" "share" "[I" ∈ qtbl) (h : qJ own cc nL fr lo vd G b K (pc + 3) L (.ref (b + (k + 1)) :: st) σ e) : qJ own cc nL fr lo vd G b K pc L (.ref (b + k) :: st) σ e := q_get (ci := 4) (j := 4) (C := RX4) (T := TX4) (N := 15) hd hk (by decide) rfl inX4 (by decide) hl rfl h
theorem qg_4_5 (hd : decode cc pc = .ok (.getfield index, 3)) (hk : qIn K k 4) (hl : Cond.fieldLink own index "LineSearchModel" "trips" "I" ∈ qtbl) (h : qJ own cc nL fr lo vd G b K (pc + 3) L (.int (σ k 5) :: st) σ e) : qJ own cc nL fr lo vd G b K pc L (.ref (b + k) :: st) σ e := q_get (ci := 4) (j := 5) (C := RX4) (T := TX4) (N := 15) hd hk (by decide) rfl inX4 (by decide) hl rfl h
theorem qp_4_5 (hd : decode cc pc = .ok (.putfield index, 3)) (hk : qIn K k 4) (hl : Cond.fieldLink own index "LineSearchModel" "trips" "I" ∈ qtbl) (h : qJ own cc nL fr lo vd G b K (pc + 3) L st (qset σ k 5 v) e) : qJ own cc nL fr lo vd G b K pc L (.int v :: .ref (b + k) :: st) σ e := q_put (ci := 4) (j := 5) (C := RX4) (T := TX4) (N := 15) (ty0 := tyX4) hd hk (by decide) rfl inX4 tyX4_ok nmX4 (by decide) hl rfl (ty := .int) (by decide +kernel) (vp_nar_int _) rfl (by simp [qfs]) (by simp [qfs, qset]) h
theorem qg_4_6 (hd : decode cc pc = .ok (.getfield index, 3)) (hk : qIn K k 4) (hl : Cond.fieldLink own index "LineSearchModel" "ray" "[I" ∈ qtbl) (h : qJ own cc nL fr lo vd G b K (pc + 3) L (.ref (b + (k + 2)) :: st) σ e) : qJ own cc nL fr lo vd G b K pc L (.ref (b + k) :: st) σ e := q_get (ci := 4) (j := 6) (C := RX4) (T := TX4) (N := 15) hd hk (by decide) rfl inX4 (by decide) hl rfl h
theorem qg_4_7 (hd : decode cc pc = .ok (.getfield index, 3)) (hk : qIn K k 4) (hl : Cond.fieldLink own index "LineSearchModel" "far" "[I" ∈ qtbl) (h : qJ own cc nL fr lo vd G b K (pc + 3) L (.ref (b + (k + 3)) :: st) σ e) : qJ own cc nL fr lo vd G b K pc L (.ref (b + k) :: st) σ e := q_get (ci := 4) (j := 7) (C := RX4) (T := TX4) (N := 15) hd hk (by decide) rfl inX4 (by decide) hl rfl h
theorem qg_4_8 (hd : decode cc pc = .ok (.getfield index, 3)) (hk : qIn K k 4) (hl : Cond.fieldLink own index "LineSearchModel" "least" "[I" ∈ qtbl) (h : qJ own cc nL fr lo vd G b K (pc + 3) L (.ref (b + (k + 4)) :: st) σ e) : qJ own cc nL fr lo vd G b K pc L (.ref (b + k) :: st) σ e := q_get (ci := 4) (j := 8) (C := RX4) (T := TX4) (N := 15) hd hk (by decide) rfl inX4 (by decide) hl rfl h
theorem qg_4_9 (hd : decode cc pc = .ok (.getfield index, 3)) (hk : qIn K k 4) (hl : Cond.fieldLink own index "LineSearchModel" "most" "[I" ∈ qtbl) (h : qJ own cc nL fr lo vd G b K (pc + 3) L (.ref (b + (k + 5)) :: st) σ e) : qJ own cc nL fr lo vd G b K pc L (.ref (b + k) :: st) σ e := q_get (ci := 4) (j := 9) (C := RX4) (T := TX4) (N := 15) hd hk (by decide) rfl inX4 (by decide) hl rfl h
theorem qg_4_10 (hd : decode cc pc = .ok (.getfield index, 3)) (hk : qIn K k 4) (hl : Cond.fieldLink own index "LineSearchModel" "planned" "I" ∈ qtbl) (h : qJ own cc nL fr lo vd G b K (pc + 3) L (.int (σ k 10) :: st) σ e) : qJ own cc nL fr lo vd G b K pc L (.ref (b + k) :: st) σ e := q_get (ci := 4) (j := 10) (C := RX4) (T := TX4) (N := 15) hd hk (by decide) rfl inX4 (by decide) hl rfl h
theorem qp_4_10 (hd : decode cc pc = .ok (.putfield index, 3)) (hk : qIn K k 4) (hl : Cond.fieldLink own index "LineSearchModel" "planned" "I" ∈ qtbl) (h : qJ own cc nL fr lo vd G b K (pc + 3) L st (qset σ k 10 v) e) : qJ own cc nL fr lo vd G b K pc L (.int v :: .ref (b + k) :: st) σ e := q_put (ci := 4) (j := 10) (C := RX4) (T := TX4) (N := 15) (ty0 := tyX4) hd hk (by decide) rfl inX4 tyX4_ok nmX4 (by decide) hl rfl (ty := .int) (by decide +kernel) (vp_nar_int _) rfl (by simp [qfs]) (by simp [qfs, qset]) h
theorem qg_4_11 (hd : decode cc pc = .ok (.getfield index, 3)) (hk : qIn K k 4) (hl : Cond.fieldLink own index "LineSearchModel" "plan" "[I" ∈ qtbl) (h : qJ own cc nL fr lo vd G b K (pc + 3) L (.ref (b + (k + 6)) :: st) σ e) : qJ own cc nL fr lo vd G b K pc L (.ref (b + k) :: st) σ e := q_get (ci := 4) (j := 11) (C := RX4) (T := TX4) (N := 15) hd hk (by decide) rfl inX4 (by decide) hl rfl h
theorem qg_4_12 (hd : decode cc pc = .ok (.getfield index, 3)) (hk : qIn K k 4) (hl : Cond.fieldLink own index "LineSearchModel" "worstUp" "I" ∈ qtbl) (h : qJ own cc nL fr lo vd G b K (pc + 3) L (.int (σ k 12) :: st) σ e) : qJ own cc nL fr lo vd G b K pc L (.ref (b + k) :: st) σ e := q_get (ci := 4) (j := 12) (C := RX4) (T := TX4) (N := 15) hd hk (by decide) rfl inX4 (by decide) hl rfl h
theorem qp_4_12 (hd : decode cc pc = .ok (.putfield index, 3)) (hk : qIn K k 4) (hl : Cond.fieldLink own index "LineSearchModel" "worstUp" "I" ∈ qtbl) (h : qJ own cc nL fr lo vd G b K (pc + 3) L st (qset σ k 12 v) e) : qJ own cc nL fr lo vd G b K pc L (.int v :: .ref (b + k) :: st) σ e := q_put (ci := 4) (j := 12) (C := RX4) (T := TX4) (N := 15) (ty0 := tyX4) hd hk (by decide) rfl inX4 tyX4_ok nmX4 (by decide) hl rfl (ty := .int) (by decide +kernel) (vp_nar_int _) rfl (by simp [qfs]) (by simp [qfs, qset]) h
theorem qg_4_13 (hd : decode cc pc = .ok (.getfield index, 3)) (hk : qIn K k 4) (hl : Cond.fieldLink own index "LineSearchModel" "worstLow" "I" ∈ qtbl) (h : qJ own cc nL fr lo vd G b K (pc + 3) L (.int (σ k 13) :: st) σ e) : qJ own cc nL fr lo vd G b K pc L (.ref (b + k) :: st) σ e := q_get (ci := 4) (j := 13) (C := RX4) (T := TX4) (N := 15) hd hk (by decide) rfl inX4 (by decide) hl rfl h
theorem qp_4_13 (hd : decode cc pc = .ok (.putfield index, 3)) (hk : qIn K k 4) (hl : Cond.fieldLink own index "LineSearchModel" "worstLow" "I" ∈ qtbl) (h : qJ own cc nL fr lo vd G b K (pc + 3) L st (qset σ k 13 v) e) : qJ own cc nL fr lo vd G b K pc L (.int v :: .ref (b + k) :: st) σ e := q_put (ci := 4) (j := 13) (C := RX4) (T := TX4) (N := 15) (ty0 := tyX4) hd hk (by decide) rfl inX4 tyX4_ok nmX4 (by decide) hl rfl (ty := .int) (by decide +kernel) (vp_nar_int _) rfl (by simp [qfs]) (by simp [qfs, qset]) h
theorem qg_4_14 (hd : decode cc pc = .ok (.getfield index, 3)) (hk : qIn K k 4) (hl : Cond.fieldLink own index "LineSearchModel" "worstFor" "I" ∈ qtbl) (h : qJ own cc nL fr lo vd G b K (pc + 3) L (.int (σ k 14) :: st) σ e) : qJ own cc nL fr lo vd G b K pc L (.ref (b + k) :: st) σ e := q_get (ci := 4) (j := 14) (C := RX4) (T := TX4) (N := 15) hd hk (by decide) rfl inX4 (by decide) hl rfl h
theorem qp_4_14 (hd : decode cc pc = .ok (.putfield index, 3)) (hk : qIn K k 4) (hl : Cond.fieldLink own index "LineSearchModel" "worstFor" "I" ∈ qtbl) (h : qJ own cc nL fr lo vd G b K (pc + 3) L st (qset σ k 14 v) e) : qJ own cc nL fr lo vd G b K pc L (.int v :: .ref (b + k) :: st) σ e := q_put (ci := 4) (j := 14) (C := RX4) (T := TX4) (N := 15) (ty0 := tyX4) hd hk (by decide) rfl inX4 tyX4_ok nmX4 (by decide) hl rfl (ty := .int) (by decide +kernel) (vp_nar_int _) rfl (by simp [qfs]) (by simp [qfs, qset]) h
end QFIELDS
section QC2
variable {own : String} {cc : ByteArray} {nL fr lo : Nat} {vd : Bool} {G : State → (Nat → Prop) → Prop} {b : Nat} {K : List Nat} {pc : Nat} {L : List (Option Value)} {st stk : List Value} {σ : qSt} {e1 : qR} {f : Int32 → qSt → qR}
variable {y : MethodName} {cc' : ByteArray} {nL' fr' lo' n index : Nat} {ty : FieldType}
theorem q_callVi {k ci N : Nat} {C : String} {T : u_T} (As : List Value) (hd : decode cc pc = .ok (.invokevirtual index, 3)) (hl : Cond.methodLink own index y ∈ qtbl) (hy : qY y cc' nL' (some ty) n) (hi : Cond.instanceMethod y ∈ qtbl ∧ Cond.selects C y y ∈ qtbl) (hk : qIn K k ci) (hci : ci < 5) (hc : qcl[ci]? = some (C, T, N)) (hs : qS y cc' nL' (some ty) fr' lo' b K (.ref (b + k) :: As) σ e1) (hn : As.length = n) (hstk : stk = As.reverse ++ .ref (b + k) :: st) (hw : (st.map fun v => v.category).sum ≤ 8) (hroom : fr' + 1 ≤ fr ∧ 8 + (nL' + 11) + lo' ≤ lo) (h : ∀ (r : Int32) (σ' : qSt), qJ own cc nL fr lo vd G b K (pc + 3) L (.int r :: st) σ' (f r σ')) : qJ own cc nL fr lo vd G b K pc L stk σ (qb e1 f) := q_callV As hd hl hy hi hk hci hc hs hn hstk hw hroom h
theorem q_callSi (As : List Value) (hd : decode cc pc = .ok (.invokestatic index, 3)) (hl : Cond.methodLink own index y ∈ qtbl) (hy : qY y cc' nL' (some ty) n) (hi : Cond.static y ∈ qtbl) (hs : qS y cc' nL' (some ty) fr' lo' b K As σ e1) (hn : As.length = n) (hstk : stk = As.reverse ++ st) (hw : (st.map fun v => v.category).sum ≤ 8) (hroom : fr' + 1 ≤ fr ∧ 8 + (nL' + 11) + lo' ≤ lo) (h : ∀ (r : Int32) (σ' : qSt), qJ own cc nL fr lo vd G b K (pc + 3) L (.int r :: st) σ' (f r σ')) : qJ own cc nL fr lo vd G b K pc L stk σ (qb e1 f) := q_callS As hd hl hy hi hs hn hstk hw hroom h
theorem q_callSNi (As : List Value) (hd : decode cc pc = .ok (.invokestatic index, 3)) (hl : (own, index, y, "LineSearch") ∈ qnest) (hy : qY y cc' nL' (some ty) n) (hi : Cond.static y ∈ qtbl) (hs : qS y cc' nL' (some ty) fr' lo' b K As σ e1) (hn : As.length = n) (hstk : stk = As.reverse ++ st) (hw : (st.map fun v => v.category).sum ≤ 8) (hroom : fr' + 1 ≤ fr ∧ 8 + (nL' + 11) + lo' ≤ lo) (h : ∀ (r : Int32) (σ' : qSt), qJ own cc nL fr lo vd G b K (pc + 3) L (.int r :: st) σ' (f r σ')) : qJ own cc nL fr lo vd G b K pc L stk σ (qb e1 f) := q_callSN As hd hl hy hi hs hn hstk hw hroom h
theorem q_callVv {k ci N : Nat} {C : String} {T : u_T} (As : List Value) (hd : decode cc pc = .ok (.invokevirtual index, 3)) (hl : Cond.methodLink own index y ∈ qtbl) (hy : qY y cc' nL' none n) (hi : Cond.instanceMethod y ∈ qtbl ∧ Cond.selects C y y ∈ qtbl) (hk : qIn K k ci) (hci : ci < 5) (hc : qcl[ci]? = some (C, T, N)) (hs : qS y cc' nL' none fr' lo' b K (.ref (b + k) :: As) σ e1) (hn : As.length = n) (hstk : stk = As.reverse ++ .ref (b + k) :: st) (hw : (st.map fun v => v.category).sum ≤ 8) (hroom : fr' + 1 ≤ fr ∧ 8 + (nL' + 11) + lo' ≤ lo) (h : ∀ (r : Int32) (σ' : qSt), qJ own cc nL fr lo vd G b K (pc + 3) L (st) σ' (f r σ')) : qJ own cc nL fr lo vd G b K pc L stk σ (qb e1 f) := q_callV As hd hl hy hi hk hci hc hs hn hstk hw hroom h
theorem q_callSv (As : List Value) (hd : decode cc pc = .ok (.invokestatic index, 3)) (hl : Cond.methodLink own index y ∈ qtbl) (hy : qY y cc' nL' none n) (hi : Cond.static y ∈ qtbl) (hs : qS y cc' nL' none fr' lo' b K As σ e1) (hn : As.length = n) (hstk : stk = As.reverse ++ st) (hw : (st.map fun v => v.category).sum ≤ 8) (hroom : fr' + 1 ≤ fr ∧ 8 + (nL' + 11) + lo' ≤ lo) (h : ∀ (r : Int32) (σ' : qSt), qJ own cc nL fr lo vd G b K (pc + 3) L (st) σ' (f r σ')) : qJ own cc nL fr lo vd G b K pc L stk σ (qb e1 f) := q_callS As hd hl hy hi hs hn hstk hw hroom h
theorem q_callSNv (As : List Value) (hd : decode cc pc = .ok (.invokestatic index, 3)) (hl : (own, index, y, "LineSearch") ∈ qnest) (hy : qY y cc' nL' none n) (hi : Cond.static y ∈ qtbl) (hs : qS y cc' nL' none fr' lo' b K As σ e1) (hn : As.length = n) (hstk : stk = As.reverse ++ st) (hw : (st.map fun v => v.category).sum ≤ 8) (hroom : fr' + 1 ≤ fr ∧ 8 + (nL' + 11) + lo' ≤ lo) (h : ∀ (r : Int32) (σ' : qSt), qJ own cc nL fr lo vd G b K (pc + 3) L (st) σ' (f r σ')) : qJ own cc nL fr lo vd G b K pc L stk σ (qb e1 f) := q_callSN As hd hl hy hi hs hn hstk hw hroom h
end QC2
theorem qM_max1 : Cond.static Lib.Math.max.name ∈ qtbl := (qmem 292 (by decide +kernel) rfl)
theorem qM_max3 : Cond.code Lib.Math.max.name Lib.Math.max.code 2 (some .int) ∈ qtbl := (qmem 293 (by decide +kernel) rfl)
theorem qM_min1 : Cond.static Lib.Math.min.name ∈ qtbl := (qmem 344 (by decide +kernel) rfl)
theorem qM_min3 : Cond.code Lib.Math.min.name Lib.Math.min.code 2 (some .int) ∈ qtbl := (qmem 345 (by decide +kernel) rfl)
theorem qM_i : Cond.initialized "java/lang/Math" ∈ qtbl := (qmem 42 (by decide +kernel) rfl)
theorem yX3_putAll_ok : qY yX3_putAll cX3_putAll 3 none 2 := ⟨(qmem 63 (by decide +kernel) rfl), (qmem 37 (by decide +kernel) rfl), by decide +kernel, by decide +kernel, by decide +kernel⟩
theorem yX3_putAll_in : Cond.static yX3_putAll ∈ qtbl := (qmem 62 (by decide +kernel) rfl)
theorem yX0_lay_ok : qY yX0_lay cX0_lay 3 none 2 := ⟨(qmem 60 (by decide +kernel) rfl), (qmem 38 (by decide +kernel) rfl), by decide +kernel, by decide +kernel, by decide +kernel⟩
theorem yX0_lay_in : Cond.instanceMethod yX0_lay ∈ qtbl ∧ Cond.selects RX0 yX0_lay yX0_lay ∈ qtbl := ⟨(qmem 58 (by decide +kernel) rfl), (qmem 59 (by decide +kernel) rfl)⟩
theorem yX0_isOf_ok : qY yX0_isOf cX0_isOf 3 (some .boolean) 2 := ⟨(qmem 168 (by decide +kernel) rfl), (qmem 38 (by decide +kernel) rfl), by decide +kernel, by decide +kernel, by decide +kernel⟩
theorem yX0_isOf_in : Cond.instanceMethod yX0_isOf ∈ qtbl ∧ Cond.selects RX0 yX0_isOf yX0_isOf ∈ qtbl := ⟨(qmem 166 (by decide +kernel) rfl), (qmem 167 (by decide +kernel) rfl)⟩
theorem yX0_has_ok : qY yX0_has cX0_has 3 (some .boolean) 2 := ⟨(qmem 185 (by decide +kernel) rfl), (qmem 38 (by decide +kernel) rfl), by decide +kernel, by decide +kernel, by decide +kernel⟩
theorem yX0_has_in : Cond.instanceMethod yX0_has ∈ qtbl ∧ Cond.selects RX0 yX0_has yX0_has ∈ qtbl := ⟨(qmem 183 (by decide +kernel) rfl), (qmem 184 (by decide +kernel) rfl)⟩
theorem yX3_at_ok : qY yX3_at cX3_at 2 (some .int) 2 := ⟨(qmem 193 (by decide +kernel) rfl), (qmem 37 (by decide +kernel) rfl), by decide +kernel, by decide +kernel, by decide +kernel⟩
theorem yX3_at_in : Cond.static yX3_at ∈ qtbl := (qmem 192 (by decide +kernel) rfl)
theorem yX0_shareAt_ok : qY yX0_shareAt cX0_shareAt 3 (some .int) 2 := ⟨(qmem 189 (by decide +kernel) rfl), (qmem 38 (by decide +kernel) rfl), by decide +kernel, by decide +kernel, by decide +kernel⟩
theorem yX0_shareAt_in : Cond.instanceMethod yX0_shareAt ∈ qtbl ∧ Cond.selects RX0 yX0_shareAt yX0_shareAt ∈ qtbl := ⟨(qmem 187 (by decide +kernel) rfl), (qmem 188 (by decide +kernel) rfl)⟩
theorem yX3_put_ok : qY yX3_put cX3_put 3 none 3 := ⟨(qmem 200 (by decide +kernel) rfl), (qmem 37 (by decide +kernel) rfl), by decide +kernel, by decide +kernel, by decide +kernel⟩
theorem yX3_put_in : Cond.static yX3_put ∈ qtbl := (qmem 199 (by decide +kernel) rfl)
theorem yX0_setShare_ok : qY yX0_setShare cX0_setShare 4 none 3 := ⟨(qmem 197 (by decide +kernel) rfl), (qmem 38 (by decide +kernel) rfl), by decide +kernel, by decide +kernel, by decide +kernel⟩
theorem yX0_setShare_in : Cond.instanceMethod yX0_setShare ∈ qtbl ∧ Cond.selects RX0 yX0_setShare yX0_setShare ∈ qtbl := ⟨(qmem 195 (by decide +kernel) rfl), (qmem 196 (by decide +kernel) rfl)⟩
theorem yX0_allShares_ok : qY yX0_allShares cX0_allShares 4 (some .int) 0 := ⟨(qmem 439 (by decide +kernel) rfl), (qmem 38 (by decide +kernel) rfl), by decide +kernel, by decide +kernel, by decide +kernel⟩
theorem yX0_allShares_in : Cond.instanceMethod yX0_allShares ∈ qtbl ∧ Cond.selects RX0 yX0_allShares yX0_allShares ∈ qtbl := ⟨(qmem 437 (by decide +kernel) rfl), (qmem 438 (by decide +kernel) rfl)⟩
theorem yX0_sharedSteps_ok : qY yX0_sharedSteps cX0_sharedSteps 4 (some .int) 0 := ⟨(qmem 373 (by decide +kernel) rfl), (qmem 38 (by decide +kernel) rfl), by decide +kernel, by decide +kernel, by decide +kernel⟩
theorem yX0_sharedSteps_in : Cond.instanceMethod yX0_sharedSteps ∈ qtbl ∧ Cond.selects RX0 yX0_sharedSteps yX0_sharedSteps ∈ qtbl := ⟨(qmem 371 (by decide +kernel) rfl), (qmem 372 (by decide +kernel) rfl)⟩
theorem yX1_lengthOf_ok : qY yX1_lengthOf cX1_lengthOf 2 (some .int) 1 := ⟨(qmem 333 (by decide +kernel) rfl), (qmem 40 (by decide +kernel) rfl), by decide +kernel, by decide +kernel, by decide +kernel⟩
theorem yX1_lengthOf_in : Cond.instanceMethod yX1_lengthOf ∈ qtbl ∧ Cond.selects RX1 yX1_lengthOf yX1_lengthOf ∈ qtbl := ⟨(qmem 332 (by decide +kernel) rfl), (qmem 6 (by decide +kernel) rfl)⟩
theorem yX1_through_ok : qY yX1_through cX1_through 4 (some .int) 3 := ⟨(qmem 341 (by decide +kernel) rfl), (qmem 40 (by decide +kernel) rfl), by decide +kernel, by decide +kernel, by decide +kernel⟩
theorem yX1_through_in : Cond.instanceMethod yX1_through ∈ qtbl ∧ Cond.selects RX1 yX1_through yX1_through ∈ qtbl := ⟨(qmem 340 (by decide +kernel) rfl), (qmem 8 (by decide +kernel) rfl)⟩
theorem yX1_offer_ok : qY yX1_offer cX1_offer 6 none 4 := ⟨(qmem 351 (by decide +kernel) rfl), (qmem 40 (by decide +kernel) rfl), by decide +kernel, by decide +kernel, by decide +kernel⟩
theorem yX1_offer_in : Cond.instanceMethod yX1_offer ∈ qtbl ∧ Cond.selects RX1 yX1_offer yX1_offer ∈ qtbl := ⟨(qmem 350 (by decide +kernel) rfl), (qmem 9 (by decide +kernel) rfl)⟩
theorem yX1_settle_ok : qY yX1_settle cX1_settle 9 none 3 := ⟨(qmem 337 (by decide +kernel) rfl), (qmem 40 (by decide +kernel) rfl), by decide +kernel, by decide +kernel, by decide +kernel⟩
theorem yX1_settle_in : Cond.instanceMethod yX1_settle ∈ qtbl ∧ Cond.selects RX1 yX1_settle yX1_settle ∈ qtbl := ⟨(qmem 336 (by decide +kernel) rfl), (qmem 7 (by decide +kernel) rfl)⟩
theorem yX1_sweep_ok : qY yX1_sweep cX1_sweep 4 none 0 := ⟨(qmem 329 (by decide +kernel) rfl), (qmem 40 (by decide +kernel) rfl), by decide +kernel, by decide +kernel, by decide +kernel⟩
theorem yX1_sweep_in : Cond.instanceMethod yX1_sweep ∈ qtbl ∧ Cond.selects RX1 yX1_sweep yX1_sweep ∈ qtbl := ⟨(qmem 328 (by decide +kernel) rfl), (qmem 5 (by decide +kernel) rfl)⟩
theorem yX2_empty_ok : qY yX2_empty cX2_empty 1 none 0 := ⟨(qmem 173 (by decide +kernel) rfl), (qmem 39 (by decide +kernel) rfl), by decide +kernel, by decide +kernel, by decide +kernel⟩
theorem yX2_empty_in : Cond.instanceMethod yX2_empty ∈ qtbl ∧ Cond.selects RX2 yX2_empty yX2_empty ∈ qtbl := ⟨(qmem 171 (by decide +kernel) rfl), (qmem 172 (by decide +kernel) rfl)⟩
theorem yX1_costOf_ok : qY yX1_costOf cX1_costOf 5 (some .int) 2 := ⟨(qmem 364 (by decide +kernel) rfl), (qmem 40 (by decide +kernel) rfl), by decide +kernel, by decide +kernel, by decide +kernel⟩
theorem yX1_costOf_in : Cond.instanceMethod yX1_costOf ∈ qtbl ∧ Cond.selects RX1 yX1_costOf yX1_costOf ∈ qtbl := ⟨(qmem 363 (by decide +kernel) rfl), (qmem 12 (by decide +kernel) rfl)⟩
theorem yX1_stateAfter_ok : qY yX1_stateAfter cX1_stateAfter 5 (some .int) 2 := ⟨(qmem 368 (by decide +kernel) rfl), (qmem 40 (by decide +kernel) rfl), by decide +kernel, by decide +kernel, by decide +kernel⟩
theorem yX1_stateAfter_in : Cond.instanceMethod yX1_stateAfter ∈ qtbl ∧ Cond.selects RX1 yX1_stateAfter yX1_stateAfter ∈ qtbl := ⟨(qmem 367 (by decide +kernel) rfl), (qmem 13 (by decide +kernel) rfl)⟩
theorem yX1_firstTrip_ok : qY yX1_firstTrip cX1_firstTrip 5 (some .int) 1 := ⟨(qmem 360 (by decide +kernel) rfl), (qmem 40 (by decide +kernel) rfl), by decide +kernel, by decide +kernel, by decide +kernel⟩
theorem yX1_firstTrip_in : Cond.instanceMethod yX1_firstTrip ∈ qtbl ∧ Cond.selects RX1 yX1_firstTrip yX1_firstTrip ∈ qtbl := ⟨(qmem 359 (by decide +kernel) rfl), (qmem 11 (by decide +kernel) rfl)⟩
theorem yX2_add_ok : qY yX2_add cX2_add 3 (some .boolean) 2 := ⟨(qmem 212 (by decide +kernel) rfl), (qmem 39 (by decide +kernel) rfl), by decide +kernel, by decide +kernel, by decide +kernel⟩
theorem yX2_add_in : Cond.instanceMethod yX2_add ∈ qtbl ∧ Cond.selects RX2 yX2_add yX2_add ∈ qtbl := ⟨(qmem 210 (by decide +kernel) rfl), (qmem 211 (by decide +kernel) rfl)⟩
theorem yX1_write_ok : qY yX1_write cX1_write 8 none 2 := ⟨(qmem 355 (by decide +kernel) rfl), (qmem 40 (by decide +kernel) rfl), by decide +kernel, by decide +kernel, by decide +kernel⟩
theorem yX1_write_in : Cond.instanceMethod yX1_write ∈ qtbl ∧ Cond.selects RX1 yX1_write yX1_write ∈ qtbl := ⟨(qmem 354 (by decide +kernel) rfl), (qmem 10 (by decide +kernel) rfl)⟩
theorem yX1_planMean_ok : qY yX1_planMean cX1_planMean 6 (some .int) 2 := ⟨(qmem 321 (by decide +kernel) rfl), (qmem 40 (by decide +kernel) rfl), by decide +kernel, by decide +kernel, by decide +kernel⟩
theorem yX1_planMean_in : Cond.instanceMethod yX1_planMean ∈ qtbl ∧ Cond.selects RX1 yX1_planMean yX1_planMean ∈ qtbl := ⟨(qmem 319 (by decide +kernel) rfl), (qmem 320 (by decide +kernel) rfl)⟩
theorem yX1_capBy_ok : qY yX1_capBy cX1_capBy 3 none 1 := ⟨(qmem 397 (by decide +kernel) rfl), (qmem 40 (by decide +kernel) rfl), by decide +kernel, by decide +kernel, by decide +kernel⟩
theorem yX1_capBy_in : Cond.instanceMethod yX1_capBy ∈ qtbl ∧ Cond.selects RX1 yX1_capBy yX1_capBy ∈ qtbl := ⟨(qmem 396 (by decide +kernel) rfl), (qmem 15 (by decide +kernel) rfl)⟩
theorem yX1_planWorst_ok : qY yX1_planWorst cX1_planWorst 7 (some .int) 2 := ⟨(qmem 393 (by decide +kernel) rfl), (qmem 40 (by decide +kernel) rfl), by decide +kernel, by decide +kernel, by decide +kernel⟩
theorem yX1_planWorst_in : Cond.instanceMethod yX1_planWorst ∈ qtbl ∧ Cond.selects RX1 yX1_planWorst yX1_planWorst ∈ qtbl := ⟨(qmem 391 (by decide +kernel) rfl), (qmem 392 (by decide +kernel) rfl)⟩
theorem yX2_has_ok : qY yX2_has cX2_has 2 (some .boolean) 1 := ⟨(qmem 221 (by decide +kernel) rfl), (qmem 39 (by decide +kernel) rfl), by decide +kernel, by decide +kernel, by decide +kernel⟩
theorem yX2_has_in : Cond.instanceMethod yX2_has ∈ qtbl ∧ Cond.selects RX2 yX2_has yX2_has ∈ qtbl := ⟨(qmem 219 (by decide +kernel) rfl), (qmem 220 (by decide +kernel) rfl)⟩
theorem yX2_rayOf_ok : qY yX2_rayOf cX2_rayOf 2 (some .int) 1 := ⟨(qmem 225 (by decide +kernel) rfl), (qmem 39 (by decide +kernel) rfl), by decide +kernel, by decide +kernel, by decide +kernel⟩
theorem yX2_rayOf_in : Cond.instanceMethod yX2_rayOf ∈ qtbl ∧ Cond.selects RX2 yX2_rayOf yX2_rayOf ∈ qtbl := ⟨(qmem 223 (by decide +kernel) rfl), (qmem 224 (by decide +kernel) rfl)⟩
theorem yX2_stepsOf_ok : qY yX2_stepsOf cX2_stepsOf 2 (some .int) 1 := ⟨(qmem 231 (by decide +kernel) rfl), (qmem 39 (by decide +kernel) rfl), by decide +kernel, by decide +kernel, by decide +kernel⟩
theorem yX2_stepsOf_in : Cond.instanceMethod yX2_stepsOf ∈ qtbl ∧ Cond.selects RX2 yX2_stepsOf yX2_stepsOf ∈ qtbl := ⟨(qmem 229 (by decide +kernel) rfl), (qmem 230 (by decide +kernel) rfl)⟩
theorem yX2_removeLast_ok : qY yX2_removeLast cX2_removeLast 1 (some .boolean) 0 := ⟨(qmem 251 (by decide +kernel) rfl), (qmem 39 (by decide +kernel) rfl), by decide +kernel, by decide +kernel, by decide +kernel⟩
theorem yX2_removeLast_in : Cond.instanceMethod yX2_removeLast ∈ qtbl ∧ Cond.selects RX2 yX2_removeLast yX2_removeLast ∈ qtbl := ⟨(qmem 249 (by decide +kernel) rfl), (qmem 250 (by decide +kernel) rfl)⟩
theorem yX2_copy_ok : qY yX2_copy cX2_copy 3 none 1 := ⟨(qmem 417 (by decide +kernel) rfl), (qmem 39 (by decide +kernel) rfl), by decide +kernel, by decide +kernel, by decide +kernel⟩
theorem yX2_copy_in : Cond.instanceMethod yX2_copy ∈ qtbl ∧ Cond.selects RX2 yX2_copy yX2_copy ∈ qtbl := ⟨(qmem 415 (by decide +kernel) rfl), (qmem 416 (by decide +kernel) rfl)⟩
theorem yX2_isFor_ok : qY yX2_isFor cX2_isFor 2 (some .boolean) 2 := ⟨(qmem 238 (by decide +kernel) rfl), (qmem 39 (by decide +kernel) rfl), by decide +kernel, by decide +kernel, by decide +kernel⟩
theorem yX2_isFor_in : Cond.static yX2_isFor ∈ qtbl := (qmem 237 (by decide +kernel) rfl)
theorem yX2_firstTo_ok : qY yX2_firstTo cX2_firstTo 5 (some .int) 3 := ⟨(qmem 267 (by decide +kernel) rfl), (qmem 39 (by decide +kernel) rfl), by decide +kernel, by decide +kernel, by decide +kernel⟩
theorem yX2_firstTo_in : Cond.instanceMethod yX2_firstTo ∈ qtbl ∧ Cond.selects RX2 yX2_firstTo yX2_firstTo ∈ qtbl := ⟨(qmem 265 (by decide +kernel) rfl), (qmem 266 (by decide +kernel) rfl)⟩
theorem yX2_stepsAhead_ok : qY yX2_stepsAhead cX2_stepsAhead 5 (some .int) 2 := ⟨(qmem 235 (by decide +kernel) rfl), (qmem 39 (by decide +kernel) rfl), by decide +kernel, by decide +kernel, by decide +kernel⟩
theorem yX2_stepsAhead_in : Cond.instanceMethod yX2_stepsAhead ∈ qtbl ∧ Cond.selects RX2 yX2_stepsAhead yX2_stepsAhead ∈ qtbl := ⟨(qmem 233 (by decide +kernel) rfl), (qmem 234 (by decide +kernel) rfl)⟩
theorem yX2_farthest_ok : qY yX2_farthest cX2_farthest 5 (some .int) 2 := ⟨(qmem 290 (by decide +kernel) rfl), (qmem 39 (by decide +kernel) rfl), by decide +kernel, by decide +kernel, by decide +kernel⟩
theorem yX2_farthest_in : Cond.instanceMethod yX2_farthest ∈ qtbl ∧ Cond.selects RX2 yX2_farthest yX2_farthest ∈ qtbl := ⟨(qmem 288 (by decide +kernel) rfl), (qmem 289 (by decide +kernel) rfl)⟩
theorem yX3_rays_ok : qY yX3_rays cX3_rays 3 (some .int) 2 := ⟨(qmem 164 (by decide +kernel) rfl), (qmem 37 (by decide +kernel) rfl), by decide +kernel, by decide +kernel, by decide +kernel⟩
theorem yX3_rays_in : Cond.instanceMethod yX3_rays ∈ qtbl ∧ Cond.selects RX3 yX3_rays yX3_rays ∈ qtbl := ⟨(qmem 162 (by decide +kernel) rfl), (qmem 163 (by decide +kernel) rfl)⟩
theorem yX3_costs_ok : qY yX3_costs cX3_costs 3 (some .int) 2 := ⟨(qmem 177 (by decide +kernel) rfl), (qmem 37 (by decide +kernel) rfl), by decide +kernel, by decide +kernel, by decide +kernel⟩
theorem yX3_costs_in : Cond.instanceMethod yX3_costs ∈ qtbl ∧ Cond.selects RX3 yX3_costs yX3_costs ∈ qtbl := ⟨(qmem 175 (by decide +kernel) rfl), (qmem 176 (by decide +kernel) rfl)⟩
theorem yX3_share_ok : qY yX3_share cX3_share 5 (some .int) 3 := ⟨(qmem 181 (by decide +kernel) rfl), (qmem 37 (by decide +kernel) rfl), by decide +kernel, by decide +kernel, by decide +kernel⟩
theorem yX3_share_in : Cond.instanceMethod yX3_share ∈ qtbl ∧ Cond.selects RX3 yX3_share yX3_share ∈ qtbl := ⟨(qmem 179 (by decide +kernel) rfl), (qmem 180 (by decide +kernel) rfl)⟩
theorem yX3_shareOf_ok : qY yX3_shareOf cX3_shareOf 3 (some .int) 2 := ⟨(qmem 204 (by decide +kernel) rfl), (qmem 37 (by decide +kernel) rfl), by decide +kernel, by decide +kernel, by decide +kernel⟩
theorem yX3_shareOf_in : Cond.instanceMethod yX3_shareOf ∈ qtbl ∧ Cond.selects RX3 yX3_shareOf yX3_shareOf ∈ qtbl := ⟨(qmem 202 (by decide +kernel) rfl), (qmem 203 (by decide +kernel) rfl)⟩
theorem yX3_trip_ok : qY yX3_trip cX3_trip 4 (some .int) 2 := ⟨(qmem 208 (by decide +kernel) rfl), (qmem 37 (by decide +kernel) rfl), by decide +kernel, by decide +kernel, by decide +kernel⟩
theorem yX3_trip_in : Cond.instanceMethod yX3_trip ∈ qtbl ∧ Cond.selects RX3 yX3_trip yX3_trip ∈ qtbl := ⟨(qmem 206 (by decide +kernel) rfl), (qmem 207 (by decide +kernel) rfl)⟩
theorem yX3_wholeTrips_ok : qY yX3_wholeTrips cX3_wholeTrips 2 (some .int) 1 := ⟨(qmem 243 (by decide +kernel) rfl), (qmem 37 (by decide +kernel) rfl), by decide +kernel, by decide +kernel, by decide +kernel⟩
theorem yX3_wholeTrips_in : Cond.instanceMethod yX3_wholeTrips ∈ qtbl ∧ Cond.selects RX3 yX3_wholeTrips yX3_wholeTrips ∈ qtbl := ⟨(qmem 242 (by decide +kernel) rfl), (qmem 0 (by decide +kernel) rfl)⟩
theorem yX3_tripOf_ok : qY yX3_tripOf cX3_tripOf 3 (some .int) 2 := ⟨(qmem 217 (by decide +kernel) rfl), (qmem 37 (by decide +kernel) rfl), by decide +kernel, by decide +kernel, by decide +kernel⟩
theorem yX3_tripOf_in : Cond.instanceMethod yX3_tripOf ∈ qtbl ∧ Cond.selects RX3 yX3_tripOf yX3_tripOf ∈ qtbl := ⟨(qmem 215 (by decide +kernel) rfl), (qmem 216 (by decide +kernel) rfl)⟩
theorem yX3_drop_ok : qY yX3_drop cX3_drop 1 (some .int) 0 := ⟨(qmem 247 (by decide +kernel) rfl), (qmem 37 (by decide +kernel) rfl), by decide +kernel, by decide +kernel, by decide +kernel⟩
theorem yX3_drop_in : Cond.instanceMethod yX3_drop ∈ qtbl ∧ Cond.selects RX3 yX3_drop yX3_drop ∈ qtbl := ⟨(qmem 245 (by decide +kernel) rfl), (qmem 246 (by decide +kernel) rfl)⟩
theorem yX3_clear_ok : qY yX3_clear cX3_clear 2 (some .int) 0 := ⟨(qmem 255 (by decide +kernel) rfl), (qmem 37 (by decide +kernel) rfl), by decide +kernel, by decide +kernel, by decide +kernel⟩
theorem yX3_clear_in : Cond.instanceMethod yX3_clear ∈ qtbl ∧ Cond.selects RX3 yX3_clear yX3_clear ∈ qtbl := ⟨(qmem 253 (by decide +kernel) rfl), (qmem 254 (by decide +kernel) rfl)⟩
theorem yX3_wayTo_ok : qY yX3_wayTo cX3_wayTo 4 (some .int) 2 := ⟨(qmem 263 (by decide +kernel) rfl), (qmem 37 (by decide +kernel) rfl), by decide +kernel, by decide +kernel, by decide +kernel⟩
theorem yX3_wayTo_in : Cond.instanceMethod yX3_wayTo ∈ qtbl ∧ Cond.selects RX3 yX3_wayTo yX3_wayTo ∈ qtbl := ⟨(qmem 262 (by decide +kernel) rfl), (qmem 1 (by decide +kernel) rfl)⟩
theorem yX3_way_ok : qY yX3_way cX3_way 3 (some .int) 2 := ⟨(qmem 259 (by decide +kernel) rfl), (qmem 37 (by decide +kernel) rfl), by decide +kernel, by decide +kernel, by decide +kernel⟩
theorem yX3_way_in : Cond.instanceMethod yX3_way ∈ qtbl ∧ Cond.selects RX3 yX3_way yX3_way ∈ qtbl := ⟨(qmem 257 (by decide +kernel) rfl), (qmem 258 (by decide +kernel) rfl)⟩
theorem yX3_commonDivisor_ok : qY yX3_commonDivisor cX3_commonDivisor 6 (some .int) 2 := ⟨(qmem 278 (by decide +kernel) rfl), (qmem 37 (by decide +kernel) rfl), by decide +kernel, by decide +kernel, by decide +kernel⟩
theorem yX3_commonDivisor_in : Cond.static yX3_commonDivisor ∈ qtbl := (qmem 277 (by decide +kernel) rfl)
theorem yX3_lowest_ok : qY yX3_lowest cX3_lowest 4 (some .int) 3 := ⟨(qmem 275 (by decide +kernel) rfl), (qmem 37 (by decide +kernel) rfl), by decide +kernel, by decide +kernel, by decide +kernel⟩
theorem yX3_lowest_in : Cond.static yX3_lowest ∈ qtbl := (qmem 274 (by decide +kernel) rfl)
theorem yX3_late_ok : qY yX3_late cX3_late 5 (some .int) 3 := ⟨(qmem 272 (by decide +kernel) rfl), (qmem 37 (by decide +kernel) rfl), by decide +kernel, by decide +kernel, by decide +kernel⟩
theorem yX3_late_in : Cond.instanceMethod yX3_late ∈ qtbl ∧ Cond.selects RX3 yX3_late yX3_late ∈ qtbl := ⟨(qmem 270 (by decide +kernel) rfl), (qmem 271 (by decide +kernel) rfl)⟩
theorem yX3_countMissed_ok : qY yX3_countMissed cX3_countMissed 3 (some .int) 0 := ⟨(qmem 286 (by decide +kernel) rfl), (qmem 37 (by decide +kernel) rfl), by decide +kernel, by decide +kernel, by decide +kernel⟩
theorem yX3_countMissed_in : Cond.instanceMethod yX3_countMissed ∈ qtbl ∧ Cond.selects RX3 yX3_countMissed yX3_countMissed ∈ qtbl := ⟨(qmem 285 (by decide +kernel) rfl), (qmem 2 (by decide +kernel) rfl)⟩
theorem yX3_worstPlace_ok : qY yX3_worstPlace cX3_worstPlace 7 (some .int) 0 := ⟨(qmem 297 (by decide +kernel) rfl), (qmem 37 (by decide +kernel) rfl), by decide +kernel, by decide +kernel, by decide +kernel⟩
theorem yX3_worstPlace_in : Cond.instanceMethod yX3_worstPlace ∈ qtbl ∧ Cond.selects RX3 yX3_worstPlace yX3_worstPlace ∈ qtbl := ⟨(qmem 296 (by decide +kernel) rfl), (qmem 3 (by decide +kernel) rfl)⟩
theorem yX3_worst_ok : qY yX3_worst cX3_worst 5 (some .int) 1 := ⟨(qmem 282 (by decide +kernel) rfl), (qmem 37 (by decide +kernel) rfl), by decide +kernel, by decide +kernel, by decide +kernel⟩
theorem yX3_worst_in : Cond.instanceMethod yX3_worst ∈ qtbl ∧ Cond.selects RX3 yX3_worst yX3_worst ∈ qtbl := ⟨(qmem 280 (by decide +kernel) rfl), (qmem 281 (by decide +kernel) rfl)⟩
theorem yX3_mean_ok : qY yX3_mean cX3_mean 4 (some .int) 0 := ⟨(qmem 301 (by decide +kernel) rfl), (qmem 37 (by decide +kernel) rfl), by decide +kernel, by decide +kernel, by decide +kernel⟩
theorem yX3_mean_in : Cond.instanceMethod yX3_mean ∈ qtbl ∧ Cond.selects RX3 yX3_mean yX3_mean ∈ qtbl := ⟨(qmem 299 (by decide +kernel) rfl), (qmem 300 (by decide +kernel) rfl)⟩
theorem yX3_missed_ok : qY yX3_missed cX3_missed 5 (some .int) 1 := ⟨(qmem 305 (by decide +kernel) rfl), (qmem 37 (by decide +kernel) rfl), by decide +kernel, by decide +kernel, by decide +kernel⟩
theorem yX3_missed_in : Cond.instanceMethod yX3_missed ∈ qtbl ∧ Cond.selects RX3 yX3_missed yX3_missed ∈ qtbl := ⟨(qmem 303 (by decide +kernel) rfl), (qmem 304 (by decide +kernel) rfl)⟩
theorem yX3_finds_ok : qY yX3_finds cX3_finds 4 (some .int) 1 := ⟨(qmem 309 (by decide +kernel) rfl), (qmem 37 (by decide +kernel) rfl), by decide +kernel, by decide +kernel, by decide +kernel⟩
theorem yX3_finds_in : Cond.instanceMethod yX3_finds ∈ qtbl ∧ Cond.selects RX3 yX3_finds yX3_finds ∈ qtbl := ⟨(qmem 307 (by decide +kernel) rfl), (qmem 308 (by decide +kernel) rfl)⟩
theorem yX3_findMean_ok : qY yX3_findMean cX3_findMean 1 none 0 := ⟨(qmem 317 (by decide +kernel) rfl), (qmem 37 (by decide +kernel) rfl), by decide +kernel, by decide +kernel, by decide +kernel⟩
theorem yX3_findMean_in : Cond.instanceMethod yX3_findMean ∈ qtbl ∧ Cond.selects RX3 yX3_findMean yX3_findMean ∈ qtbl := ⟨(qmem 316 (by decide +kernel) rfl), (qmem 4 (by decide +kernel) rfl)⟩
theorem yX3_leastMean_ok : qY yX3_leastMean cX3_leastMean 1 (some .int) 0 := ⟨(qmem 313 (by decide +kernel) rfl), (qmem 37 (by decide +kernel) rfl), by decide +kernel, by decide +kernel, by decide +kernel⟩
theorem yX3_leastMean_in : Cond.instanceMethod yX3_leastMean ∈ qtbl ∧ Cond.selects RX3 yX3_leastMean yX3_leastMean ∈ qtbl := ⟨(qmem 311 (by decide +kernel) rfl), (qmem 312 (by decide +kernel) rfl)⟩
theorem yX3_placeOf_ok : qY yX3_placeOf cX3_placeOf 2 (some .int) 2 := ⟨(qmem 381 (by decide +kernel) rfl), (qmem 37 (by decide +kernel) rfl), by decide +kernel, by decide +kernel, by decide +kernel⟩
theorem yX3_placeOf_in : Cond.static yX3_placeOf ∈ qtbl := (qmem 380 (by decide +kernel) rfl)
theorem yX3_meanTrip_ok : qY yX3_meanTrip cX3_meanTrip 2 (some .int) 1 := ⟨(qmem 378 (by decide +kernel) rfl), (qmem 37 (by decide +kernel) rfl), by decide +kernel, by decide +kernel, by decide +kernel⟩
theorem yX3_meanTrip_in : Cond.instanceMethod yX3_meanTrip ∈ qtbl ∧ Cond.selects RX3 yX3_meanTrip yX3_meanTrip ∈ qtbl := ⟨(qmem 376 (by decide +kernel) rfl), (qmem 377 (by decide +kernel) rfl)⟩
theorem yX3_findWorst_ok : qY yX3_findWorst cX3_findWorst 1 none 0 := ⟨(qmem 389 (by decide +kernel) rfl), (qmem 37 (by decide +kernel) rfl), by decide +kernel, by decide +kernel, by decide +kernel⟩
theorem yX3_findWorst_in : Cond.instanceMethod yX3_findWorst ∈ qtbl ∧ Cond.selects RX3 yX3_findWorst yX3_findWorst ∈ qtbl := ⟨(qmem 388 (by decide +kernel) rfl), (qmem 14 (by decide +kernel) rfl)⟩
theorem yX3_worstUpper_ok : qY yX3_worstUpper cX3_worstUpper 1 (some .int) 0 := ⟨(qmem 401 (by decide +kernel) rfl), (qmem 37 (by decide +kernel) rfl), by decide +kernel, by decide +kernel, by decide +kernel⟩
theorem yX3_worstUpper_in : Cond.instanceMethod yX3_worstUpper ∈ qtbl ∧ Cond.selects RX3 yX3_worstUpper yX3_worstUpper ∈ qtbl := ⟨(qmem 400 (by decide +kernel) rfl), (qmem 16 (by decide +kernel) rfl)⟩
theorem yX3_leastWorst_ok : qY yX3_leastWorst cX3_leastWorst 2 (some .int) 1 := ⟨(qmem 385 (by decide +kernel) rfl), (qmem 37 (by decide +kernel) rfl), by decide +kernel, by decide +kernel, by decide +kernel⟩
theorem yX3_leastWorst_in : Cond.instanceMethod yX3_leastWorst ∈ qtbl ∧ Cond.selects RX3 yX3_leastWorst yX3_leastWorst ∈ qtbl := ⟨(qmem 383 (by decide +kernel) rfl), (qmem 384 (by decide +kernel) rfl)⟩
theorem yX3_worstTrip_ok : qY yX3_worstTrip cX3_worstTrip 2 (some .int) 1 := ⟨(qmem 405 (by decide +kernel) rfl), (qmem 37 (by decide +kernel) rfl), by decide +kernel, by decide +kernel, by decide +kernel⟩
theorem yX3_worstTrip_in : Cond.instanceMethod yX3_worstTrip ∈ qtbl ∧ Cond.selects RX3 yX3_worstTrip yX3_worstTrip ∈ qtbl := ⟨(qmem 403 (by decide +kernel) rfl), (qmem 404 (by decide +kernel) rfl)⟩
theorem yX3_within_ok : qY yX3_within cX3_within 3 (some .int) 2 := ⟨(qmem 409 (by decide +kernel) rfl), (qmem 37 (by decide +kernel) rfl), by decide +kernel, by decide +kernel, by decide +kernel⟩
theorem yX3_within_in : Cond.instanceMethod yX3_within ∈ qtbl ∧ Cond.selects RX3 yX3_within yX3_within ∈ qtbl := ⟨(qmem 407 (by decide +kernel) rfl), (qmem 408 (by decide +kernel) rfl)⟩
theorem yX3_take_ok : qY yX3_take cX3_take 2 (some .int) 1 := ⟨(qmem 413 (by decide +kernel) rfl), (qmem 37 (by decide +kernel) rfl), by decide +kernel, by decide +kernel, by decide +kernel⟩
theorem yX3_take_in : Cond.instanceMethod yX3_take ∈ qtbl ∧ Cond.selects RX3 yX3_take yX3_take ∈ qtbl := ⟨(qmem 411 (by decide +kernel) rfl), (qmem 412 (by decide +kernel) rfl)⟩
theorem yX3_tripThatMeets_ok : qY yX3_tripThatMeets cX3_tripThatMeets 5 (some .int) 2 := ⟨(qmem 426 (by decide +kernel) rfl), (qmem 37 (by decide +kernel) rfl), by decide +kernel, by decide +kernel, by decide +kernel⟩
theorem yX3_tripThatMeets_in : Cond.instanceMethod yX3_tripThatMeets ∈ qtbl ∧ Cond.selects RX3 yX3_tripThatMeets yX3_tripThatMeets ∈ qtbl := ⟨(qmem 425 (by decide +kernel) rfl), (qmem 17 (by decide +kernel) rfl)⟩
theorem yX3_both_ok : qY yX3_both cX3_both 8 (some .int) 3 := ⟨(qmem 422 (by decide +kernel) rfl), (qmem 37 (by decide +kernel) rfl), by decide +kernel, by decide +kernel, by decide +kernel⟩
theorem yX3_both_in : Cond.instanceMethod yX3_both ∈ qtbl ∧ Cond.selects RX3 yX3_both yX3_both ∈ qtbl := ⟨(qmem 420 (by decide +kernel) rfl), (qmem 421 (by decide +kernel) rfl)⟩
theorem yX3_end_ok : qY yX3_end cX3_end 2 (some .int) 0 := ⟨(qmem 430 (by decide +kernel) rfl), (qmem 37 (by decide +kernel) rfl), by decide +kernel, by decide +kernel, by decide +kernel⟩
theorem yX3_end_in : Cond.instanceMethod yX3_end ∈ qtbl ∧ Cond.selects RX3 yX3_end yX3_end ∈ qtbl := ⟨(qmem 428 (by decide +kernel) rfl), (qmem 429 (by decide +kernel) rfl)⟩
theorem yX3_told_ok : qY yX3_told cX3_told 2 (some .int) 1 := ⟨(qmem 435 (by decide +kernel) rfl), (qmem 37 (by decide +kernel) rfl), by decide +kernel, by decide +kernel, by decide +kernel⟩
theorem yX3_told_in : Cond.instanceMethod yX3_told ∈ qtbl ∧ Cond.selects RX3 yX3_told yX3_told ∈ qtbl := ⟨(qmem 433 (by decide +kernel) rfl), (qmem 434 (by decide +kernel) rfl)⟩
theorem yX4_in_ok : qY yX4_in cX4_in 3 (some .boolean) 3 := ⟨(qmem 502 (by decide +kernel) rfl), (qmem 41 (by decide +kernel) rfl), by decide +kernel, by decide +kernel, by decide +kernel⟩
theorem yX4_in_in : Cond.static yX4_in ∈ qtbl := (qmem 501 (by decide +kernel) rfl)
theorem yX4_begin_ok : qY yX4_begin cX4_begin 2 none 0 := ⟨(qmem 449 (by decide +kernel) rfl), (qmem 41 (by decide +kernel) rfl), by decide +kernel, by decide +kernel, by decide +kernel⟩
theorem yX4_begin_in : Cond.instanceMethod yX4_begin ∈ qtbl ∧ Cond.selects RX4 yX4_begin yX4_begin ∈ qtbl := ⟨(qmem 448 (by decide +kernel) rfl), (qmem 18 (by decide +kernel) rfl)⟩
theorem yX4_isPlace_ok : qY yX4_isPlace cX4_isPlace 3 (some .boolean) 2 := ⟨(qmem 514 (by decide +kernel) rfl), (qmem 41 (by decide +kernel) rfl), by decide +kernel, by decide +kernel, by decide +kernel⟩
theorem yX4_isPlace_in : Cond.instanceMethod yX4_isPlace ∈ qtbl ∧ Cond.selects RX4 yX4_isPlace yX4_isPlace ∈ qtbl := ⟨(qmem 513 (by decide +kernel) rfl), (qmem 19 (by decide +kernel) rfl)⟩
theorem yX4_rays_ok : qY yX4_rays cX4_rays 3 (some .int) 2 := ⟨(qmem 499 (by decide +kernel) rfl), (qmem 41 (by decide +kernel) rfl), by decide +kernel, by decide +kernel, by decide +kernel⟩
theorem yX4_rays_in : Cond.instanceMethod yX4_rays ∈ qtbl ∧ Cond.selects RX4 yX4_rays yX4_rays ∈ qtbl := ⟨(qmem 497 (by decide +kernel) rfl), (qmem 498 (by decide +kernel) rfl)⟩
theorem yX4_costs_ok : qY yX4_costs cX4_costs 3 (some .int) 2 := ⟨(qmem 506 (by decide +kernel) rfl), (qmem 41 (by decide +kernel) rfl), by decide +kernel, by decide +kernel, by decide +kernel⟩
theorem yX4_costs_in : Cond.instanceMethod yX4_costs ∈ qtbl ∧ Cond.selects RX4 yX4_costs yX4_costs ∈ qtbl := ⟨(qmem 504 (by decide +kernel) rfl), (qmem 505 (by decide +kernel) rfl)⟩
theorem yX4_share_ok : qY yX4_share cX4_share 5 (some .int) 3 := ⟨(qmem 510 (by decide +kernel) rfl), (qmem 41 (by decide +kernel) rfl), by decide +kernel, by decide +kernel, by decide +kernel⟩
theorem yX4_share_in : Cond.instanceMethod yX4_share ∈ qtbl ∧ Cond.selects RX4 yX4_share yX4_share ∈ qtbl := ⟨(qmem 508 (by decide +kernel) rfl), (qmem 509 (by decide +kernel) rfl)⟩
theorem yX4_shareOf_ok : qY yX4_shareOf cX4_shareOf 3 (some .int) 2 := ⟨(qmem 518 (by decide +kernel) rfl), (qmem 41 (by decide +kernel) rfl), by decide +kernel, by decide +kernel, by decide +kernel⟩
theorem yX4_shareOf_in : Cond.instanceMethod yX4_shareOf ∈ qtbl ∧ Cond.selects RX4 yX4_shareOf yX4_shareOf ∈ qtbl := ⟨(qmem 516 (by decide +kernel) rfl), (qmem 517 (by decide +kernel) rfl)⟩
theorem yX4_trip_ok : qY yX4_trip cX4_trip 3 (some .int) 2 := ⟨(qmem 522 (by decide +kernel) rfl), (qmem 41 (by decide +kernel) rfl), by decide +kernel, by decide +kernel, by decide +kernel⟩
theorem yX4_trip_in : Cond.instanceMethod yX4_trip ∈ qtbl ∧ Cond.selects RX4 yX4_trip yX4_trip ∈ qtbl := ⟨(qmem 520 (by decide +kernel) rfl), (qmem 521 (by decide +kernel) rfl)⟩
theorem yX4_costAhead_ok : qY yX4_costAhead cX4_costAhead 4 (some .int) 1 := ⟨(qmem 530 (by decide +kernel) rfl), (qmem 41 (by decide +kernel) rfl), by decide +kernel, by decide +kernel, by decide +kernel⟩
theorem yX4_costAhead_in : Cond.instanceMethod yX4_costAhead ∈ qtbl ∧ Cond.selects RX4 yX4_costAhead yX4_costAhead ∈ qtbl := ⟨(qmem 529 (by decide +kernel) rfl), (qmem 20 (by decide +kernel) rfl)⟩
theorem yX4_tripOf_ok : qY yX4_tripOf cX4_tripOf 3 (some .int) 2 := ⟨(qmem 526 (by decide +kernel) rfl), (qmem 41 (by decide +kernel) rfl), by decide +kernel, by decide +kernel, by decide +kernel⟩
theorem yX4_tripOf_in : Cond.instanceMethod yX4_tripOf ∈ qtbl ∧ Cond.selects RX4 yX4_tripOf yX4_tripOf ∈ qtbl := ⟨(qmem 524 (by decide +kernel) rfl), (qmem 525 (by decide +kernel) rfl)⟩
theorem yX4_drop_ok : qY yX4_drop cX4_drop 1 (some .int) 0 := ⟨(qmem 534 (by decide +kernel) rfl), (qmem 41 (by decide +kernel) rfl), by decide +kernel, by decide +kernel, by decide +kernel⟩
theorem yX4_drop_in : Cond.instanceMethod yX4_drop ∈ qtbl ∧ Cond.selects RX4 yX4_drop yX4_drop ∈ qtbl := ⟨(qmem 532 (by decide +kernel) rfl), (qmem 533 (by decide +kernel) rfl)⟩
theorem yX4_clear_ok : qY yX4_clear cX4_clear 2 (some .int) 0 := ⟨(qmem 538 (by decide +kernel) rfl), (qmem 41 (by decide +kernel) rfl), by decide +kernel, by decide +kernel, by decide +kernel⟩
theorem yX4_clear_in : Cond.instanceMethod yX4_clear ∈ qtbl ∧ Cond.selects RX4 yX4_clear yX4_clear ∈ qtbl := ⟨(qmem 536 (by decide +kernel) rfl), (qmem 537 (by decide +kernel) rfl)⟩
theorem yX4_comes_ok : qY yX4_comes cX4_comes 4 (some .int) 2 := ⟨(qmem 550 (by decide +kernel) rfl), (qmem 41 (by decide +kernel) rfl), by decide +kernel, by decide +kernel, by decide +kernel⟩
theorem yX4_comes_in : Cond.instanceMethod yX4_comes ∈ qtbl ∧ Cond.selects RX4 yX4_comes yX4_comes ∈ qtbl := ⟨(qmem 549 (by decide +kernel) rfl), (qmem 22 (by decide +kernel) rfl)⟩
theorem yX4_wayOf_ok : qY yX4_wayOf cX4_wayOf 4 (some .int) 2 := ⟨(qmem 546 (by decide +kernel) rfl), (qmem 41 (by decide +kernel) rfl), by decide +kernel, by decide +kernel, by decide +kernel⟩
theorem yX4_wayOf_in : Cond.instanceMethod yX4_wayOf ∈ qtbl ∧ Cond.selects RX4 yX4_wayOf yX4_wayOf ∈ qtbl := ⟨(qmem 545 (by decide +kernel) rfl), (qmem 21 (by decide +kernel) rfl)⟩
theorem yX4_way_ok : qY yX4_way cX4_way 3 (some .int) 2 := ⟨(qmem 542 (by decide +kernel) rfl), (qmem 41 (by decide +kernel) rfl), by decide +kernel, by decide +kernel, by decide +kernel⟩
theorem yX4_way_in : Cond.instanceMethod yX4_way ∈ qtbl ∧ Cond.selects RX4 yX4_way yX4_way ∈ qtbl := ⟨(qmem 540 (by decide +kernel) rfl), (qmem 541 (by decide +kernel) rfl)⟩
theorem yX4_common_ok : qY yX4_common cX4_common 5 (some .int) 2 := ⟨(qmem 560 (by decide +kernel) rfl), (qmem 41 (by decide +kernel) rfl), by decide +kernel, by decide +kernel, by decide +kernel⟩
theorem yX4_common_in : Cond.static yX4_common ∈ qtbl := (qmem 559 (by decide +kernel) rfl)
theorem yX4_term_ok : qY yX4_term cX4_term 3 (some .int) 3 := ⟨(qmem 557 (by decide +kernel) rfl), (qmem 41 (by decide +kernel) rfl), by decide +kernel, by decide +kernel, by decide +kernel⟩
theorem yX4_term_in : Cond.static yX4_term ∈ qtbl := (qmem 556 (by decide +kernel) rfl)
theorem yX4_late_ok : qY yX4_late cX4_late 5 (some .int) 3 := ⟨(qmem 554 (by decide +kernel) rfl), (qmem 41 (by decide +kernel) rfl), by decide +kernel, by decide +kernel, by decide +kernel⟩
theorem yX4_late_in : Cond.instanceMethod yX4_late ∈ qtbl ∧ Cond.selects RX4 yX4_late yX4_late ∈ qtbl := ⟨(qmem 552 (by decide +kernel) rfl), (qmem 553 (by decide +kernel) rfl)⟩
theorem yX4_missedAt_ok : qY yX4_missedAt cX4_missedAt 5 (some .int) 1 := ⟨(qmem 568 (by decide +kernel) rfl), (qmem 41 (by decide +kernel) rfl), by decide +kernel, by decide +kernel, by decide +kernel⟩
theorem yX4_missedAt_in : Cond.instanceMethod yX4_missedAt ∈ qtbl ∧ Cond.selects RX4 yX4_missedAt yX4_missedAt ∈ qtbl := ⟨(qmem 567 (by decide +kernel) rfl), (qmem 23 (by decide +kernel) rfl)⟩
theorem yX4_worst_ok : qY yX4_worst cX4_worst 6 (some .int) 1 := ⟨(qmem 564 (by decide +kernel) rfl), (qmem 41 (by decide +kernel) rfl), by decide +kernel, by decide +kernel, by decide +kernel⟩
theorem yX4_worst_in : Cond.instanceMethod yX4_worst ∈ qtbl ∧ Cond.selects RX4 yX4_worst yX4_worst ∈ qtbl := ⟨(qmem 562 (by decide +kernel) rfl), (qmem 563 (by decide +kernel) rfl)⟩
theorem yX4_mean_ok : qY yX4_mean cX4_mean 4 (some .int) 0 := ⟨(qmem 572 (by decide +kernel) rfl), (qmem 41 (by decide +kernel) rfl), by decide +kernel, by decide +kernel, by decide +kernel⟩
theorem yX4_mean_in : Cond.instanceMethod yX4_mean ∈ qtbl ∧ Cond.selects RX4 yX4_mean yX4_mean ∈ qtbl := ⟨(qmem 570 (by decide +kernel) rfl), (qmem 571 (by decide +kernel) rfl)⟩
theorem yX4_missed_ok : qY yX4_missed cX4_missed 2 (some .int) 1 := ⟨(qmem 576 (by decide +kernel) rfl), (qmem 41 (by decide +kernel) rfl), by decide +kernel, by decide +kernel, by decide +kernel⟩
theorem yX4_missed_in : Cond.instanceMethod yX4_missed ∈ qtbl ∧ Cond.selects RX4 yX4_missed yX4_missed ∈ qtbl := ⟨(qmem 574 (by decide +kernel) rfl), (qmem 575 (by decide +kernel) rfl)⟩
theorem yX4_finds_ok : qY yX4_finds cX4_finds 4 (some .int) 1 := ⟨(qmem 580 (by decide +kernel) rfl), (qmem 41 (by decide +kernel) rfl), by decide +kernel, by decide +kernel, by decide +kernel⟩
theorem yX4_finds_in : Cond.instanceMethod yX4_finds ∈ qtbl ∧ Cond.selects RX4 yX4_finds yX4_finds ∈ qtbl := ⟨(qmem 578 (by decide +kernel) rfl), (qmem 579 (by decide +kernel) rfl)⟩
theorem yX4_nines_ok : qY yX4_nines cX4_nines 1 (some .int) 1 := ⟨(qmem 602 (by decide +kernel) rfl), (qmem 41 (by decide +kernel) rfl), by decide +kernel, by decide +kernel, by decide +kernel⟩
theorem yX4_nines_in : Cond.static yX4_nines ∈ qtbl := (qmem 601 (by decide +kernel) rfl)
theorem yX4_gone_ok : qY yX4_gone cX4_gone 2 (some .int) 2 := ⟨(qmem 599 (by decide +kernel) rfl), (qmem 41 (by decide +kernel) rfl), by decide +kernel, by decide +kernel, by decide +kernel⟩
theorem yX4_gone_in : Cond.static yX4_gone ∈ qtbl := (qmem 598 (by decide +kernel) rfl)
theorem yX4_lastState_ok : qY yX4_lastState cX4_lastState 1 (some .int) 0 := ⟨(qmem 592 (by decide +kernel) rfl), (qmem 41 (by decide +kernel) rfl), by decide +kernel, by decide +kernel, by decide +kernel⟩
theorem yX4_lastState_in : Cond.instanceMethod yX4_lastState ∈ qtbl ∧ Cond.selects RX4 yX4_lastState yX4_lastState ∈ qtbl := ⟨(qmem 591 (by decide +kernel) rfl), (qmem 25 (by decide +kernel) rfl)⟩
theorem yX4_isState_ok : qY yX4_isState cX4_isState 4 (some .boolean) 1 := ⟨(qmem 596 (by decide +kernel) rfl), (qmem 41 (by decide +kernel) rfl), by decide +kernel, by decide +kernel, by decide +kernel⟩
theorem yX4_isState_in : Cond.instanceMethod yX4_isState ∈ qtbl ∧ Cond.selects RX4 yX4_isState yX4_isState ∈ qtbl := ⟨(qmem 595 (by decide +kernel) rfl), (qmem 26 (by decide +kernel) rfl)⟩
theorem yX4_rest_ok : qY yX4_rest cX4_rest 5 (some .int) 1 := ⟨(qmem 611 (by decide +kernel) rfl), (qmem 41 (by decide +kernel) rfl), by decide +kernel, by decide +kernel, by decide +kernel⟩
theorem yX4_rest_in : Cond.instanceMethod yX4_rest ∈ qtbl ∧ Cond.selects RX4 yX4_rest yX4_rest ∈ qtbl := ⟨(qmem 610 (by decide +kernel) rfl), (qmem 28 (by decide +kernel) rfl)⟩
theorem yX4_adds_ok : qY yX4_adds cX4_adds 3 (some .int) 2 := ⟨(qmem 607 (by decide +kernel) rfl), (qmem 41 (by decide +kernel) rfl), by decide +kernel, by decide +kernel, by decide +kernel⟩
theorem yX4_adds_in : Cond.instanceMethod yX4_adds ∈ qtbl ∧ Cond.selects RX4 yX4_adds yX4_adds ∈ qtbl := ⟨(qmem 606 (by decide +kernel) rfl), (qmem 27 (by decide +kernel) rfl)⟩
theorem yX4_layLeast_ok : qY yX4_layLeast cX4_layLeast 6 none 0 := ⟨(qmem 588 (by decide +kernel) rfl), (qmem 41 (by decide +kernel) rfl), by decide +kernel, by decide +kernel, by decide +kernel⟩
theorem yX4_layLeast_in : Cond.instanceMethod yX4_layLeast ∈ qtbl ∧ Cond.selects RX4 yX4_layLeast yX4_layLeast ∈ qtbl := ⟨(qmem 587 (by decide +kernel) rfl), (qmem 24 (by decide +kernel) rfl)⟩
theorem yX4_leastMean_ok : qY yX4_leastMean cX4_leastMean 4 (some .int) 0 := ⟨(qmem 584 (by decide +kernel) rfl), (qmem 41 (by decide +kernel) rfl), by decide +kernel, by decide +kernel, by decide +kernel⟩
theorem yX4_leastMean_in : Cond.instanceMethod yX4_leastMean ∈ qtbl ∧ Cond.selects RX4 yX4_leastMean yX4_leastMean ∈ qtbl := ⟨(qmem 582 (by decide +kernel) rfl), (qmem 583 (by decide +kernel) rfl)⟩
theorem yX4_layMeanPlan_ok : qY yX4_layMeanPlan cX4_layMeanPlan 6 none 0 := ⟨(qmem 619 (by decide +kernel) rfl), (qmem 41 (by decide +kernel) rfl), by decide +kernel, by decide +kernel, by decide +kernel⟩
theorem yX4_layMeanPlan_in : Cond.instanceMethod yX4_layMeanPlan ∈ qtbl ∧ Cond.selects RX4 yX4_layMeanPlan yX4_layMeanPlan ∈ qtbl := ⟨(qmem 618 (by decide +kernel) rfl), (qmem 29 (by decide +kernel) rfl)⟩
theorem yX4_planAt_ok : qY yX4_planAt cX4_planAt 2 (some .int) 1 := ⟨(qmem 623 (by decide +kernel) rfl), (qmem 41 (by decide +kernel) rfl), by decide +kernel, by decide +kernel, by decide +kernel⟩
theorem yX4_planAt_in : Cond.instanceMethod yX4_planAt ∈ qtbl ∧ Cond.selects RX4 yX4_planAt yX4_planAt ∈ qtbl := ⟨(qmem 622 (by decide +kernel) rfl), (qmem 30 (by decide +kernel) rfl)⟩
theorem yX4_meanTrip_ok : qY yX4_meanTrip cX4_meanTrip 2 (some .int) 1 := ⟨(qmem 615 (by decide +kernel) rfl), (qmem 41 (by decide +kernel) rfl), by decide +kernel, by decide +kernel, by decide +kernel⟩
theorem yX4_meanTrip_in : Cond.instanceMethod yX4_meanTrip ∈ qtbl ∧ Cond.selects RX4 yX4_meanTrip yX4_meanTrip ∈ qtbl := ⟨(qmem 613 (by decide +kernel) rfl), (qmem 614 (by decide +kernel) rfl)⟩
theorem yX4_layMost_ok : qY yX4_layMost cX4_layMost 10 none 2 := ⟨(qmem 636 (by decide +kernel) rfl), (qmem 41 (by decide +kernel) rfl), by decide +kernel, by decide +kernel, by decide +kernel⟩
theorem yX4_layMost_in : Cond.instanceMethod yX4_layMost ∈ qtbl ∧ Cond.selects RX4 yX4_layMost yX4_layMost ∈ qtbl := ⟨(qmem 635 (by decide +kernel) rfl), (qmem 32 (by decide +kernel) rfl)⟩
theorem yX4_findWorst_ok : qY yX4_findWorst cX4_findWorst 5 none 0 := ⟨(qmem 631 (by decide +kernel) rfl), (qmem 41 (by decide +kernel) rfl), by decide +kernel, by decide +kernel, by decide +kernel⟩
theorem yX4_findWorst_in : Cond.instanceMethod yX4_findWorst ∈ qtbl ∧ Cond.selects RX4 yX4_findWorst yX4_findWorst ∈ qtbl := ⟨(qmem 630 (by decide +kernel) rfl), (qmem 31 (by decide +kernel) rfl)⟩
theorem yX4_leastWorst_ok : qY yX4_leastWorst cX4_leastWorst 2 (some .int) 1 := ⟨(qmem 627 (by decide +kernel) rfl), (qmem 41 (by decide +kernel) rfl), by decide +kernel, by decide +kernel, by decide +kernel⟩
theorem yX4_leastWorst_in : Cond.instanceMethod yX4_leastWorst ∈ qtbl ∧ Cond.selects RX4 yX4_leastWorst yX4_leastWorst ∈ qtbl := ⟨(qmem 625 (by decide +kernel) rfl), (qmem 626 (by decide +kernel) rfl)⟩
theorem yX4_layWorstPlan_ok : qY yX4_layWorstPlan cX4_layWorstPlan 8 none 0 := ⟨(qmem 645 (by decide +kernel) rfl), (qmem 41 (by decide +kernel) rfl), by decide +kernel, by decide +kernel, by decide +kernel⟩
theorem yX4_layWorstPlan_in : Cond.instanceMethod yX4_layWorstPlan ∈ qtbl ∧ Cond.selects RX4 yX4_layWorstPlan yX4_layWorstPlan ∈ qtbl := ⟨(qmem 644 (by decide +kernel) rfl), (qmem 33 (by decide +kernel) rfl)⟩
theorem yX4_worstTrip_ok : qY yX4_worstTrip cX4_worstTrip 2 (some .int) 1 := ⟨(qmem 641 (by decide +kernel) rfl), (qmem 41 (by decide +kernel) rfl), by decide +kernel, by decide +kernel, by decide +kernel⟩
theorem yX4_worstTrip_in : Cond.instanceMethod yX4_worstTrip ∈ qtbl ∧ Cond.selects RX4 yX4_worstTrip yX4_worstTrip ∈ qtbl := ⟨(qmem 639 (by decide +kernel) rfl), (qmem 640 (by decide +kernel) rfl)⟩
theorem yX4_within_ok : qY yX4_within cX4_within 3 (some .int) 2 := ⟨(qmem 649 (by decide +kernel) rfl), (qmem 41 (by decide +kernel) rfl), by decide +kernel, by decide +kernel, by decide +kernel⟩
theorem yX4_within_in : Cond.instanceMethod yX4_within ∈ qtbl ∧ Cond.selects RX4 yX4_within yX4_within ∈ qtbl := ⟨(qmem 647 (by decide +kernel) rfl), (qmem 648 (by decide +kernel) rfl)⟩
theorem yX4_take_ok : qY yX4_take cX4_take 3 (some .int) 1 := ⟨(qmem 653 (by decide +kernel) rfl), (qmem 41 (by decide +kernel) rfl), by decide +kernel, by decide +kernel, by decide +kernel⟩
theorem yX4_take_in : Cond.instanceMethod yX4_take ∈ qtbl ∧ Cond.selects RX4 yX4_take yX4_take ∈ qtbl := ⟨(qmem 651 (by decide +kernel) rfl), (qmem 652 (by decide +kernel) rfl)⟩
theorem yX4_comesBy_ok : qY yX4_comesBy cX4_comesBy 5 (some .int) 3 := ⟨(qmem 661 (by decide +kernel) rfl), (qmem 41 (by decide +kernel) rfl), by decide +kernel, by decide +kernel, by decide +kernel⟩
theorem yX4_comesBy_in : Cond.instanceMethod yX4_comesBy ∈ qtbl ∧ Cond.selects RX4 yX4_comesBy yX4_comesBy ∈ qtbl := ⟨(qmem 660 (by decide +kernel) rfl), (qmem 34 (by decide +kernel) rfl)⟩
theorem yX4_aheadOf_ok : qY yX4_aheadOf cX4_aheadOf 4 (some .int) 1 := ⟨(qmem 665 (by decide +kernel) rfl), (qmem 41 (by decide +kernel) rfl), by decide +kernel, by decide +kernel, by decide +kernel⟩
theorem yX4_aheadOf_in : Cond.instanceMethod yX4_aheadOf ∈ qtbl ∧ Cond.selects RX4 yX4_aheadOf yX4_aheadOf ∈ qtbl := ⟨(qmem 664 (by decide +kernel) rfl), (qmem 35 (by decide +kernel) rfl)⟩
theorem yX4_both_ok : qY yX4_both cX4_both 9 (some .int) 3 := ⟨(qmem 657 (by decide +kernel) rfl), (qmem 41 (by decide +kernel) rfl), by decide +kernel, by decide +kernel, by decide +kernel⟩
theorem yX4_both_in : Cond.instanceMethod yX4_both ∈ qtbl ∧ Cond.selects RX4 yX4_both yX4_both ∈ qtbl := ⟨(qmem 655 (by decide +kernel) rfl), (qmem 656 (by decide +kernel) rfl)⟩
theorem yX4_end_ok : qY yX4_end cX4_end 4 (some .int) 0 := ⟨(qmem 669 (by decide +kernel) rfl), (qmem 41 (by decide +kernel) rfl), by decide +kernel, by decide +kernel, by decide +kernel⟩
theorem yX4_end_in : Cond.instanceMethod yX4_end ∈ qtbl ∧ Cond.selects RX4 yX4_end yX4_end ∈ qtbl := ⟨(qmem 667 (by decide +kernel) rfl), (qmem 668 (by decide +kernel) rfl)⟩
theorem yX4_told_ok : qY yX4_told cX4_told 2 (some .int) 1 := ⟨(qmem 673 (by decide +kernel) rfl), (qmem 41 (by decide +kernel) rfl), by decide +kernel, by decide +kernel, by decide +kernel⟩
theorem yX4_told_in : Cond.instanceMethod yX4_told ∈ qtbl ∧ Cond.selects RX4 yX4_told yX4_told ∈ qtbl := ⟨(qmem 671 (by decide +kernel) rfl), (qmem 672 (by decide +kernel) rfl)⟩
theorem lc_X1_49 : Cond.constant RX1 49 (10000000) ∈ qtbl := (qmem 324 (by decide +kernel) rfl)
theorem lc_X1_93 : Cond.constant RX1 93 (-10000000) ∈ qtbl := (qmem 346 (by decide +kernel) rfl)
theorem lc_X4_93 : Cond.constant RX4 93 (1000000000) ∈ qtbl := (qmem 603 (by decide +kernel) rfl)
theorem lc_X4_109 : Cond.constant RX4 109 (1000000) ∈ qtbl := (qmem 632 (by decide +kernel) rfl)
theorem lc_X4_110 : Cond.constant RX4 110 (-1000000) ∈ qtbl := (qmem 637 (by decide +kernel) rfl)
theorem lf_X3_9 : Cond.fieldLink RX3 9 "LineSearch" "out" "I" ∈ qtbl := (qmem 127 (by decide +kernel) rfl)
theorem lf_X3_13 : Cond.fieldLink RX3 13 "LineSearch" "back" "I" ∈ qtbl := (qmem 128 (by decide +kernel) rfl)
theorem lf_X3_19 : Cond.fieldLink RX3 19 "LineSearch" "ground" "LLineSearch$Ground;" ∈ qtbl := (qmem 129 (by decide +kernel) rfl)
theorem lf_X3_26 : Cond.fieldLink RX3 26 "LineSearch" "plan" "LLineSearch$Plan;" ∈ qtbl := (qmem 130 (by decide +kernel) rfl)
theorem lf_X3_33 : Cond.fieldLink RX3 33 "LineSearch" "outlook" "LLineSearch$Outlook;" ∈ qtbl := (qmem 131 (by decide +kernel) rfl)
theorem lf_X3_37 : Cond.fieldLink RX3 37 "LineSearch" "meanPlan" "LLineSearch$Plan;" ∈ qtbl := (qmem 132 (by decide +kernel) rfl)
theorem lf_X3_40 : Cond.fieldLink RX3 40 "LineSearch" "worstPlan" "LLineSearch$Plan;" ∈ qtbl := (qmem 133 (by decide +kernel) rfl)
theorem lf_X3_43 : Cond.fieldLink RX3 43 "LineSearch" "meanKnown" "Z" ∈ qtbl := (qmem 134 (by decide +kernel) rfl)
theorem lf_X3_47 : Cond.fieldLink RX3 47 "LineSearch" "worstKnown" "Z" ∈ qtbl := (qmem 135 (by decide +kernel) rfl)
theorem lf_X3_50 : Cond.fieldLink RX3 50 "LineSearch" "meanSteps" "I" ∈ qtbl := (qmem 136 (by decide +kernel) rfl)
theorem lf_X3_53 : Cond.fieldLink RX3 53 "LineSearch" "worstParts" "I" ∈ qtbl := (qmem 137 (by decide +kernel) rfl)
theorem lf_X3_78 : Cond.fieldLink RX3 78 "LineSearch$Plan" "count" "I" ∈ qtbl := (qmem 88 (by decide +kernel) rfl)
theorem lf_X3_118 : Cond.fieldLink RX3 118 "LineSearch$Ground" "rays" "I" ∈ qtbl := (qmem 66 (by decide +kernel) rfl)
theorem lf_X3_121 : Cond.fieldLink RX3 121 "LineSearch$Ground" "reach" "I" ∈ qtbl := (qmem 69 (by decide +kernel) rfl)
theorem lf_X0_9 : Cond.fieldLink RX0 9 "LineSearch$Ground" "shares" "[I" ∈ qtbl := (qmem 70 (by decide +kernel) rfl)
theorem lf_X0_19 : Cond.fieldLink RX0 19 "LineSearch$Ground" "rays" "I" ∈ qtbl := (qmem 64 (by decide +kernel) rfl)
theorem lf_X0_23 : Cond.fieldLink RX0 23 "LineSearch$Ground" "reach" "I" ∈ qtbl := (qmem 67 (by decide +kernel) rfl)
theorem lf_X1_9 : Cond.fieldLink RX1 9 "LineSearch$Outlook" "rays" "I" ∈ qtbl := (qmem 102 (by decide +kernel) rfl)
theorem lf_X1_15 : Cond.fieldLink RX1 15 "LineSearch$Outlook" "reach" "I" ∈ qtbl := (qmem 103 (by decide +kernel) rfl)
theorem lf_X1_18 : Cond.fieldLink RX1 18 "LineSearch$Outlook" "caps" "[I" ∈ qtbl := (qmem 104 (by decide +kernel) rfl)
theorem lf_X1_22 : Cond.fieldLink RX1 22 "LineSearch$Outlook" "prices" "[I" ∈ qtbl := (qmem 105 (by decide +kernel) rfl)
theorem lf_X1_25 : Cond.fieldLink RX1 25 "LineSearch$Outlook" "basePrice" "I" ∈ qtbl := (qmem 106 (by decide +kernel) rfl)
theorem lf_X1_28 : Cond.fieldLink RX1 28 "LineSearch$Outlook" "most" "[I" ∈ qtbl := (qmem 107 (by decide +kernel) rfl)
theorem lf_X1_31 : Cond.fieldLink RX1 31 "LineSearch$Outlook" "mostOnRay" "[I" ∈ qtbl := (qmem 108 (by decide +kernel) rfl)
theorem lf_X1_34 : Cond.fieldLink RX1 34 "LineSearch$Outlook" "gone" "[I" ∈ qtbl := (qmem 109 (by decide +kernel) rfl)
theorem lf_X1_37 : Cond.fieldLink RX1 37 "LineSearch$Ground" "rays" "I" ∈ qtbl := (qmem 65 (by decide +kernel) rfl)
theorem lf_X1_40 : Cond.fieldLink RX1 40 "LineSearch$Ground" "reach" "I" ∈ qtbl := (qmem 68 (by decide +kernel) rfl)
theorem lf_X2_9 : Cond.fieldLink RX2 9 "LineSearch$Plan" "onRay" "[I" ∈ qtbl := (qmem 85 (by decide +kernel) rfl)
theorem lf_X2_15 : Cond.fieldLink RX2 15 "LineSearch$Plan" "toSteps" "[I" ∈ qtbl := (qmem 86 (by decide +kernel) rfl)
theorem lf_X2_18 : Cond.fieldLink RX2 18 "LineSearch$Plan" "count" "I" ∈ qtbl := (qmem 87 (by decide +kernel) rfl)
theorem lf_X4_7 : Cond.fieldLink RX4 7 "LineSearchModel" "rays" "I" ∈ qtbl := (qmem 450 (by decide +kernel) rfl)
theorem lf_X4_13 : Cond.fieldLink RX4 13 "LineSearchModel" "steps" "I" ∈ qtbl := (qmem 451 (by decide +kernel) rfl)
theorem lf_X4_16 : Cond.fieldLink RX4 16 "LineSearchModel" "out" "I" ∈ qtbl := (qmem 452 (by decide +kernel) rfl)
theorem lf_X4_19 : Cond.fieldLink RX4 19 "LineSearchModel" "back" "I" ∈ qtbl := (qmem 453 (by decide +kernel) rfl)
theorem lf_X4_22 : Cond.fieldLink RX4 22 "LineSearchModel" "share" "[I" ∈ qtbl := (qmem 454 (by decide +kernel) rfl)
theorem lf_X4_26 : Cond.fieldLink RX4 26 "LineSearchModel" "ray" "[I" ∈ qtbl := (qmem 456 (by decide +kernel) rfl)
theorem lf_X4_29 : Cond.fieldLink RX4 29 "LineSearchModel" "far" "[I" ∈ qtbl := (qmem 457 (by decide +kernel) rfl)
theorem lf_X4_32 : Cond.fieldLink RX4 32 "LineSearchModel" "least" "[I" ∈ qtbl := (qmem 458 (by decide +kernel) rfl)
theorem lf_X4_35 : Cond.fieldLink RX4 35 "LineSearchModel" "most" "[I" ∈ qtbl := (qmem 459 (by decide +kernel) rfl)
theorem lf_X4_38 : Cond.fieldLink RX4 38 "LineSearchModel" "plan" "[I" ∈ qtbl := (qmem 461 (by decide +kernel) rfl)
theorem lf_X4_44 : Cond.fieldLink RX4 44 "LineSearchModel" "trips" "I" ∈ qtbl := (qmem 455 (by decide +kernel) rfl)
theorem lf_X4_100 : Cond.fieldLink RX4 100 "LineSearchModel" "planned" "I" ∈ qtbl := (qmem 460 (by decide +kernel) rfl)
theorem lf_X4_111 : Cond.fieldLink RX4 111 "LineSearchModel" "worstFor" "I" ∈ qtbl := (qmem 464 (by decide +kernel) rfl)
theorem lf_X4_114 : Cond.fieldLink RX4 114 "LineSearchModel" "worstUp" "I" ∈ qtbl := (qmem 462 (by decide +kernel) rfl)
theorem lf_X4_117 : Cond.fieldLink RX4 117 "LineSearchModel" "worstLow" "I" ∈ qtbl := (qmem 463 (by decide +kernel) rfl)
theorem lm_X3_56 : Cond.methodLink RX3 56 yX0_isOf ∈ qtbl := (qmem 165 (by decide +kernel) rfl)
theorem lm_X3_60 : Cond.methodLink RX3 60 yX0_lay ∈ qtbl := (qmem 169 (by decide +kernel) rfl)
theorem lm_X3_64 : Cond.methodLink RX3 64 yX2_empty ∈ qtbl := (qmem 170 (by decide +kernel) rfl)
theorem lm_X3_67 : Cond.methodLink RX3 67 yX0_has ∈ qtbl := (qmem 182 (by decide +kernel) rfl)
theorem lm_X3_70 : Cond.methodLink RX3 70 yX0_shareAt ∈ qtbl := (qmem 186 (by decide +kernel) rfl)
theorem lm_X3_74 : Cond.methodLink RX3 74 yX0_setShare ∈ qtbl := (qmem 194 (by decide +kernel) rfl)
theorem lm_X3_81 : Cond.methodLink RX3 81 yX2_add ∈ qtbl := (qmem 209 (by decide +kernel) rfl)
theorem lm_X3_84 : Cond.methodLink RX3 84 yX2_has ∈ qtbl := (qmem 218 (by decide +kernel) rfl)
theorem lm_X3_87 : Cond.methodLink RX3 87 yX2_rayOf ∈ qtbl := (qmem 222 (by decide +kernel) rfl)
theorem lm_X3_91 : Cond.methodLink RX3 91 yX2_stepsOf ∈ qtbl := (qmem 228 (by decide +kernel) rfl)
theorem lm_X3_94 : Cond.methodLink RX3 94 yX2_stepsAhead ∈ qtbl := (qmem 232 (by decide +kernel) rfl)
theorem lm_X3_97 : Cond.methodLink RX3 97 yX3_wholeTrips ∈ qtbl := (qmem 240 (by decide +kernel) rfl)
theorem lm_X3_100 : Cond.methodLink RX3 100 yX2_removeLast ∈ qtbl := (qmem 248 (by decide +kernel) rfl)
theorem lm_X3_104 : Cond.methodLink RX3 104 yX3_wayTo ∈ qtbl := (qmem 260 (by decide +kernel) rfl)
theorem lm_X3_107 : Cond.methodLink RX3 107 yX3_lowest ∈ qtbl := (qmem 273 (by decide +kernel) rfl)
theorem lm_X3_111 : Cond.methodLink RX3 111 yX3_countMissed ∈ qtbl := (qmem 283 (by decide +kernel) rfl)
theorem lm_X3_115 : Cond.methodLink RX3 115 yX3_worstPlace ∈ qtbl := (qmem 294 (by decide +kernel) rfl)
theorem lm_X3_124 : Cond.methodLink RX3 124 yX2_farthest ∈ qtbl := (qmem 287 (by decide +kernel) rfl)
theorem lm_X3_127 : Cond.methodLink RX3 127 yX3_findMean ∈ qtbl := (qmem 314 (by decide +kernel) rfl)
theorem lm_X3_130 : Cond.methodLink RX3 130 yX0_sharedSteps ∈ qtbl := (qmem 370 (by decide +kernel) rfl)
theorem lm_X3_133 : Cond.methodLink RX3 133 yX3_placeOf ∈ qtbl := (qmem 379 (by decide +kernel) rfl)
theorem lm_X3_137 : Cond.methodLink RX3 137 yX3_findWorst ∈ qtbl := (qmem 386 (by decide +kernel) rfl)
theorem lm_X3_140 : Cond.methodLink RX3 140 yX3_worstUpper ∈ qtbl := (qmem 398 (by decide +kernel) rfl)
theorem lm_X3_143 : Cond.methodLink RX3 143 yX2_copy ∈ qtbl := (qmem 414 (by decide +kernel) rfl)
theorem lm_X3_147 : Cond.methodLink RX3 147 yX3_tripThatMeets ∈ qtbl := (qmem 423 (by decide +kernel) rfl)
theorem lm_X3_150 : Cond.methodLink RX3 150 Lib.Math.max.name ∈ qtbl := (qmem 431 (by decide +kernel) rfl)
theorem lm_X3_155 : Cond.methodLink RX3 155 yX0_allShares ∈ qtbl := (qmem 436 (by decide +kernel) rfl)
theorem lm_X3_158 : Cond.methodLink RX3 158 yX2_firstTo ∈ qtbl := (qmem 264 (by decide +kernel) rfl)
theorem lm_X3_161 : Cond.methodLink RX3 161 yX1_planMean ∈ qtbl := (qmem 318 (by decide +kernel) rfl)
theorem lm_X3_165 : Cond.methodLink RX3 165 yX1_planWorst ∈ qtbl := (qmem 390 (by decide +kernel) rfl)
theorem lm_X3_168 : Cond.methodLink RX3 168 yX3_commonDivisor ∈ qtbl := (qmem 276 (by decide +kernel) rfl)
theorem lm_X0_30 : Cond.methodLink RX0 30 yX0_has ∈ qtbl := (qmem 190 (by decide +kernel) rfl)
theorem lm_X0_42 : Cond.methodLink RX0 42 yX0_shareAt ∈ qtbl := (qmem 374 (by decide +kernel) rfl)
theorem lm_X1_45 : Cond.methodLink RX1 45 yX0_shareAt ∈ qtbl := (qmem 323 (by decide +kernel) rfl)
theorem lm_X1_54 : Cond.methodLink RX1 54 yX1_sweep ∈ qtbl := (qmem 326 (by decide +kernel) rfl)
theorem lm_X1_61 : Cond.methodLink RX1 61 yX1_write ∈ qtbl := (qmem 352 (by decide +kernel) rfl)
theorem lm_X1_65 : Cond.methodLink RX1 65 yX1_capBy ∈ qtbl := (qmem 394 (by decide +kernel) rfl)
theorem lm_X1_69 : Cond.methodLink RX1 69 yX1_lengthOf ∈ qtbl := (qmem 330 (by decide +kernel) rfl)
theorem lm_X1_73 : Cond.methodLink RX1 73 yX1_settle ∈ qtbl := (qmem 334 (by decide +kernel) rfl)
theorem lm_X1_77 : Cond.methodLink RX1 77 yX1_through ∈ qtbl := (qmem 338 (by decide +kernel) rfl)
theorem lm_X1_81 : Cond.methodLink RX1 81 Lib.Math.max.name ∈ qtbl := (qmem 347 (by decide +kernel) rfl)
theorem lm_X1_86 : Cond.methodLink RX1 86 yX1_offer ∈ qtbl := (qmem 348 (by decide +kernel) rfl)
theorem lm_X1_90 : Cond.methodLink RX1 90 Lib.Math.min.name ∈ qtbl := (qmem 343 (by decide +kernel) rfl)
theorem lm_X1_94 : Cond.methodLink RX1 94 yX2_empty ∈ qtbl := (qmem 356 (by decide +kernel) rfl)
theorem lm_X1_99 : Cond.methodLink RX1 99 yX1_firstTrip ∈ qtbl := (qmem 357 (by decide +kernel) rfl)
theorem lm_X1_102 : Cond.methodLink RX1 102 yX2_add ∈ qtbl := (qmem 369 (by decide +kernel) rfl)
theorem lm_X1_106 : Cond.methodLink RX1 106 yX1_costOf ∈ qtbl := (qmem 361 (by decide +kernel) rfl)
theorem lm_X1_109 : Cond.methodLink RX1 109 yX1_stateAfter ∈ qtbl := (qmem 365 (by decide +kernel) rfl)
theorem lm_X2_22 : Cond.methodLink RX2 22 yX2_has ∈ qtbl := (qmem 226 (by decide +kernel) rfl)
theorem lm_X2_34 : Cond.methodLink RX2 34 yX2_rayOf ∈ qtbl := (qmem 268 (by decide +kernel) rfl)
theorem lm_X2_38 : Cond.methodLink RX2 38 yX2_stepsOf ∈ qtbl := (qmem 239 (by decide +kernel) rfl)
theorem lm_X2_41 : Cond.methodLink RX2 41 yX2_add ∈ qtbl := (qmem 418 (by decide +kernel) rfl)
theorem lm_X2_45 : Cond.methodLink RX2 45 yX2_isFor ∈ qtbl := (qmem 236 (by decide +kernel) rfl)
theorem lm_X2_48 : Cond.methodLink RX2 48 Lib.Math.max.name ∈ qtbl := (qmem 291 (by decide +kernel) rfl)
theorem lm_X4_41 : Cond.methodLink RX4 41 yX4_begin ∈ qtbl := (qmem 446 (by decide +kernel) rfl)
theorem lm_X4_47 : Cond.methodLink RX4 47 yX4_in ∈ qtbl := (qmem 500 (by decide +kernel) rfl)
theorem lm_X4_51 : Cond.methodLink RX4 51 yX4_isPlace ∈ qtbl := (qmem 511 (by decide +kernel) rfl)
theorem lm_X4_55 : Cond.methodLink RX4 55 yX4_costAhead ∈ qtbl := (qmem 527 (by decide +kernel) rfl)
theorem lm_X4_59 : Cond.methodLink RX4 59 yX4_comes ∈ qtbl := (qmem 547 (by decide +kernel) rfl)
theorem lm_X4_63 : Cond.methodLink RX4 63 yX4_wayOf ∈ qtbl := (qmem 543 (by decide +kernel) rfl)
theorem lm_X4_66 : Cond.methodLink RX4 66 yX4_common ∈ qtbl := (qmem 558 (by decide +kernel) rfl)
theorem lm_X4_69 : Cond.methodLink RX4 69 yX4_term ∈ qtbl := (qmem 555 (by decide +kernel) rfl)
theorem lm_X4_73 : Cond.methodLink RX4 73 yX4_missedAt ∈ qtbl := (qmem 565 (by decide +kernel) rfl)
theorem lm_X4_76 : Cond.methodLink RX4 76 yX4_nines ∈ qtbl := (qmem 600 (by decide +kernel) rfl)
theorem lm_X4_79 : Cond.methodLink RX4 79 yX4_gone ∈ qtbl := (qmem 597 (by decide +kernel) rfl)
theorem lm_X4_82 : Cond.methodLink RX4 82 yX4_rest ∈ qtbl := (qmem 608 (by decide +kernel) rfl)
theorem lm_X4_85 : Cond.methodLink RX4 85 yX4_lastState ∈ qtbl := (qmem 589 (by decide +kernel) rfl)
theorem lm_X4_89 : Cond.methodLink RX4 89 yX4_isState ∈ qtbl := (qmem 593 (by decide +kernel) rfl)
theorem lm_X4_94 : Cond.methodLink RX4 94 yX4_adds ∈ qtbl := (qmem 604 (by decide +kernel) rfl)
theorem lm_X4_97 : Cond.methodLink RX4 97 yX4_layLeast ∈ qtbl := (qmem 585 (by decide +kernel) rfl)
theorem lm_X4_103 : Cond.methodLink RX4 103 yX4_layMeanPlan ∈ qtbl := (qmem 616 (by decide +kernel) rfl)
theorem lm_X4_106 : Cond.methodLink RX4 106 yX4_planAt ∈ qtbl := (qmem 620 (by decide +kernel) rfl)
theorem lm_X4_120 : Cond.methodLink RX4 120 yX4_layMost ∈ qtbl := (qmem 633 (by decide +kernel) rfl)
theorem lm_X4_124 : Cond.methodLink RX4 124 yX4_findWorst ∈ qtbl := (qmem 628 (by decide +kernel) rfl)
theorem lm_X4_127 : Cond.methodLink RX4 127 yX4_layWorstPlan ∈ qtbl := (qmem 642 (by decide +kernel) rfl)
theorem lm_X4_130 : Cond.methodLink RX4 130 yX4_comesBy ∈ qtbl := (qmem 658 (by decide +kernel) rfl)
theorem lm_X4_133 : Cond.methodLink RX4 133 yX4_aheadOf ∈ qtbl := (qmem 662 (by decide +kernel) rfl)
end
section
/-! ===== by program (gen.py): the walk of methods ===== -/
-- LineSearch.putAll([II)V
def fX3_putAll_2 (k0 : Nat) : Nat → Int32 → Int32 → qSt → qR
  | 0, _, _, _ => none
  | n + 1, x1, x2, sg =>
    if (Int32.ofNat (qlen k0)) ≤ x2 then
      some (0, sg)
    else
    if qin x2 (qlen k0) then
    fX3_putAll_2 k0 n x1 ((x2 + 1)) (qset sg k0 (Int32.toNatClampNeg x2) x1)
    else none
set_option maxRecDepth 20000 in
set_option maxHeartbeats 4000000 in
theorem tX3_putAll_2 {b : Nat} {K : List Nat} (hK : qOk K) {k0 : Nat} (h0 : qIn K k0 5) : ∀ (n : Nat) (x1 x2 : Int32) (sg : qSt), qJ RX3 cX3_putAll 3 0 0 true (fun _ _ => True) b K 2 [some (.ref (b + k0)), some (.int x1), some (.int x2)] [] sg (fX3_putAll_2 k0 n x1 x2 sg) := by
  intro n
  induction n with
  | zero => intro x1 x2 sg; exact qJ_none
  | succ n ih =>
    intro x1 x2 sg
    unfold fX3_putAll_2
    refine q_iload_n (pc := 2) dX3_putAll_2 rfl ?_
    refine q_aload_n (pc := 3) dX3_putAll_3 rfl ?_
    refine q_alen (pc := 4) dX3_putAll_4 h0 ?_
    refine q_icmp_ge (pc := 5) 18 dX3_putAll_5 (by decide) ?_ ?_
    · exact q_return (pc := 18) dX3_putAll_18
    refine q_aload_n (pc := 8) dX3_putAll_8 rfl ?_
    refine q_iload_n (pc := 9) dX3_putAll_9 rfl ?_
    refine q_iload_n (pc := 10) dX3_putAll_10 rfl ?_
    refine q_iast (pc := 11) dX3_putAll_11 h0 ?_
    refine q_iinc (pc := 12) 1 dX3_putAll_12 rfl (by decide) (by decide) ?_
    refine q_goto (pc := 15) 2 dX3_putAll_15 (by decide) ?_
    exact ih x1 ((x2 + 1)) (qset sg k0 (Int32.toNatClampNeg x2) x1)
def fX3_putAll (k0 : Nat) (x1 : Int32) (sg : qSt) : qR :=
  fX3_putAll_2 k0 qfu x1 0 sg
set_option maxRecDepth 20000 in
set_option maxHeartbeats 4000000 in
theorem sX3_putAll {b : Nat} {K : List Nat} (hK : qOk K) {k0 : Nat} (h0 : qIn K k0 5) (x1 : Int32) (sg : qSt) : qS yX3_putAll cX3_putAll 3 none 0 0 b K [.ref (b + k0), .int x1] sg (fX3_putAll k0 x1 sg) := by
  refine qS_of (own := RX3) rfl (by decide) hK.1 (by simp [Value.category]) (Nat.le_of_ble_eq_true rfl) (fun z _ ty h => by cases h) ?_
  show qJ RX3 cX3_putAll 3 0 0 true (fun _ _ => True) b K 0 [some (.ref (b + k0)), some (.int x1), none] [] sg (fX3_putAll k0 x1 sg)
  unfold fX3_putAll
  refine q_iconst (pc := 0) 0 dX3_putAll_0 (by decide) ?_
  refine q_istore_n (pc := 1) dX3_putAll_1 (by decide) ?_
  exact tX3_putAll_2 hK h0 qfu x1 0 sg
-- LineSearch$Ground.lay(II)V
def fX0_lay (k0 : Nat) (x1 x2 : Int32) (sg : qSt) : qR :=
  qb (fX3_putAll (k0 + 1) 1 (qset (qset sg k0 0 x1) k0 1 x2)) fun r1 s2 =>
  some (0, s2)
set_option maxRecDepth 20000 in
set_option maxHeartbeats 4000000 in
theorem sX0_lay {b : Nat} {K : List Nat} (hK : qOk K) {k0 : Nat} (h0 : qIn K k0 0) (x1 x2 : Int32) (sg : qSt) : qS yX0_lay cX0_lay 3 none 1 22 b K [.ref (b + k0), .int x1, .int x2] sg (fX0_lay k0 x1 x2 sg) := by
  refine qS_of (own := RX0) rfl (by decide) hK.1 (by simp [Value.category]) (Nat.le_of_ble_eq_true rfl) (fun z _ ty h => by cases h) ?_
  show qJ RX0 cX0_lay 3 1 22 true (fun _ _ => True) b K 0 [some (.ref (b + k0)), some (.int x1), some (.int x2)] [] sg (fX0_lay k0 x1 x2 sg)
  unfold fX0_lay
  refine q_aload_n (pc := 0) dX0_lay_0 rfl ?_
  refine q_iload_n (pc := 1) dX0_lay_1 rfl ?_
  refine qp_0_0 (pc := 2) dX0_lay_2 h0 lf_X0_19 ?_
  refine q_aload_n (pc := 5) dX0_lay_5 rfl ?_
  refine q_iload_n (pc := 6) dX0_lay_6 rfl ?_
  refine qp_0_1 (pc := 7) dX0_lay_7 h0 lf_X0_23 ?_
  refine q_aload_n (pc := 10) dX0_lay_10 rfl ?_
  refine qg_0_2 (pc := 11) dX0_lay_11 h0 lf_X0_9 ?_
  refine q_iconst (pc := 14) 1 dX0_lay_14 (by decide) ?_
  refine q_callSNv (pc := 15) [.ref (b + ((k0 + 1))), .int 1] dX0_lay_15 (by decide) yX3_putAll_ok yX3_putAll_in (sX3_putAll hK (qch_0_2 hK h0) 1 (qset (qset sg k0 0 x1) k0 1 x2)) rfl rfl (Nat.le_of_ble_eq_true rfl) ⟨by decide, by decide⟩ (fun r1 s2 => ?_)
  exact q_return (pc := 18) dX0_lay_18
-- LineSearch$Ground.isOf(II)Z
def fX0_isOf_b (k0 : Nat) (x1 x2 : Int32) (sg : qSt) : qR :=
  if (sg k0 0) = x1 then
    if (sg k0 1) = x2 then
      some (1, sg)
    else
    some (0, sg)
  else
  some (0, sg)
def fX0_isOf (k0 : Nat) (x1 x2 : Int32) (sg : qSt) : qR := qz (fX0_isOf_b k0 x1 x2 sg)
set_option maxRecDepth 20000 in
set_option maxHeartbeats 4000000 in
theorem sX0_isOf {b : Nat} {K : List Nat} (hK : qOk K) {k0 : Nat} (h0 : qIn K k0 0) (x1 x2 : Int32) (sg : qSt) : qS yX0_isOf cX0_isOf 3 (some .boolean) 0 0 b K [.ref (b + k0), .int x1, .int x2] sg (fX0_isOf k0 x1 x2 sg) := by
  refine qS_of (own := RX0) rfl (by decide) hK.1 (by simp [Value.category]) (Nat.le_of_ble_eq_true rfl) (fun z hz ty h => by cases h; exact qz_bool hz) ?_
  show qJ RX0 cX0_isOf 3 0 0 false (fun _ _ => True) b K 0 [some (.ref (b + k0)), some (.int x1), some (.int x2)] [] sg (fX0_isOf k0 x1 x2 sg)
  refine qJ_qz ?_
  unfold fX0_isOf_b
  refine q_aload_n (pc := 0) dX0_isOf_0 rfl ?_
  refine qg_0_0 (pc := 1) dX0_isOf_1 h0 lf_X0_19 ?_
  refine q_iload_n (pc := 4) dX0_isOf_4 rfl ?_
  refine q_icmp_ne (pc := 5) 20 dX0_isOf_5 (by decide) ?_ ?_
  · refine q_iconst (pc := 20) 0 dX0_isOf_20 (by decide) ?_
    exact q_ireturn (pc := 21) dX0_isOf_21
  refine q_aload_n (pc := 8) dX0_isOf_8 rfl ?_
  refine qg_0_1 (pc := 9) dX0_isOf_9 h0 lf_X0_23 ?_
  refine q_iload_n (pc := 12) dX0_isOf_12 rfl ?_
  refine q_icmp_ne (pc := 13) 20 dX0_isOf_13 (by decide) ?_ ?_
  · refine q_iconst (pc := 20) 0 dX0_isOf_20 (by decide) ?_
    exact q_ireturn (pc := 21) dX0_isOf_21
  refine q_iconst (pc := 16) 1 dX0_isOf_16 (by decide) ?_
  refine q_goto (pc := 17) 21 dX0_isOf_17 (by decide) ?_
  exact q_ireturn (pc := 21) dX0_isOf_21
-- LineSearch$Ground.has(II)Z
def fX0_has_b (k0 : Nat) (x1 x2 : Int32) (sg : qSt) : qR :=
  if x1 < 0 then
    some (0, sg)
  else
  if (sg k0 0) ≤ x1 then
    some (0, sg)
  else
  if x2 < 1 then
    some (0, sg)
  else
  if (sg k0 1) < x2 then
    some (0, sg)
  else
  some (1, sg)
def fX0_has (k0 : Nat) (x1 x2 : Int32) (sg : qSt) : qR := qz (fX0_has_b k0 x1 x2 sg)
set_option maxRecDepth 20000 in
set_option maxHeartbeats 4000000 in
theorem sX0_has {b : Nat} {K : List Nat} (hK : qOk K) {k0 : Nat} (h0 : qIn K k0 0) (x1 x2 : Int32) (sg : qSt) : qS yX0_has cX0_has 3 (some .boolean) 0 0 b K [.ref (b + k0), .int x1, .int x2] sg (fX0_has k0 x1 x2 sg) := by
  refine qS_of (own := RX0) rfl (by decide) hK.1 (by simp [Value.category]) (Nat.le_of_ble_eq_true rfl) (fun z hz ty h => by cases h; exact qz_bool hz) ?_
  show qJ RX0 cX0_has 3 0 0 false (fun _ _ => True) b K 0 [some (.ref (b + k0)), some (.int x1), some (.int x2)] [] sg (fX0_has k0 x1 x2 sg)
  refine qJ_qz ?_
  unfold fX0_has_b
  refine q_iload_n (pc := 0) dX0_has_0 rfl ?_
  refine q_if_lt (pc := 1) 29 dX0_has_1 (by decide) ?_ ?_
  · refine q_iconst (pc := 29) 0 dX0_has_29 (by decide) ?_
    exact q_ireturn (pc := 30) dX0_has_30
  refine q_iload_n (pc := 4) dX0_has_4 rfl ?_
  refine q_aload_n (pc := 5) dX0_has_5 rfl ?_
  refine qg_0_0 (pc := 6) dX0_has_6 h0 lf_X0_19 ?_
  refine q_icmp_ge (pc := 9) 29 dX0_has_9 (by decide) ?_ ?_
  · refine q_iconst (pc := 29) 0 dX0_has_29 (by decide) ?_
    exact q_ireturn (pc := 30) dX0_has_30
  refine q_iload_n (pc := 12) dX0_has_12 rfl ?_
  refine q_iconst (pc := 13) 1 dX0_has_13 (by decide) ?_
  refine q_icmp_lt (pc := 14) 29 dX0_has_14 (by decide) ?_ ?_
  · refine q_iconst (pc := 29) 0 dX0_has_29 (by decide) ?_
    exact q_ireturn (pc := 30) dX0_has_30
  refine q_iload_n (pc := 17) dX0_has_17 rfl ?_
  refine q_aload_n (pc := 18) dX0_has_18 rfl ?_
  refine qg_0_1 (pc := 19) dX0_has_19 h0 lf_X0_23 ?_
  refine q_icmp_gt (pc := 22) 29 dX0_has_22 (by decide) ?_ ?_
  · refine q_iconst (pc := 29) 0 dX0_has_29 (by decide) ?_
    exact q_ireturn (pc := 30) dX0_has_30
  refine q_iconst (pc := 25) 1 dX0_has_25 (by decide) ?_
  refine q_goto (pc := 26) 30 dX0_has_26 (by decide) ?_
  exact q_ireturn (pc := 30) dX0_has_30
-- LineSearch.at([II)I
def fX3_at (k0 : Nat) (x1 : Int32) (sg : qSt) : qR :=
  if x1 < 0 then
    some (0, sg)
  else
  if (Int32.ofNat (qlen k0)) ≤ x1 then
    some (0, sg)
  else
  if qin x1 (qlen k0) then
  some ((sg k0 (Int32.toNatClampNeg x1)), sg)
  else none
set_option maxRecDepth 20000 in
set_option maxHeartbeats 4000000 in
theorem sX3_at {b : Nat} {K : List Nat} (hK : qOk K) {k0 : Nat} (h0 : qIn K k0 5) (x1 : Int32) (sg : qSt) : qS yX3_at cX3_at 2 (some .int) 0 0 b K [.ref (b + k0), .int x1] sg (fX3_at k0 x1 sg) := by
  refine qS_of (own := RX3) rfl (by decide) hK.1 (by simp [Value.category]) (Nat.le_of_ble_eq_true rfl) (fun z _ ty h => by cases h; exact vp_nar_int _) ?_
  show qJ RX3 cX3_at 2 0 0 false (fun _ _ => True) b K 0 [some (.ref (b + k0)), some (.int x1)] [] sg (fX3_at k0 x1 sg)
  unfold fX3_at
  refine q_iload_n (pc := 0) dX3_at_0 rfl ?_
  refine q_if_lt (pc := 1) 16 dX3_at_1 (by decide) ?_ ?_
  · refine q_iconst (pc := 16) 0 dX3_at_16 (by decide) ?_
    exact q_ireturn (pc := 17) dX3_at_17
  refine q_iload_n (pc := 4) dX3_at_4 rfl ?_
  refine q_aload_n (pc := 5) dX3_at_5 rfl ?_
  refine q_alen (pc := 6) dX3_at_6 h0 ?_
  refine q_icmp_ge (pc := 7) 16 dX3_at_7 (by decide) ?_ ?_
  · refine q_iconst (pc := 16) 0 dX3_at_16 (by decide) ?_
    exact q_ireturn (pc := 17) dX3_at_17
  refine q_aload_n (pc := 10) dX3_at_10 rfl ?_
  refine q_iload_n (pc := 11) dX3_at_11 rfl ?_
  refine q_iald (pc := 12) dX3_at_12 h0 ?_
  refine q_goto (pc := 13) 17 dX3_at_13 (by decide) ?_
  exact q_ireturn (pc := 17) dX3_at_17
-- LineSearch$Ground.shareAt(II)I
def fX0_shareAt (k0 : Nat) (x1 x2 : Int32) (sg : qSt) : qR :=
  qb (fX0_has k0 x1 x2 sg) fun r1 s2 =>
  if r1 = 0 then
    some (0, s2)
  else
  qb (fX3_at (k0 + 1) ((x1 * 9) + x2) s2) fun r3 s4 =>
  some (r3, s4)
set_option maxRecDepth 20000 in
set_option maxHeartbeats 4000000 in
theorem sX0_shareAt {b : Nat} {K : List Nat} (hK : qOk K) {k0 : Nat} (h0 : qIn K k0 0) (x1 x2 : Int32) (sg : qSt) : qS yX0_shareAt cX0_shareAt 3 (some .int) 1 22 b K [.ref (b + k0), .int x1, .int x2] sg (fX0_shareAt k0 x1 x2 sg) := by
  refine qS_of (own := RX0) rfl (by decide) hK.1 (by simp [Value.category]) (Nat.le_of_ble_eq_true rfl) (fun z _ ty h => by cases h; exact vp_nar_int _) ?_
  show qJ RX0 cX0_shareAt 3 1 22 false (fun _ _ => True) b K 0 [some (.ref (b + k0)), some (.int x1), some (.int x2)] [] sg (fX0_shareAt k0 x1 x2 sg)
  unfold fX0_shareAt
  refine q_aload_n (pc := 0) dX0_shareAt_0 rfl ?_
  refine q_iload_n (pc := 1) dX0_shareAt_1 rfl ?_
  refine q_iload_n (pc := 2) dX0_shareAt_2 rfl ?_
  refine q_callVi (pc := 3) [.int x1, .int x2] dX0_shareAt_3 lm_X0_30 yX0_has_ok yX0_has_in h0 (by decide) rfl (sX0_has hK h0 x1 x2 sg) rfl rfl (Nat.le_of_ble_eq_true rfl) ⟨by decide, by decide⟩ (fun r1 s2 => ?_)
  refine q_if_eq (pc := 6) 25 dX0_shareAt_6 (by decide) ?_ ?_
  · refine q_iconst (pc := 25) 0 dX0_shareAt_25 (by decide) ?_
    exact q_ireturn (pc := 26) dX0_shareAt_26
  refine q_aload_n (pc := 9) dX0_shareAt_9 rfl ?_
  refine qg_0_2 (pc := 10) dX0_shareAt_10 h0 lf_X0_9 ?_
  refine q_iload_n (pc := 13) dX0_shareAt_13 rfl ?_
  refine q_bipush (pc := 14) 9 dX0_shareAt_14 (by decide) ?_
  refine q_imul (pc := 16) dX0_shareAt_16 ?_
  refine q_iload_n (pc := 17) dX0_shareAt_17 rfl ?_
  refine q_iadd (pc := 18) dX0_shareAt_18 ?_
  refine q_callSNi (pc := 19) [.ref (b + ((k0 + 1))), .int (((x1 * 9) + x2))] dX0_shareAt_19 (by decide) yX3_at_ok yX3_at_in (sX3_at hK (qch_0_2 hK h0) ((x1 * 9) + x2) s2) rfl rfl (Nat.le_of_ble_eq_true rfl) ⟨by decide, by decide⟩ (fun r3 s4 => ?_)
  refine q_goto (pc := 22) 26 dX0_shareAt_22 (by decide) ?_
  exact q_ireturn (pc := 26) dX0_shareAt_26
-- LineSearch.put([III)V
def fX3_put (k0 : Nat) (x1 x2 : Int32) (sg : qSt) : qR :=
  if x1 < 0 then
    some (0, sg)
  else
  if (Int32.ofNat (qlen k0)) ≤ x1 then
    some (0, sg)
  else
  if qin x1 (qlen k0) then
  some (0, qset sg k0 (Int32.toNatClampNeg x1) x2)
  else none
set_option maxRecDepth 20000 in
set_option maxHeartbeats 4000000 in
theorem sX3_put {b : Nat} {K : List Nat} (hK : qOk K) {k0 : Nat} (h0 : qIn K k0 5) (x1 x2 : Int32) (sg : qSt) : qS yX3_put cX3_put 3 none 0 0 b K [.ref (b + k0), .int x1, .int x2] sg (fX3_put k0 x1 x2 sg) := by
  refine qS_of (own := RX3) rfl (by decide) hK.1 (by simp [Value.category]) (Nat.le_of_ble_eq_true rfl) (fun z _ ty h => by cases h) ?_
  show qJ RX3 cX3_put 3 0 0 true (fun _ _ => True) b K 0 [some (.ref (b + k0)), some (.int x1), some (.int x2)] [] sg (fX3_put k0 x1 x2 sg)
  unfold fX3_put
  refine q_iload_n (pc := 0) dX3_put_0 rfl ?_
  refine q_if_lt (pc := 1) 14 dX3_put_1 (by decide) ?_ ?_
  · exact q_return (pc := 14) dX3_put_14
  refine q_iload_n (pc := 4) dX3_put_4 rfl ?_
  refine q_aload_n (pc := 5) dX3_put_5 rfl ?_
  refine q_alen (pc := 6) dX3_put_6 h0 ?_
  refine q_icmp_ge (pc := 7) 14 dX3_put_7 (by decide) ?_ ?_
  · exact q_return (pc := 14) dX3_put_14
  refine q_aload_n (pc := 10) dX3_put_10 rfl ?_
  refine q_iload_n (pc := 11) dX3_put_11 rfl ?_
  refine q_iload_n (pc := 12) dX3_put_12 rfl ?_
  refine q_iast (pc := 13) dX3_put_13 h0 ?_
  exact q_return (pc := 14) dX3_put_14
-- LineSearch$Ground.setShare(III)V
def fX0_setShare (k0 : Nat) (x1 x2 x3 : Int32) (sg : qSt) : qR :=
  qb (fX0_has k0 x1 x2 sg) fun r1 s2 =>
  if r1 = 0 then
    some (0, s2)
  else
  qb (fX3_put (k0 + 1) ((x1 * 9) + x2) x3 s2) fun r3 s4 =>
  some (0, s4)
set_option maxRecDepth 20000 in
set_option maxHeartbeats 4000000 in
theorem sX0_setShare {b : Nat} {K : List Nat} (hK : qOk K) {k0 : Nat} (h0 : qIn K k0 0) (x1 x2 x3 : Int32) (sg : qSt) : qS yX0_setShare cX0_setShare 4 none 1 22 b K [.ref (b + k0), .int x1, .int x2, .int x3] sg (fX0_setShare k0 x1 x2 x3 sg) := by
  refine qS_of (own := RX0) rfl (by decide) hK.1 (by simp [Value.category]) (Nat.le_of_ble_eq_true rfl) (fun z _ ty h => by cases h) ?_
  show qJ RX0 cX0_setShare 4 1 22 true (fun _ _ => True) b K 0 [some (.ref (b + k0)), some (.int x1), some (.int x2), some (.int x3)] [] sg (fX0_setShare k0 x1 x2 x3 sg)
  unfold fX0_setShare
  refine q_aload_n (pc := 0) dX0_setShare_0 rfl ?_
  refine q_iload_n (pc := 1) dX0_setShare_1 rfl ?_
  refine q_iload_n (pc := 2) dX0_setShare_2 rfl ?_
  refine q_callVi (pc := 3) [.int x1, .int x2] dX0_setShare_3 lm_X0_30 yX0_has_ok yX0_has_in h0 (by decide) rfl (sX0_has hK h0 x1 x2 sg) rfl rfl (Nat.le_of_ble_eq_true rfl) ⟨by decide, by decide⟩ (fun r1 s2 => ?_)
  refine q_if_eq (pc := 6) 23 dX0_setShare_6 (by decide) ?_ ?_
  · exact q_return (pc := 23) dX0_setShare_23
  refine q_aload_n (pc := 9) dX0_setShare_9 rfl ?_
  refine qg_0_2 (pc := 10) dX0_setShare_10 h0 lf_X0_9 ?_
  refine q_iload_n (pc := 13) dX0_setShare_13 rfl ?_
  refine q_bipush (pc := 14) 9 dX0_setShare_14 (by decide) ?_
  refine q_imul (pc := 16) dX0_setShare_16 ?_
  refine q_iload_n (pc := 17) dX0_setShare_17 rfl ?_
  refine q_iadd (pc := 18) dX0_setShare_18 ?_
  refine q_iload_n (pc := 19) dX0_setShare_19 rfl ?_
  refine q_callSNv (pc := 20) [.ref (b + ((k0 + 1))), .int (((x1 * 9) + x2)), .int x3] dX0_setShare_20 (by decide) yX3_put_ok yX3_put_in (sX3_put hK (qch_0_2 hK h0) ((x1 * 9) + x2) x3 s2) rfl rfl (Nat.le_of_ble_eq_true rfl) ⟨by decide, by decide⟩ (fun r3 s4 => ?_)
  exact q_return (pc := 23) dX0_setShare_23
-- LineSearch$Ground.allShares()I
def fX0_allShares_14 (k0 : Nat) (c4 : Int32 → Int32 → qSt → qR) : Nat → Int32 → Int32 → Int32 → qSt → qR
  | 0, _, _, _, _ => none
  | n + 1, x1, x2, x3, sg =>
    if (sg k0 1) < x3 then
      c4 x1 ((x2 + 1)) sg
    else
    qb (fX0_shareAt k0 x2 x3 sg) fun r1 s2 =>
    fX0_allShares_14 k0 c4 n ((x1 + r1)) x2 ((x3 + 1)) s2
set_option maxRecDepth 20000 in
set_option maxHeartbeats 4000000 in
theorem tX0_allShares_14 {b : Nat} {K : List Nat} (hK : qOk K) {k0 : Nat} {c4 : Int32 → Int32 → qSt → qR} (h0 : qIn K k0 0) (hc4 : ∀ (x1 x2 : Int32) (sg : qSt), qJ RX0 cX0_allShares 4 2 44 false (fun _ _ => True) b K 4 [some (.ref (b + k0)), some (.int x1), some (.int x2), none] [] sg (c4 x1 x2 sg)) : ∀ (n : Nat) (x1 x2 x3 : Int32) (sg : qSt), qJ RX0 cX0_allShares 4 2 44 false (fun _ _ => True) b K 14 [some (.ref (b + k0)), some (.int x1), some (.int x2), some (.int x3)] [] sg (fX0_allShares_14 k0 c4 n x1 x2 x3 sg) := by
  intro n
  induction n with
  | zero => intro x1 x2 x3 sg; exact qJ_none
  | succ n ih =>
    intro x1 x2 x3 sg
    unfold fX0_allShares_14
    refine q_iload_n (pc := 14) dX0_allShares_14 rfl ?_
    refine q_aload_n (pc := 15) dX0_allShares_15 rfl ?_
    refine qg_0_1 (pc := 16) dX0_allShares_16 h0 lf_X0_23 ?_
    refine q_icmp_gt (pc := 19) 37 dX0_allShares_19 (by decide) ?_ ?_
    · refine q_iinc (pc := 37) 1 dX0_allShares_37 rfl (by decide) (by decide) ?_
      refine q_goto (pc := 40) 4 dX0_allShares_40 (by decide) ?_
      refine qJ_weak [some (.ref (b + k0)), some (.int x1), some (.int ((x2 + 1))), none] ⟨rfl, rfl, rfl, trivial⟩ ?_
      exact hc4 x1 ((x2 + 1)) sg
    refine q_iload_n (pc := 22) dX0_allShares_22 rfl ?_
    refine q_aload_n (pc := 23) dX0_allShares_23 rfl ?_
    refine q_iload_n (pc := 24) dX0_allShares_24 rfl ?_
    refine q_iload_n (pc := 25) dX0_allShares_25 rfl ?_
    refine q_callVi (pc := 26) [.int x2, .int x3] dX0_allShares_26 lm_X0_42 yX0_shareAt_ok yX0_shareAt_in h0 (by decide) rfl (sX0_shareAt hK h0 x2 x3 sg) rfl rfl (Nat.le_of_ble_eq_true rfl) ⟨by decide, by decide⟩ (fun r1 s2 => ?_)
    refine q_iadd (pc := 29) dX0_allShares_29 ?_
    refine q_istore_n (pc := 30) dX0_allShares_30 (by decide) ?_
    refine q_iinc (pc := 31) 1 dX0_allShares_31 rfl (by decide) (by decide) ?_
    refine q_goto (pc := 34) 14 dX0_allShares_34 (by decide) ?_
    exact ih ((x1 + r1)) x2 ((x3 + 1)) s2
def fX0_allShares_4 (k0 : Nat) : Nat → Int32 → Int32 → qSt → qR
  | 0, _, _, _ => none
  | n + 1, x1, x2, sg =>
    if (sg k0 0) ≤ x2 then
      some (x1, sg)
    else
    fX0_allShares_14 k0 (fun z1 z2 sg => fX0_allShares_4 k0 n z1 z2 sg) qfu x1 x2 1 sg
set_option maxRecDepth 20000 in
set_option maxHeartbeats 4000000 in
theorem tX0_allShares_4 {b : Nat} {K : List Nat} (hK : qOk K) {k0 : Nat} (h0 : qIn K k0 0) : ∀ (n : Nat) (x1 x2 : Int32) (sg : qSt), qJ RX0 cX0_allShares 4 2 44 false (fun _ _ => True) b K 4 [some (.ref (b + k0)), some (.int x1), some (.int x2), none] [] sg (fX0_allShares_4 k0 n x1 x2 sg) := by
  intro n
  induction n with
  | zero => intro x1 x2 sg; exact qJ_none
  | succ n ih =>
    intro x1 x2 sg
    unfold fX0_allShares_4
    refine q_iload_n (pc := 4) dX0_allShares_4 rfl ?_
    refine q_aload_n (pc := 5) dX0_allShares_5 rfl ?_
    refine qg_0_0 (pc := 6) dX0_allShares_6 h0 lf_X0_19 ?_
    refine q_icmp_ge (pc := 9) 43 dX0_allShares_9 (by decide) ?_ ?_
    · refine q_iload_n (pc := 43) dX0_allShares_43 rfl ?_
      exact q_ireturn (pc := 44) dX0_allShares_44
    refine q_iconst (pc := 12) 1 dX0_allShares_12 (by decide) ?_
    refine q_istore_n (pc := 13) dX0_allShares_13 (by decide) ?_
    exact tX0_allShares_14 hK h0 (fun z1 z2 sg => ih z1 z2 sg) qfu x1 x2 1 sg
def fX0_allShares (k0 : Nat) (sg : qSt) : qR :=
  fX0_allShares_4 k0 qfu 0 0 sg
set_option maxRecDepth 20000 in
set_option maxHeartbeats 4000000 in
theorem sX0_allShares {b : Nat} {K : List Nat} (hK : qOk K) {k0 : Nat} (h0 : qIn K k0 0) (sg : qSt) : qS yX0_allShares cX0_allShares 4 (some .int) 2 44 b K [.ref (b + k0)] sg (fX0_allShares k0 sg) := by
  refine qS_of (own := RX0) rfl (by decide) hK.1 (by simp [Value.category]) (Nat.le_of_ble_eq_true rfl) (fun z _ ty h => by cases h; exact vp_nar_int _) ?_
  show qJ RX0 cX0_allShares 4 2 44 false (fun _ _ => True) b K 0 [some (.ref (b + k0)), none, none, none] [] sg (fX0_allShares k0 sg)
  unfold fX0_allShares
  refine q_iconst (pc := 0) 0 dX0_allShares_0 (by decide) ?_
  refine q_istore_n (pc := 1) dX0_allShares_1 (by decide) ?_
  refine q_iconst (pc := 2) 0 dX0_allShares_2 (by decide) ?_
  refine q_istore_n (pc := 3) dX0_allShares_3 (by decide) ?_
  exact tX0_allShares_4 hK h0 qfu 0 0 sg
-- LineSearch$Ground.sharedSteps()I
def fX0_sharedSteps_14 (k0 : Nat) (c4 : Int32 → Int32 → qSt → qR) : Nat → Int32 → Int32 → Int32 → qSt → qR
  | 0, _, _, _, _ => none
  | n + 1, x1, x2, x3, sg =>
    if (sg k0 1) < x3 then
      c4 x1 ((x2 + 1)) sg
    else
    qb (fX0_shareAt k0 x2 x3 sg) fun r1 s2 =>
    fX0_sharedSteps_14 k0 c4 n ((x1 + (r1 * x3))) x2 ((x3 + 1)) s2
set_option maxRecDepth 20000 in
set_option maxHeartbeats 4000000 in
theorem tX0_sharedSteps_14 {b : Nat} {K : List Nat} (hK : qOk K) {k0 : Nat} {c4 : Int32 → Int32 → qSt → qR} (h0 : qIn K k0 0) (hc4 : ∀ (x1 x2 : Int32) (sg : qSt), qJ RX0 cX0_sharedSteps 4 2 44 false (fun _ _ => True) b K 4 [some (.ref (b + k0)), some (.int x1), some (.int x2), none] [] sg (c4 x1 x2 sg)) : ∀ (n : Nat) (x1 x2 x3 : Int32) (sg : qSt), qJ RX0 cX0_sharedSteps 4 2 44 false (fun _ _ => True) b K 14 [some (.ref (b + k0)), some (.int x1), some (.int x2), some (.int x3)] [] sg (fX0_sharedSteps_14 k0 c4 n x1 x2 x3 sg) := by
  intro n
  induction n with
  | zero => intro x1 x2 x3 sg; exact qJ_none
  | succ n ih =>
    intro x1 x2 x3 sg
    unfold fX0_sharedSteps_14
    refine q_iload_n (pc := 14) dX0_sharedSteps_14 rfl ?_
    refine q_aload_n (pc := 15) dX0_sharedSteps_15 rfl ?_
    refine qg_0_1 (pc := 16) dX0_sharedSteps_16 h0 lf_X0_23 ?_
    refine q_icmp_gt (pc := 19) 39 dX0_sharedSteps_19 (by decide) ?_ ?_
    · refine q_iinc (pc := 39) 1 dX0_sharedSteps_39 rfl (by decide) (by decide) ?_
      refine q_goto (pc := 42) 4 dX0_sharedSteps_42 (by decide) ?_
      refine qJ_weak [some (.ref (b + k0)), some (.int x1), some (.int ((x2 + 1))), none] ⟨rfl, rfl, rfl, trivial⟩ ?_
      exact hc4 x1 ((x2 + 1)) sg
    refine q_iload_n (pc := 22) dX0_sharedSteps_22 rfl ?_
    refine q_aload_n (pc := 23) dX0_sharedSteps_23 rfl ?_
    refine q_iload_n (pc := 24) dX0_sharedSteps_24 rfl ?_
    refine q_iload_n (pc := 25) dX0_sharedSteps_25 rfl ?_
    refine q_callVi (pc := 26) [.int x2, .int x3] dX0_sharedSteps_26 lm_X0_42 yX0_shareAt_ok yX0_shareAt_in h0 (by decide) rfl (sX0_shareAt hK h0 x2 x3 sg) rfl rfl (Nat.le_of_ble_eq_true rfl) ⟨by decide, by decide⟩ (fun r1 s2 => ?_)
    refine q_iload_n (pc := 29) dX0_sharedSteps_29 rfl ?_
    refine q_imul (pc := 30) dX0_sharedSteps_30 ?_
    refine q_iadd (pc := 31) dX0_sharedSteps_31 ?_
    refine q_istore_n (pc := 32) dX0_sharedSteps_32 (by decide) ?_
    refine q_iinc (pc := 33) 1 dX0_sharedSteps_33 rfl (by decide) (by decide) ?_
    refine q_goto (pc := 36) 14 dX0_sharedSteps_36 (by decide) ?_
    exact ih ((x1 + (r1 * x3))) x2 ((x3 + 1)) s2
def fX0_sharedSteps_4 (k0 : Nat) : Nat → Int32 → Int32 → qSt → qR
  | 0, _, _, _ => none
  | n + 1, x1, x2, sg =>
    if (sg k0 0) ≤ x2 then
      some (x1, sg)
    else
    fX0_sharedSteps_14 k0 (fun z1 z2 sg => fX0_sharedSteps_4 k0 n z1 z2 sg) qfu x1 x2 1 sg
set_option maxRecDepth 20000 in
set_option maxHeartbeats 4000000 in
theorem tX0_sharedSteps_4 {b : Nat} {K : List Nat} (hK : qOk K) {k0 : Nat} (h0 : qIn K k0 0) : ∀ (n : Nat) (x1 x2 : Int32) (sg : qSt), qJ RX0 cX0_sharedSteps 4 2 44 false (fun _ _ => True) b K 4 [some (.ref (b + k0)), some (.int x1), some (.int x2), none] [] sg (fX0_sharedSteps_4 k0 n x1 x2 sg) := by
  intro n
  induction n with
  | zero => intro x1 x2 sg; exact qJ_none
  | succ n ih =>
    intro x1 x2 sg
    unfold fX0_sharedSteps_4
    refine q_iload_n (pc := 4) dX0_sharedSteps_4 rfl ?_
    refine q_aload_n (pc := 5) dX0_sharedSteps_5 rfl ?_
    refine qg_0_0 (pc := 6) dX0_sharedSteps_6 h0 lf_X0_19 ?_
    refine q_icmp_ge (pc := 9) 45 dX0_sharedSteps_9 (by decide) ?_ ?_
    · refine q_iload_n (pc := 45) dX0_sharedSteps_45 rfl ?_
      exact q_ireturn (pc := 46) dX0_sharedSteps_46
    refine q_iconst (pc := 12) 1 dX0_sharedSteps_12 (by decide) ?_
    refine q_istore_n (pc := 13) dX0_sharedSteps_13 (by decide) ?_
    exact tX0_sharedSteps_14 hK h0 (fun z1 z2 sg => ih z1 z2 sg) qfu x1 x2 1 sg
def fX0_sharedSteps (k0 : Nat) (sg : qSt) : qR :=
  fX0_sharedSteps_4 k0 qfu 0 0 sg
set_option maxRecDepth 20000 in
set_option maxHeartbeats 4000000 in
theorem sX0_sharedSteps {b : Nat} {K : List Nat} (hK : qOk K) {k0 : Nat} (h0 : qIn K k0 0) (sg : qSt) : qS yX0_sharedSteps cX0_sharedSteps 4 (some .int) 2 44 b K [.ref (b + k0)] sg (fX0_sharedSteps k0 sg) := by
  refine qS_of (own := RX0) rfl (by decide) hK.1 (by simp [Value.category]) (Nat.le_of_ble_eq_true rfl) (fun z _ ty h => by cases h; exact vp_nar_int _) ?_
  show qJ RX0 cX0_sharedSteps 4 2 44 false (fun _ _ => True) b K 0 [some (.ref (b + k0)), none, none, none] [] sg (fX0_sharedSteps k0 sg)
  unfold fX0_sharedSteps
  refine q_iconst (pc := 0) 0 dX0_sharedSteps_0 (by decide) ?_
  refine q_istore_n (pc := 1) dX0_sharedSteps_1 (by decide) ?_
  refine q_iconst (pc := 2) 0 dX0_sharedSteps_2 (by decide) ?_
  refine q_istore_n (pc := 3) dX0_sharedSteps_3 (by decide) ?_
  exact tX0_sharedSteps_4 hK h0 qfu 0 0 sg
-- LineSearch$Plan.empty()V
def fX2_empty (k0 : Nat) (sg : qSt) : qR :=
  some (0, qset sg k0 2 0)
set_option maxRecDepth 20000 in
set_option maxHeartbeats 4000000 in
theorem sX2_empty {b : Nat} {K : List Nat} (hK : qOk K) {k0 : Nat} (h0 : qIn K k0 2) (sg : qSt) : qS yX2_empty cX2_empty 1 none 0 0 b K [.ref (b + k0)] sg (fX2_empty k0 sg) := by
  refine qS_of (own := RX2) rfl (by decide) hK.1 (by simp [Value.category]) (Nat.le_of_ble_eq_true rfl) (fun z _ ty h => by cases h) ?_
  show qJ RX2 cX2_empty 1 0 0 true (fun _ _ => True) b K 0 [some (.ref (b + k0))] [] sg (fX2_empty k0 sg)
  unfold fX2_empty
  refine q_aload_n (pc := 0) dX2_empty_0 rfl ?_
  refine q_iconst (pc := 1) 0 dX2_empty_1 (by decide) ?_
  refine qp_2_2 (pc := 2) dX2_empty_2 h0 lf_X2_18 ?_
  exact q_return (pc := 5) dX2_empty_5
-- LineSearch$Plan.add(II)Z
def fX2_add_b (k0 : Nat) (x1 x2 : Int32) (sg : qSt) : qR :=
  if (sg k0 2) < 30 then
    qb (fX3_put (k0 + 1) (sg k0 2) x1 sg) fun r1 s2 =>
    qb (fX3_put (k0 + 2) (s2 k0 2) x2 s2) fun r3 s4 =>
    some (1, qset s4 k0 2 ((s4 k0 2) + 1))
  else
  some (0, sg)
def fX2_add (k0 : Nat) (x1 x2 : Int32) (sg : qSt) : qR := qz (fX2_add_b k0 x1 x2 sg)
set_option maxRecDepth 20000 in
set_option maxHeartbeats 4000000 in
theorem sX2_add {b : Nat} {K : List Nat} (hK : qOk K) {k0 : Nat} (h0 : qIn K k0 2) (x1 x2 : Int32) (sg : qSt) : qS yX2_add cX2_add 3 (some .boolean) 1 22 b K [.ref (b + k0), .int x1, .int x2] sg (fX2_add k0 x1 x2 sg) := by
  refine qS_of (own := RX2) rfl (by decide) hK.1 (by simp [Value.category]) (Nat.le_of_ble_eq_true rfl) (fun z hz ty h => by cases h; exact qz_bool hz) ?_
  show qJ RX2 cX2_add 3 1 22 false (fun _ _ => True) b K 0 [some (.ref (b + k0)), some (.int x1), some (.int x2)] [] sg (fX2_add k0 x1 x2 sg)
  refine qJ_qz ?_
  unfold fX2_add_b
  refine q_aload_n (pc := 0) dX2_add_0 rfl ?_
  refine qg_2_2 (pc := 1) dX2_add_1 h0 lf_X2_18 ?_
  refine q_bipush (pc := 4) 30 dX2_add_4 (by decide) ?_
  refine q_icmp_lt (pc := 6) 11 dX2_add_6 (by decide) ?_ ?_
  · refine q_aload_n (pc := 11) dX2_add_11 rfl ?_
    refine qg_2_0 (pc := 12) dX2_add_12 h0 lf_X2_9 ?_
    refine q_aload_n (pc := 15) dX2_add_15 rfl ?_
    refine qg_2_2 (pc := 16) dX2_add_16 h0 lf_X2_18 ?_
    refine q_iload_n (pc := 19) dX2_add_19 rfl ?_
    refine q_callSNv (pc := 20) [.ref (b + ((k0 + 1))), .int ((sg k0 2)), .int x1] dX2_add_20 (by decide) yX3_put_ok yX3_put_in (sX3_put hK (qch_2_0 hK h0) (sg k0 2) x1 sg) rfl rfl (Nat.le_of_ble_eq_true rfl) ⟨by decide, by decide⟩ (fun r1 s2 => ?_)
    refine q_aload_n (pc := 23) dX2_add_23 rfl ?_
    refine qg_2_1 (pc := 24) dX2_add_24 h0 lf_X2_15 ?_
    refine q_aload_n (pc := 27) dX2_add_27 rfl ?_
    refine qg_2_2 (pc := 28) dX2_add_28 h0 lf_X2_18 ?_
    refine q_iload_n (pc := 31) dX2_add_31 rfl ?_
    refine q_callSNv (pc := 32) [.ref (b + ((k0 + 2))), .int ((s2 k0 2)), .int x2] dX2_add_32 (by decide) yX3_put_ok yX3_put_in (sX3_put hK (qch_2_1 hK h0) (s2 k0 2) x2 s2) rfl rfl (Nat.le_of_ble_eq_true rfl) ⟨by decide, by decide⟩ (fun r3 s4 => ?_)
    refine q_aload_n (pc := 35) dX2_add_35 rfl ?_
    refine q_dup (pc := 36) dX2_add_36 rfl ?_
    refine qg_2_2 (pc := 37) dX2_add_37 h0 lf_X2_18 ?_
    refine q_iconst (pc := 40) 1 dX2_add_40 (by decide) ?_
    refine q_iadd (pc := 41) dX2_add_41 ?_
    refine qp_2_2 (pc := 42) dX2_add_42 h0 lf_X2_18 ?_
    refine q_iconst (pc := 45) 1 dX2_add_45 (by decide) ?_
    exact q_ireturn (pc := 46) dX2_add_46
  refine q_iconst (pc := 9) 0 dX2_add_9 (by decide) ?_
  exact q_ireturn (pc := 10) dX2_add_10
-- LineSearch$Plan.has(I)Z
def fX2_has_b (k0 : Nat) (x1 : Int32) (sg : qSt) : qR :=
  if x1 < 0 then
    some (0, sg)
  else
  if (sg k0 2) ≤ x1 then
    some (0, sg)
  else
  some (1, sg)
def fX2_has (k0 : Nat) (x1 : Int32) (sg : qSt) : qR := qz (fX2_has_b k0 x1 sg)
set_option maxRecDepth 20000 in
set_option maxHeartbeats 4000000 in
theorem sX2_has {b : Nat} {K : List Nat} (hK : qOk K) {k0 : Nat} (h0 : qIn K k0 2) (x1 : Int32) (sg : qSt) : qS yX2_has cX2_has 2 (some .boolean) 0 0 b K [.ref (b + k0), .int x1] sg (fX2_has k0 x1 sg) := by
  refine qS_of (own := RX2) rfl (by decide) hK.1 (by simp [Value.category]) (Nat.le_of_ble_eq_true rfl) (fun z hz ty h => by cases h; exact qz_bool hz) ?_
  show qJ RX2 cX2_has 2 0 0 false (fun _ _ => True) b K 0 [some (.ref (b + k0)), some (.int x1)] [] sg (fX2_has k0 x1 sg)
  refine qJ_qz ?_
  unfold fX2_has_b
  refine q_iload_n (pc := 0) dX2_has_0 rfl ?_
  refine q_if_lt (pc := 1) 16 dX2_has_1 (by decide) ?_ ?_
  · refine q_iconst (pc := 16) 0 dX2_has_16 (by decide) ?_
    exact q_ireturn (pc := 17) dX2_has_17
  refine q_iload_n (pc := 4) dX2_has_4 rfl ?_
  refine q_aload_n (pc := 5) dX2_has_5 rfl ?_
  refine qg_2_2 (pc := 6) dX2_has_6 h0 lf_X2_18 ?_
  refine q_icmp_ge (pc := 9) 16 dX2_has_9 (by decide) ?_ ?_
  · refine q_iconst (pc := 16) 0 dX2_has_16 (by decide) ?_
    exact q_ireturn (pc := 17) dX2_has_17
  refine q_iconst (pc := 12) 1 dX2_has_12 (by decide) ?_
  refine q_goto (pc := 13) 17 dX2_has_13 (by decide) ?_
  exact q_ireturn (pc := 17) dX2_has_17
-- LineSearch$Plan.rayOf(I)I
def fX2_rayOf (k0 : Nat) (x1 : Int32) (sg : qSt) : qR :=
  qb (fX2_has k0 x1 sg) fun r1 s2 =>
  if r1 = 0 then
    some (0, s2)
  else
  qb (fX3_at (k0 + 1) x1 s2) fun r3 s4 =>
  some (r3, s4)
set_option maxRecDepth 20000 in
set_option maxHeartbeats 4000000 in
theorem sX2_rayOf {b : Nat} {K : List Nat} (hK : qOk K) {k0 : Nat} (h0 : qIn K k0 2) (x1 : Int32) (sg : qSt) : qS yX2_rayOf cX2_rayOf 2 (some .int) 1 21 b K [.ref (b + k0), .int x1] sg (fX2_rayOf k0 x1 sg) := by
  refine qS_of (own := RX2) rfl (by decide) hK.1 (by simp [Value.category]) (Nat.le_of_ble_eq_true rfl) (fun z _ ty h => by cases h; exact vp_nar_int _) ?_
  show qJ RX2 cX2_rayOf 2 1 21 false (fun _ _ => True) b K 0 [some (.ref (b + k0)), some (.int x1)] [] sg (fX2_rayOf k0 x1 sg)
  unfold fX2_rayOf
  refine q_aload_n (pc := 0) dX2_rayOf_0 rfl ?_
  refine q_iload_n (pc := 1) dX2_rayOf_1 rfl ?_
  refine q_callVi (pc := 2) [.int x1] dX2_rayOf_2 lm_X2_22 yX2_has_ok yX2_has_in h0 (by decide) rfl (sX2_has hK h0 x1 sg) rfl rfl (Nat.le_of_ble_eq_true rfl) ⟨by decide, by decide⟩ (fun r1 s2 => ?_)
  refine q_if_eq (pc := 5) 19 dX2_rayOf_5 (by decide) ?_ ?_
  · refine q_iconst (pc := 19) 0 dX2_rayOf_19 (by decide) ?_
    exact q_ireturn (pc := 20) dX2_rayOf_20
  refine q_aload_n (pc := 8) dX2_rayOf_8 rfl ?_
  refine qg_2_0 (pc := 9) dX2_rayOf_9 h0 lf_X2_9 ?_
  refine q_iload_n (pc := 12) dX2_rayOf_12 rfl ?_
  refine q_callSNi (pc := 13) [.ref (b + ((k0 + 1))), .int x1] dX2_rayOf_13 (by decide) yX3_at_ok yX3_at_in (sX3_at hK (qch_2_0 hK h0) x1 s2) rfl rfl (Nat.le_of_ble_eq_true rfl) ⟨by decide, by decide⟩ (fun r3 s4 => ?_)
  refine q_goto (pc := 16) 20 dX2_rayOf_16 (by decide) ?_
  exact q_ireturn (pc := 20) dX2_rayOf_20
-- LineSearch$Plan.stepsOf(I)I
def fX2_stepsOf (k0 : Nat) (x1 : Int32) (sg : qSt) : qR :=
  qb (fX2_has k0 x1 sg) fun r1 s2 =>
  if r1 = 0 then
    some (0, s2)
  else
  qb (fX3_at (k0 + 2) x1 s2) fun r3 s4 =>
  some (r3, s4)
set_option maxRecDepth 20000 in
set_option maxHeartbeats 4000000 in
theorem sX2_stepsOf {b : Nat} {K : List Nat} (hK : qOk K) {k0 : Nat} (h0 : qIn K k0 2) (x1 : Int32) (sg : qSt) : qS yX2_stepsOf cX2_stepsOf 2 (some .int) 1 21 b K [.ref (b + k0), .int x1] sg (fX2_stepsOf k0 x1 sg) := by
  refine qS_of (own := RX2) rfl (by decide) hK.1 (by simp [Value.category]) (Nat.le_of_ble_eq_true rfl) (fun z _ ty h => by cases h; exact vp_nar_int _) ?_
  show qJ RX2 cX2_stepsOf 2 1 21 false (fun _ _ => True) b K 0 [some (.ref (b + k0)), some (.int x1)] [] sg (fX2_stepsOf k0 x1 sg)
  unfold fX2_stepsOf
  refine q_aload_n (pc := 0) dX2_stepsOf_0 rfl ?_
  refine q_iload_n (pc := 1) dX2_stepsOf_1 rfl ?_
  refine q_callVi (pc := 2) [.int x1] dX2_stepsOf_2 lm_X2_22 yX2_has_ok yX2_has_in h0 (by decide) rfl (sX2_has hK h0 x1 sg) rfl rfl (Nat.le_of_ble_eq_true rfl) ⟨by decide, by decide⟩ (fun r1 s2 => ?_)
  refine q_if_eq (pc := 5) 19 dX2_stepsOf_5 (by decide) ?_ ?_
  · refine q_iconst (pc := 19) 0 dX2_stepsOf_19 (by decide) ?_
    exact q_ireturn (pc := 20) dX2_stepsOf_20
  refine q_aload_n (pc := 8) dX2_stepsOf_8 rfl ?_
  refine qg_2_1 (pc := 9) dX2_stepsOf_9 h0 lf_X2_15 ?_
  refine q_iload_n (pc := 12) dX2_stepsOf_12 rfl ?_
  refine q_callSNi (pc := 13) [.ref (b + ((k0 + 2))), .int x1] dX2_stepsOf_13 (by decide) yX3_at_ok yX3_at_in (sX3_at hK (qch_2_1 hK h0) x1 s2) rfl rfl (Nat.le_of_ble_eq_true rfl) ⟨by decide, by decide⟩ (fun r3 s4 => ?_)
  refine q_goto (pc := 16) 20 dX2_stepsOf_16 (by decide) ?_
  exact q_ireturn (pc := 20) dX2_stepsOf_20
-- LineSearch$Plan.removeLast()Z
def fX2_removeLast_b (k0 : Nat) (sg : qSt) : qR :=
  if 1 ≤ (sg k0 2) then
    some (1, qset sg k0 2 ((sg k0 2) - 1))
  else
  some (0, sg)
def fX2_removeLast (k0 : Nat) (sg : qSt) : qR := qz (fX2_removeLast_b k0 sg)
set_option maxRecDepth 20000 in
set_option maxHeartbeats 4000000 in
theorem sX2_removeLast {b : Nat} {K : List Nat} (hK : qOk K) {k0 : Nat} (h0 : qIn K k0 2) (sg : qSt) : qS yX2_removeLast cX2_removeLast 1 (some .boolean) 0 0 b K [.ref (b + k0)] sg (fX2_removeLast k0 sg) := by
  refine qS_of (own := RX2) rfl (by decide) hK.1 (by simp [Value.category]) (Nat.le_of_ble_eq_true rfl) (fun z hz ty h => by cases h; exact qz_bool hz) ?_
  show qJ RX2 cX2_removeLast 1 0 0 false (fun _ _ => True) b K 0 [some (.ref (b + k0))] [] sg (fX2_removeLast k0 sg)
  refine qJ_qz ?_
  unfold fX2_removeLast_b
  refine q_aload_n (pc := 0) dX2_removeLast_0 rfl ?_
  refine qg_2_2 (pc := 1) dX2_removeLast_1 h0 lf_X2_18 ?_
  refine q_iconst (pc := 4) 1 dX2_removeLast_4 (by decide) ?_
  refine q_icmp_ge (pc := 5) 10 dX2_removeLast_5 (by decide) ?_ ?_
  · refine q_aload_n (pc := 10) dX2_removeLast_10 rfl ?_
    refine q_dup (pc := 11) dX2_removeLast_11 rfl ?_
    refine qg_2_2 (pc := 12) dX2_removeLast_12 h0 lf_X2_18 ?_
    refine q_iconst (pc := 15) 1 dX2_removeLast_15 (by decide) ?_
    refine q_isub (pc := 16) dX2_removeLast_16 ?_
    refine qp_2_2 (pc := 17) dX2_removeLast_17 h0 lf_X2_18 ?_
    refine q_iconst (pc := 20) 1 dX2_removeLast_20 (by decide) ?_
    exact q_ireturn (pc := 21) dX2_removeLast_21
  refine q_iconst (pc := 8) 0 dX2_removeLast_8 (by decide) ?_
  exact q_ireturn (pc := 9) dX2_removeLast_9
-- LineSearch$Plan.copy(LLineSearch$Plan;)V
def fX2_copy_7 (k0 k1 : Nat) : Nat → Int32 → qSt → qR
  | 0, _, _ => none
  | n + 1, x2, sg =>
    if (sg k1 2) ≤ x2 then
      some (0, sg)
    else
    qb (fX2_rayOf k1 x2 sg) fun r1 s2 =>
    qb (fX2_stepsOf k1 x2 s2) fun r3 s4 =>
    qb (fX2_add k0 r1 r3 s4) fun r5 s6 =>
    fX2_copy_7 k0 k1 n ((x2 + 1)) s6
set_option maxRecDepth 20000 in
set_option maxHeartbeats 4000000 in
theorem tX2_copy_7 {b : Nat} {K : List Nat} (hK : qOk K) {k0 k1 : Nat} (h0 : qIn K k0 2) (h1 : qIn K k1 2) : ∀ (n : Nat) (x2 : Int32) (sg : qSt), qJ RX2 cX2_copy 3 2 44 true (fun _ _ => True) b K 7 [some (.ref (b + k0)), some (.ref (b + k1)), some (.int x2)] [] sg (fX2_copy_7 k0 k1 n x2 sg) := by
  intro n
  induction n with
  | zero => intro x2 sg; exact qJ_none
  | succ n ih =>
    intro x2 sg
    unfold fX2_copy_7
    refine q_iload_n (pc := 7) dX2_copy_7 rfl ?_
    refine q_aload_n (pc := 8) dX2_copy_8 rfl ?_
    refine qg_2_2 (pc := 9) dX2_copy_9 h1 lf_X2_18 ?_
    refine q_icmp_ge (pc := 12) 36 dX2_copy_12 (by decide) ?_ ?_
    · exact q_return (pc := 36) dX2_copy_36
    refine q_aload_n (pc := 15) dX2_copy_15 rfl ?_
    refine q_aload_n (pc := 16) dX2_copy_16 rfl ?_
    refine q_iload_n (pc := 17) dX2_copy_17 rfl ?_
    refine q_callVi (pc := 18) [.int x2] dX2_copy_18 lm_X2_34 yX2_rayOf_ok yX2_rayOf_in h1 (by decide) rfl (sX2_rayOf hK h1 x2 sg) rfl rfl (Nat.le_of_ble_eq_true rfl) ⟨by decide, by decide⟩ (fun r1 s2 => ?_)
    refine q_aload_n (pc := 21) dX2_copy_21 rfl ?_
    refine q_iload_n (pc := 22) dX2_copy_22 rfl ?_
    refine q_callVi (pc := 23) [.int x2] dX2_copy_23 lm_X2_38 yX2_stepsOf_ok yX2_stepsOf_in h1 (by decide) rfl (sX2_stepsOf hK h1 x2 s2) rfl rfl (Nat.le_of_ble_eq_true rfl) ⟨by decide, by decide⟩ (fun r3 s4 => ?_)
    refine q_callVi (pc := 26) [.int r1, .int r3] dX2_copy_26 lm_X2_41 yX2_add_ok yX2_add_in h0 (by decide) rfl (sX2_add hK h0 r1 r3 s4) rfl rfl (Nat.le_of_ble_eq_true rfl) ⟨by decide, by decide⟩ (fun r5 s6 => ?_)
    refine q_pop (pc := 29) dX2_copy_29 rfl ?_
    refine q_iinc (pc := 30) 1 dX2_copy_30 rfl (by decide) (by decide) ?_
    refine q_goto (pc := 33) 7 dX2_copy_33 (by decide) ?_
    exact ih ((x2 + 1)) s6
def fX2_copy (k0 k1 : Nat) (sg : qSt) : qR :=
  fX2_copy_7 k0 k1 qfu 0 (qset sg k0 2 0)
set_option maxRecDepth 20000 in
set_option maxHeartbeats 4000000 in
theorem sX2_copy {b : Nat} {K : List Nat} (hK : qOk K) {k0 k1 : Nat} (h0 : qIn K k0 2) (h1 : qIn K k1 2) (sg : qSt) : qS yX2_copy cX2_copy 3 none 2 44 b K [.ref (b + k0), .ref (b + k1)] sg (fX2_copy k0 k1 sg) := by
  refine qS_of (own := RX2) rfl (by decide) hK.1 (by simp [Value.category]) (Nat.le_of_ble_eq_true rfl) (fun z _ ty h => by cases h) ?_
  show qJ RX2 cX2_copy 3 2 44 true (fun _ _ => True) b K 0 [some (.ref (b + k0)), some (.ref (b + k1)), none] [] sg (fX2_copy k0 k1 sg)
  unfold fX2_copy
  refine q_aload_n (pc := 0) dX2_copy_0 rfl ?_
  refine q_iconst (pc := 1) 0 dX2_copy_1 (by decide) ?_
  refine qp_2_2 (pc := 2) dX2_copy_2 h0 lf_X2_18 ?_
  refine q_iconst (pc := 5) 0 dX2_copy_5 (by decide) ?_
  refine q_istore_n (pc := 6) dX2_copy_6 (by decide) ?_
  exact tX2_copy_7 hK h0 h1 qfu 0 (qset sg k0 2 0)
-- LineSearch$Plan.isFor(II)Z
def fX2_isFor_b (x0 x1 : Int32) (sg : qSt) : qR :=
  if x0 = (-1) then
    some (1, sg)
  else
  if (x1 - x1 / 2 * 2) = x0 then
    some (1, sg)
  else
  some (0, sg)
def fX2_isFor (x0 x1 : Int32) (sg : qSt) : qR := qz (fX2_isFor_b x0 x1 sg)
set_option maxRecDepth 20000 in
set_option maxHeartbeats 4000000 in
theorem sX2_isFor {b : Nat} {K : List Nat} (hK : qOk K) (x0 x1 : Int32) (sg : qSt) : qS yX2_isFor cX2_isFor 2 (some .boolean) 0 0 b K [.int x0, .int x1] sg (fX2_isFor x0 x1 sg) := by
  refine qS_of (own := RX2) rfl (by decide) hK.1 (by simp [Value.category]) (Nat.le_of_ble_eq_true rfl) (fun z hz ty h => by cases h; exact qz_bool hz) ?_
  show qJ RX2 cX2_isFor 2 0 0 false (fun _ _ => True) b K 0 [some (.int x0), some (.int x1)] [] sg (fX2_isFor x0 x1 sg)
  refine qJ_qz ?_
  unfold fX2_isFor_b
  refine q_iload_n (pc := 0) dX2_isFor_0 rfl ?_
  refine q_iconst (pc := 1) (-1) dX2_isFor_1 (by decide) ?_
  refine q_icmp_eq (pc := 2) 12 dX2_isFor_2 (by decide) ?_ ?_
  · refine q_iconst (pc := 12) 1 dX2_isFor_12 (by decide) ?_
    refine q_goto (pc := 13) 17 dX2_isFor_13 (by decide) ?_
    exact q_ireturn (pc := 17) dX2_isFor_17
  refine q_iload_n (pc := 5) dX2_isFor_5 rfl ?_
  refine q_iconst (pc := 6) 2 dX2_isFor_6 (by decide) ?_
  refine q_iremc (pc := 7) dX2_isFor_7 (by decide) ?_
  refine q_iload_n (pc := 8) dX2_isFor_8 rfl ?_
  refine q_icmp_ne (pc := 9) 16 dX2_isFor_9 (by decide) ?_ ?_
  · refine q_iconst (pc := 16) 0 dX2_isFor_16 (by decide) ?_
    exact q_ireturn (pc := 17) dX2_isFor_17
  refine q_iconst (pc := 12) 1 dX2_isFor_12 (by decide) ?_
  refine q_goto (pc := 13) 17 dX2_isFor_13 (by decide) ?_
  exact q_ireturn (pc := 17) dX2_isFor_17
-- LineSearch$Plan.firstTo(III)I
def fX2_firstTo_3 (k0 : Nat) : Nat → Int32 → Int32 → Int32 → Int32 → qSt → qR
  | 0, _, _, _, _, _ => none
  | n + 1, x1, x2, x3, x4, sg =>
    if (sg k0 2) ≤ x4 then
      some ((-1), sg)
    else
    qb (fX2_isFor x3 x4 sg) fun r1 s2 =>
    if r1 = 0 then
      fX2_firstTo_3 k0 n x1 x2 x3 ((x4 + 1)) s2
    else
    qb (fX2_rayOf k0 x4 s2) fun r3 s4 =>
    if r3 = x1 then
      qb (fX2_stepsOf k0 x4 s4) fun r5 s6 =>
      if r5 < x2 then
        fX2_firstTo_3 k0 n x1 x2 x3 ((x4 + 1)) s6
      else
      some (x4, s6)
    else
    fX2_firstTo_3 k0 n x1 x2 x3 ((x4 + 1)) s4
set_option maxRecDepth 20000 in
set_option maxHeartbeats 4000000 in
theorem tX2_firstTo_3 {b : Nat} {K : List Nat} (hK : qOk K) {k0 : Nat} (h0 : qIn K k0 2) : ∀ (n : Nat) (x1 x2 x3 x4 : Int32) (sg : qSt), qJ RX2 cX2_firstTo 5 2 42 false (fun _ _ => True) b K 3 [some (.ref (b + k0)), some (.int x1), some (.int x2), some (.int x3), some (.int x4)] [] sg (fX2_firstTo_3 k0 n x1 x2 x3 x4 sg) := by
  intro n
  induction n with
  | zero => intro x1 x2 x3 x4 sg; exact qJ_none
  | succ n ih =>
    intro x1 x2 x3 x4 sg
    unfold fX2_firstTo_3
    refine q_iload (pc := 3) dX2_firstTo_3 rfl ?_
    refine q_aload_n (pc := 5) dX2_firstTo_5 rfl ?_
    refine qg_2_2 (pc := 6) dX2_firstTo_6 h0 lf_X2_18 ?_
    refine q_icmp_ge (pc := 9) 50 dX2_firstTo_9 (by decide) ?_ ?_
    · refine q_iconst (pc := 50) (-1) dX2_firstTo_50 (by decide) ?_
      exact q_ireturn (pc := 51) dX2_firstTo_51
    refine q_iload_n (pc := 12) dX2_firstTo_12 rfl ?_
    refine q_iload (pc := 13) dX2_firstTo_13 rfl ?_
    refine q_callSi (pc := 15) [.int x3, .int x4] dX2_firstTo_15 lm_X2_45 yX2_isFor_ok yX2_isFor_in (sX2_isFor hK x3 x4 sg) rfl rfl (Nat.le_of_ble_eq_true rfl) ⟨by decide, by decide⟩ (fun r1 s2 => ?_)
    refine q_if_eq (pc := 18) 44 dX2_firstTo_18 (by decide) ?_ ?_
    · refine q_iinc (pc := 44) 1 dX2_firstTo_44 rfl (by decide) (by decide) ?_
      refine q_goto (pc := 47) 3 dX2_firstTo_47 (by decide) ?_
      exact ih x1 x2 x3 ((x4 + 1)) s2
    refine q_aload_n (pc := 21) dX2_firstTo_21 rfl ?_
    refine q_iload (pc := 22) dX2_firstTo_22 rfl ?_
    refine q_callVi (pc := 24) [.int x4] dX2_firstTo_24 lm_X2_34 yX2_rayOf_ok yX2_rayOf_in h0 (by decide) rfl (sX2_rayOf hK h0 x4 s2) rfl rfl (Nat.le_of_ble_eq_true rfl) ⟨by decide, by decide⟩ (fun r3 s4 => ?_)
    refine q_iload_n (pc := 27) dX2_firstTo_27 rfl ?_
    refine q_icmp_ne (pc := 28) 44 dX2_firstTo_28 (by decide) ?_ ?_
    · refine q_iinc (pc := 44) 1 dX2_firstTo_44 rfl (by decide) (by decide) ?_
      refine q_goto (pc := 47) 3 dX2_firstTo_47 (by decide) ?_
      exact ih x1 x2 x3 ((x4 + 1)) s4
    refine q_aload_n (pc := 31) dX2_firstTo_31 rfl ?_
    refine q_iload (pc := 32) dX2_firstTo_32 rfl ?_
    refine q_callVi (pc := 34) [.int x4] dX2_firstTo_34 lm_X2_38 yX2_stepsOf_ok yX2_stepsOf_in h0 (by decide) rfl (sX2_stepsOf hK h0 x4 s4) rfl rfl (Nat.le_of_ble_eq_true rfl) ⟨by decide, by decide⟩ (fun r5 s6 => ?_)
    refine q_iload_n (pc := 37) dX2_firstTo_37 rfl ?_
    refine q_icmp_lt (pc := 38) 44 dX2_firstTo_38 (by decide) ?_ ?_
    · refine q_iinc (pc := 44) 1 dX2_firstTo_44 rfl (by decide) (by decide) ?_
      refine q_goto (pc := 47) 3 dX2_firstTo_47 (by decide) ?_
      exact ih x1 x2 x3 ((x4 + 1)) s6
    refine q_iload (pc := 41) dX2_firstTo_41 rfl ?_
    exact q_ireturn (pc := 43) dX2_firstTo_43
def fX2_firstTo (k0 : Nat) (x1 x2 x3 : Int32) (sg : qSt) : qR :=
  fX2_firstTo_3 k0 qfu x1 x2 x3 0 sg
set_option maxRecDepth 20000 in
set_option maxHeartbeats 4000000 in
theorem sX2_firstTo {b : Nat} {K : List Nat} (hK : qOk K) {k0 : Nat} (h0 : qIn K k0 2) (x1 x2 x3 : Int32) (sg : qSt) : qS yX2_firstTo cX2_firstTo 5 (some .int) 2 42 b K [.ref (b + k0), .int x1, .int x2, .int x3] sg (fX2_firstTo k0 x1 x2 x3 sg) := by
  refine qS_of (own := RX2) rfl (by decide) hK.1 (by simp [Value.category]) (Nat.le_of_ble_eq_true rfl) (fun z _ ty h => by cases h; exact vp_nar_int _) ?_
  show qJ RX2 cX2_firstTo 5 2 42 false (fun _ _ => True) b K 0 [some (.ref (b + k0)), some (.int x1), some (.int x2), some (.int x3), none] [] sg (fX2_firstTo k0 x1 x2 x3 sg)
  unfold fX2_firstTo
  refine q_iconst (pc := 0) 0 dX2_firstTo_0 (by decide) ?_
  refine q_istore (pc := 1) dX2_firstTo_1 (by decide) ?_
  exact tX2_firstTo_3 hK h0 qfu x1 x2 x3 0 sg
-- LineSearch$Plan.stepsAhead(II)I
def fX2_stepsAhead_5 (k0 : Nat) : Nat → Int32 → Int32 → Int32 → Int32 → qSt → qR
  | 0, _, _, _, _, _ => none
  | n + 1, x1, x2, x3, x4, sg =>
    if x1 ≤ x4 then
      some (x3, sg)
    else
    if (sg k0 2) ≤ x4 then
      some (x3, sg)
    else
    qb (fX2_isFor x2 x4 sg) fun r1 s2 =>
    if r1 = 0 then
      fX2_stepsAhead_5 k0 n x1 x2 x3 ((x4 + 1)) s2
    else
    qb (fX2_stepsOf k0 x4 s2) fun r3 s4 =>
    fX2_stepsAhead_5 k0 n x1 x2 ((x3 + r3)) ((x4 + 1)) s4
set_option maxRecDepth 20000 in
set_option maxHeartbeats 4000000 in
theorem tX2_stepsAhead_5 {b : Nat} {K : List Nat} (hK : qOk K) {k0 : Nat} (h0 : qIn K k0 2) : ∀ (n : Nat) (x1 x2 x3 x4 : Int32) (sg : qSt), qJ RX2 cX2_stepsAhead 5 2 42 false (fun _ _ => True) b K 5 [some (.ref (b + k0)), some (.int x1), some (.int x2), some (.int x3), some (.int x4)] [] sg (fX2_stepsAhead_5 k0 n x1 x2 x3 x4 sg) := by
  intro n
  induction n with
  | zero => intro x1 x2 x3 x4 sg; exact qJ_none
  | succ n ih =>
    intro x1 x2 x3 x4 sg
    unfold fX2_stepsAhead_5
    refine q_iload (pc := 5) dX2_stepsAhead_5 rfl ?_
    refine q_iload_n (pc := 7) dX2_stepsAhead_7 rfl ?_
    refine q_icmp_ge (pc := 8) 44 dX2_stepsAhead_8 (by decide) ?_ ?_
    · refine q_iload_n (pc := 44) dX2_stepsAhead_44 rfl ?_
      exact q_ireturn (pc := 45) dX2_stepsAhead_45
    refine q_iload (pc := 11) dX2_stepsAhead_11 rfl ?_
    refine q_aload_n (pc := 13) dX2_stepsAhead_13 rfl ?_
    refine qg_2_2 (pc := 14) dX2_stepsAhead_14 h0 lf_X2_18 ?_
    refine q_icmp_ge (pc := 17) 44 dX2_stepsAhead_17 (by decide) ?_ ?_
    · refine q_iload_n (pc := 44) dX2_stepsAhead_44 rfl ?_
      exact q_ireturn (pc := 45) dX2_stepsAhead_45
    refine q_iload_n (pc := 20) dX2_stepsAhead_20 rfl ?_
    refine q_iload (pc := 21) dX2_stepsAhead_21 rfl ?_
    refine q_callSi (pc := 23) [.int x2, .int x4] dX2_stepsAhead_23 lm_X2_45 yX2_isFor_ok yX2_isFor_in (sX2_isFor hK x2 x4 sg) rfl rfl (Nat.le_of_ble_eq_true rfl) ⟨by decide, by decide⟩ (fun r1 s2 => ?_)
    refine q_if_eq (pc := 26) 38 dX2_stepsAhead_26 (by decide) ?_ ?_
    · refine q_iinc (pc := 38) 1 dX2_stepsAhead_38 rfl (by decide) (by decide) ?_
      refine q_goto (pc := 41) 5 dX2_stepsAhead_41 (by decide) ?_
      exact ih x1 x2 x3 ((x4 + 1)) s2
    refine q_iload_n (pc := 29) dX2_stepsAhead_29 rfl ?_
    refine q_aload_n (pc := 30) dX2_stepsAhead_30 rfl ?_
    refine q_iload (pc := 31) dX2_stepsAhead_31 rfl ?_
    refine q_callVi (pc := 33) [.int x4] dX2_stepsAhead_33 lm_X2_38 yX2_stepsOf_ok yX2_stepsOf_in h0 (by decide) rfl (sX2_stepsOf hK h0 x4 s2) rfl rfl (Nat.le_of_ble_eq_true rfl) ⟨by decide, by decide⟩ (fun r3 s4 => ?_)
    refine q_iadd (pc := 36) dX2_stepsAhead_36 ?_
    refine q_istore_n (pc := 37) dX2_stepsAhead_37 (by decide) ?_
    refine q_iinc (pc := 38) 1 dX2_stepsAhead_38 rfl (by decide) (by decide) ?_
    refine q_goto (pc := 41) 5 dX2_stepsAhead_41 (by decide) ?_
    exact ih x1 x2 ((x3 + r3)) ((x4 + 1)) s4
def fX2_stepsAhead (k0 : Nat) (x1 x2 : Int32) (sg : qSt) : qR :=
  fX2_stepsAhead_5 k0 qfu x1 x2 0 0 sg
set_option maxRecDepth 20000 in
set_option maxHeartbeats 4000000 in
theorem sX2_stepsAhead {b : Nat} {K : List Nat} (hK : qOk K) {k0 : Nat} (h0 : qIn K k0 2) (x1 x2 : Int32) (sg : qSt) : qS yX2_stepsAhead cX2_stepsAhead 5 (some .int) 2 42 b K [.ref (b + k0), .int x1, .int x2] sg (fX2_stepsAhead k0 x1 x2 sg) := by
  refine qS_of (own := RX2) rfl (by decide) hK.1 (by simp [Value.category]) (Nat.le_of_ble_eq_true rfl) (fun z _ ty h => by cases h; exact vp_nar_int _) ?_
  show qJ RX2 cX2_stepsAhead 5 2 42 false (fun _ _ => True) b K 0 [some (.ref (b + k0)), some (.int x1), some (.int x2), none, none] [] sg (fX2_stepsAhead k0 x1 x2 sg)
  unfold fX2_stepsAhead
  refine q_iconst (pc := 0) 0 dX2_stepsAhead_0 (by decide) ?_
  refine q_istore_n (pc := 1) dX2_stepsAhead_1 (by decide) ?_
  refine q_iconst (pc := 2) 0 dX2_stepsAhead_2 (by decide) ?_
  refine q_istore (pc := 3) dX2_stepsAhead_3 (by decide) ?_
  exact tX2_stepsAhead_5 hK h0 qfu x1 x2 0 0 sg
-- LineSearch$Plan.farthest(II)I
def fX2_farthest_5 (k0 : Nat) : Nat → Int32 → Int32 → Int32 → Int32 → qSt → qR
  | 0, _, _, _, _, _ => none
  | n + 1, x1, x2, x3, x4, sg =>
    if x2 ≤ x4 then
      some (x3, sg)
    else
    if (sg k0 2) ≤ x4 then
      some (x3, sg)
    else
    qb (fX2_rayOf k0 x4 sg) fun r1 s2 =>
    if r1 = x1 then
      qb (fX2_stepsOf k0 x4 s2) fun r3 s4 =>
      fX2_farthest_5 k0 n x1 x2 ((if x3 < r3 then r3 else x3)) ((x4 + 1)) s4
    else
    fX2_farthest_5 k0 n x1 x2 x3 ((x4 + 1)) s2
set_option maxRecDepth 20000 in
set_option maxHeartbeats 4000000 in
theorem tX2_farthest_5 {b : Nat} {K : List Nat} (hK : qOk K) {k0 : Nat} (h0 : qIn K k0 2) : ∀ (n : Nat) (x1 x2 x3 x4 : Int32) (sg : qSt), qJ RX2 cX2_farthest 5 2 42 false (fun _ _ => True) b K 5 [some (.ref (b + k0)), some (.int x1), some (.int x2), some (.int x3), some (.int x4)] [] sg (fX2_farthest_5 k0 n x1 x2 x3 x4 sg) := by
  intro n
  induction n with
  | zero => intro x1 x2 x3 x4 sg; exact qJ_none
  | succ n ih =>
    intro x1 x2 x3 x4 sg
    unfold fX2_farthest_5
    refine q_iload (pc := 5) dX2_farthest_5 rfl ?_
    refine q_iload_n (pc := 7) dX2_farthest_7 rfl ?_
    refine q_icmp_ge (pc := 8) 47 dX2_farthest_8 (by decide) ?_ ?_
    · refine q_iload_n (pc := 47) dX2_farthest_47 rfl ?_
      exact q_ireturn (pc := 48) dX2_farthest_48
    refine q_iload (pc := 11) dX2_farthest_11 rfl ?_
    refine q_aload_n (pc := 13) dX2_farthest_13 rfl ?_
    refine qg_2_2 (pc := 14) dX2_farthest_14 h0 lf_X2_18 ?_
    refine q_icmp_ge (pc := 17) 47 dX2_farthest_17 (by decide) ?_ ?_
    · refine q_iload_n (pc := 47) dX2_farthest_47 rfl ?_
      exact q_ireturn (pc := 48) dX2_farthest_48
    refine q_aload_n (pc := 20) dX2_farthest_20 rfl ?_
    refine q_iload (pc := 21) dX2_farthest_21 rfl ?_
    refine q_callVi (pc := 23) [.int x4] dX2_farthest_23 lm_X2_34 yX2_rayOf_ok yX2_rayOf_in h0 (by decide) rfl (sX2_rayOf hK h0 x4 sg) rfl rfl (Nat.le_of_ble_eq_true rfl) ⟨by decide, by decide⟩ (fun r1 s2 => ?_)
    refine q_iload_n (pc := 26) dX2_farthest_26 rfl ?_
    refine q_icmp_ne (pc := 27) 41 dX2_farthest_27 (by decide) ?_ ?_
    · refine q_iinc (pc := 41) 1 dX2_farthest_41 rfl (by decide) (by decide) ?_
      refine q_goto (pc := 44) 5 dX2_farthest_44 (by decide) ?_
      exact ih x1 x2 x3 ((x4 + 1)) s2
    refine q_iload_n (pc := 30) dX2_farthest_30 rfl ?_
    refine q_aload_n (pc := 31) dX2_farthest_31 rfl ?_
    refine q_iload (pc := 32) dX2_farthest_32 rfl ?_
    refine q_callVi (pc := 34) [.int x4] dX2_farthest_34 lm_X2_38 yX2_stepsOf_ok yX2_stepsOf_in h0 (by decide) rfl (sX2_stepsOf hK h0 x4 s2) rfl rfl (Nat.le_of_ble_eq_true rfl) ⟨by decide, by decide⟩ (fun r3 s4 => ?_)
    refine q_mmax (pc := 37) dX2_farthest_37 lm_X2_48 qM_max1 qM_i qM_max3 (by decide) (Nat.le_of_ble_eq_true rfl) ?_
    refine q_istore_n (pc := 40) dX2_farthest_40 (by decide) ?_
    refine q_iinc (pc := 41) 1 dX2_farthest_41 rfl (by decide) (by decide) ?_
    refine q_goto (pc := 44) 5 dX2_farthest_44 (by decide) ?_
    exact ih x1 x2 ((if x3 < r3 then r3 else x3)) ((x4 + 1)) s4
def fX2_farthest (k0 : Nat) (x1 x2 : Int32) (sg : qSt) : qR :=
  fX2_farthest_5 k0 qfu x1 x2 0 0 sg
set_option maxRecDepth 20000 in
set_option maxHeartbeats 4000000 in
theorem sX2_farthest {b : Nat} {K : List Nat} (hK : qOk K) {k0 : Nat} (h0 : qIn K k0 2) (x1 x2 : Int32) (sg : qSt) : qS yX2_farthest cX2_farthest 5 (some .int) 2 42 b K [.ref (b + k0), .int x1, .int x2] sg (fX2_farthest k0 x1 x2 sg) := by
  refine qS_of (own := RX2) rfl (by decide) hK.1 (by simp [Value.category]) (Nat.le_of_ble_eq_true rfl) (fun z _ ty h => by cases h; exact vp_nar_int _) ?_
  show qJ RX2 cX2_farthest 5 2 42 false (fun _ _ => True) b K 0 [some (.ref (b + k0)), some (.int x1), some (.int x2), none, none] [] sg (fX2_farthest k0 x1 x2 sg)
  unfold fX2_farthest
  refine q_iconst (pc := 0) 0 dX2_farthest_0 (by decide) ?_
  refine q_istore_n (pc := 1) dX2_farthest_1 (by decide) ?_
  refine q_iconst (pc := 2) 0 dX2_farthest_2 (by decide) ?_
  refine q_istore (pc := 3) dX2_farthest_3 (by decide) ?_
  exact tX2_farthest_5 hK h0 qfu x1 x2 0 0 sg
end
section
/-! ===== by program (gen.py): the walk of methods ===== -/
-- LineSearch$Outlook.lengthOf(I)I
def fX1_lengthOf (k0 : Nat) (x1 : Int32) (sg : qSt) : qR :=
  if (sg k0 0) ≤ x1 then
    some (0, sg)
  else
  some ((sg k0 1), sg)
set_option maxRecDepth 20000 in
set_option maxHeartbeats 4000000 in
theorem sX1_lengthOf {b : Nat} {K : List Nat} (hK : qOk K) {k0 : Nat} (h0 : qIn K k0 1) (x1 : Int32) (sg : qSt) : qS yX1_lengthOf cX1_lengthOf 2 (some .int) 0 0 b K [.ref (b + k0), .int x1] sg (fX1_lengthOf k0 x1 sg) := by
  refine qS_of (own := RX1) rfl (by decide) hK.1 (by simp [Value.category]) (Nat.le_of_ble_eq_true rfl) (fun z _ ty h => by cases h; exact vp_nar_int _) ?_
  show qJ RX1 cX1_lengthOf 2 0 0 false (fun _ _ => True) b K 0 [some (.ref (b + k0)), some (.int x1)] [] sg (fX1_lengthOf k0 x1 sg)
  unfold fX1_lengthOf
  refine q_iload_n (pc := 0) dX1_lengthOf_0 rfl ?_
  refine q_aload_n (pc := 1) dX1_lengthOf_1 rfl ?_
  refine qg_1_0 (pc := 2) dX1_lengthOf_2 h0 lf_X1_9 ?_
  refine q_icmp_ge (pc := 5) 15 dX1_lengthOf_5 (by decide) ?_ ?_
  · refine q_iconst (pc := 15) 0 dX1_lengthOf_15 (by decide) ?_
    exact q_ireturn (pc := 16) dX1_lengthOf_16
  refine q_aload_n (pc := 8) dX1_lengthOf_8 rfl ?_
  refine qg_1_1 (pc := 9) dX1_lengthOf_9 h0 lf_X1_15 ?_
  refine q_goto (pc := 12) 16 dX1_lengthOf_12 (by decide) ?_
  exact q_ireturn (pc := 16) dX1_lengthOf_16
-- LineSearch$Outlook.through(III)I
def fX1_through (k0 : Nat) (x1 x2 x3 : Int32) (sg : qSt) : qR :=
  qb (fX1_lengthOf k0 x1 sg) fun r1 s2 =>
  if r1 ≤ x2 then
    some ((-10000000), s2)
  else
  qb (fX3_at (k0 + 1) (x2 + 1) s2) fun r3 s4 =>
  qb (fX3_at (k0 + 4) x3 s4) fun r5 s6 =>
  some ((if r5 < r3 then r5 else r3), s6)
set_option maxRecDepth 20000 in
set_option maxHeartbeats 4000000 in
theorem sX1_through {b : Nat} {K : List Nat} (hK : qOk K) {k0 : Nat} (h0 : qIn K k0 1) (x1 x2 x3 : Int32) (sg : qSt) : qS yX1_through cX1_through 4 (some .int) 1 21 b K [.ref (b + k0), .int x1, .int x2, .int x3] sg (fX1_through k0 x1 x2 x3 sg) := by
  refine qS_of (own := RX1) rfl (by decide) hK.1 (by simp [Value.category]) (Nat.le_of_ble_eq_true rfl) (fun z _ ty h => by cases h; exact vp_nar_int _) ?_
  show qJ RX1 cX1_through 4 1 21 false (fun _ _ => True) b K 0 [some (.ref (b + k0)), some (.int x1), some (.int x2), some (.int x3)] [] sg (fX1_through k0 x1 x2 x3 sg)
  unfold fX1_through
  refine q_iload_n (pc := 0) dX1_through_0 rfl ?_
  refine q_aload_n (pc := 1) dX1_through_1 rfl ?_
  refine q_iload_n (pc := 2) dX1_through_2 rfl ?_
  refine q_callVi (pc := 3) [.int x1] dX1_through_3 lm_X1_69 yX1_lengthOf_ok yX1_lengthOf_in h0 (by decide) rfl (sX1_lengthOf hK h0 x1 sg) rfl rfl (Nat.le_of_ble_eq_true rfl) ⟨by decide, by decide⟩ (fun r1 s2 => ?_)
  refine q_icmp_ge (pc := 6) 33 dX1_through_6 (by decide) ?_ ?_
  · refine q_ldc (pc := 33) (-10000000) dX1_through_33 lc_X1_93 ?_
    exact q_ireturn (pc := 35) dX1_through_35
  refine q_aload_n (pc := 9) dX1_through_9 rfl ?_
  refine qg_1_2 (pc := 10) dX1_through_10 h0 lf_X1_18 ?_
  refine q_iload_n (pc := 13) dX1_through_13 rfl ?_
  refine q_iconst (pc := 14) 1 dX1_through_14 (by decide) ?_
  refine q_iadd (pc := 15) dX1_through_15 ?_
  refine q_callSNi (pc := 16) [.ref (b + ((k0 + 1))), .int ((x2 + 1))] dX1_through_16 (by decide) yX3_at_ok yX3_at_in (sX3_at hK (qch_1_2 hK h0) (x2 + 1) s2) rfl rfl (Nat.le_of_ble_eq_true rfl) ⟨by decide, by decide⟩ (fun r3 s4 => ?_)
  refine q_aload_n (pc := 19) dX1_through_19 rfl ?_
  refine qg_1_6 (pc := 20) dX1_through_20 h0 lf_X1_31 ?_
  refine q_iload_n (pc := 23) dX1_through_23 rfl ?_
  refine q_callSNi (pc := 24) [.ref (b + ((k0 + 4))), .int x3] dX1_through_24 (by decide) yX3_at_ok yX3_at_in (sX3_at hK (qch_1_6 hK h0) x3 s4) rfl rfl (Nat.le_of_ble_eq_true rfl) ⟨by decide, by decide⟩ (fun r5 s6 => ?_)
  refine q_mmin (pc := 27) dX1_through_27 lm_X1_90 qM_min1 qM_i qM_min3 (by decide) (Nat.le_of_ble_eq_true rfl) ?_
  refine q_goto (pc := 30) 35 dX1_through_30 (by decide) ?_
  exact q_ireturn (pc := 35) dX1_through_35
-- LineSearch$Outlook.offer(IIII)V
def fX1_offer_44 (w0 : Nat) (y1 y2 : Int32) (sg : qSt) : qR :=
    qb (fX3_put w0 y1 y2 sg) fun r1 s2 =>
    some (0, s2)
set_option maxRecDepth 20000 in
set_option maxHeartbeats 4000000 in
theorem tX1_offer_44 {b : Nat} {K : List Nat} (hK : qOk K) : ∀ (w0 : Nat) (y1 y2 : Int32) (sg : qSt), qIn K w0 5 → qJ RX1 cX1_offer 6 1 22 true (fun _ _ => True) b K 44 [none, none, none, none, none, none] [.int y2, .int y1, .ref (b + w0)] sg (fX1_offer_44 w0 y1 y2 sg) := by
  intro w0 y1 y2 sg g0
  unfold fX1_offer_44
  refine q_callSNv (pc := 44) [.ref (b + w0), .int y1, .int y2] dX1_offer_44 (by decide) yX3_put_ok yX3_put_in (sX3_put hK g0 y1 y2 sg) rfl rfl (Nat.le_of_ble_eq_true rfl) ⟨by decide, by decide⟩ (fun r1 s2 => ?_)
  exact q_return (pc := 47) dX1_offer_47
def fX1_offer_14 (k0 : Nat) (x3 x4 y0 : Int32) (sg : qSt) : qR :=
    if y0 = 0 then
      qb (fX3_at (k0 + 4) x3 sg) fun r1 s2 =>
      fX1_offer_44 ((k0 + 4)) x3 ((if x4 < r1 then r1 else x4)) s2
    else
    fX1_offer_44 ((k0 + 4)) x3 x4 sg
set_option maxRecDepth 20000 in
set_option maxHeartbeats 4000000 in
theorem tX1_offer_14 {b : Nat} {K : List Nat} (hK : qOk K) {k0 : Nat} (h0 : qIn K k0 1) : ∀ (x3 x4 y0 : Int32) (sg : qSt), qJ RX1 cX1_offer 6 1 22 true (fun _ _ => True) b K 14 [some (.ref (b + k0)), none, none, some (.int x3), some (.int x4), none] [.int y0] sg (fX1_offer_14 k0 x3 x4 y0 sg) := by
  intro x3 x4 y0 sg
  unfold fX1_offer_14
  refine q_istore (pc := 14) dX1_offer_14 (by decide) ?_
  refine q_aload_n (pc := 16) dX1_offer_16 rfl ?_
  refine qg_1_6 (pc := 17) dX1_offer_17 h0 lf_X1_31 ?_
  refine q_iload_n (pc := 20) dX1_offer_20 rfl ?_
  refine q_iload (pc := 21) dX1_offer_21 rfl ?_
  refine q_if_eq (pc := 23) 31 dX1_offer_23 (by decide) ?_ ?_
  · refine q_iload (pc := 31) dX1_offer_31 rfl ?_
    refine q_aload_n (pc := 33) dX1_offer_33 rfl ?_
    refine qg_1_6 (pc := 34) dX1_offer_34 h0 lf_X1_31 ?_
    refine q_iload_n (pc := 37) dX1_offer_37 rfl ?_
    refine q_callSNi (pc := 38) [.ref (b + ((k0 + 4))), .int x3] dX1_offer_38 (by decide) yX3_at_ok yX3_at_in (sX3_at hK (qch_1_6 hK h0) x3 sg) rfl rfl (Nat.le_of_ble_eq_true rfl) ⟨by decide, by decide⟩ (fun r1 s2 => ?_)
    refine q_mmax (pc := 41) dX1_offer_41 lm_X1_81 qM_max1 qM_i qM_max3 (by decide) (Nat.le_of_ble_eq_true rfl) ?_
    refine qJ_weak [none, none, none, none, none, none] trivial ?_
    exact tX1_offer_44 hK ((k0 + 4)) x3 ((if x4 < r1 then r1 else x4)) s2 (qch_1_6 hK h0)
  refine q_iload (pc := 26) dX1_offer_26 rfl ?_
  refine q_goto (pc := 28) 44 dX1_offer_28 (by decide) ?_
  refine qJ_weak [none, none, none, none, none, none] trivial ?_
  exact tX1_offer_44 hK ((k0 + 4)) x3 x4 sg (qch_1_6 hK h0)
def fX1_offer (k0 : Nat) (x1 x2 x3 x4 : Int32) (sg : qSt) : qR :=
  qb (fX1_lengthOf k0 x1 sg) fun r1 s2 =>
  if x2 = r1 then
    fX1_offer_14 k0 x3 x4 1 s2
  else
  fX1_offer_14 k0 x3 x4 0 s2
set_option maxRecDepth 20000 in
set_option maxHeartbeats 4000000 in
theorem sX1_offer {b : Nat} {K : List Nat} (hK : qOk K) {k0 : Nat} (h0 : qIn K k0 1) (x1 x2 x3 x4 : Int32) (sg : qSt) : qS yX1_offer cX1_offer 6 none 1 22 b K [.ref (b + k0), .int x1, .int x2, .int x3, .int x4] sg (fX1_offer k0 x1 x2 x3 x4 sg) := by
  refine qS_of (own := RX1) rfl (by decide) hK.1 (by simp [Value.category]) (Nat.le_of_ble_eq_true rfl) (fun z _ ty h => by cases h) ?_
  show qJ RX1 cX1_offer 6 1 22 true (fun _ _ => True) b K 0 [some (.ref (b + k0)), some (.int x1), some (.int x2), some (.int x3), some (.int x4), none] [] sg (fX1_offer k0 x1 x2 x3 x4 sg)
  unfold fX1_offer
  refine q_iload_n (pc := 0) dX1_offer_0 rfl ?_
  refine q_aload_n (pc := 1) dX1_offer_1 rfl ?_
  refine q_iload_n (pc := 2) dX1_offer_2 rfl ?_
  refine q_callVi (pc := 3) [.int x1] dX1_offer_3 lm_X1_69 yX1_lengthOf_ok yX1_lengthOf_in h0 (by decide) rfl (sX1_lengthOf hK h0 x1 sg) rfl rfl (Nat.le_of_ble_eq_true rfl) ⟨by decide, by decide⟩ (fun r1 s2 => ?_)
  refine q_icmp_ne (pc := 6) 13 dX1_offer_6 (by decide) ?_ ?_
  · refine q_iconst (pc := 13) 0 dX1_offer_13 (by decide) ?_
    refine qJ_weak [some (.ref (b + k0)), none, none, some (.int x3), some (.int x4), none] ⟨rfl, rfl, rfl, trivial⟩ ?_
    exact tX1_offer_14 hK h0 x3 x4 0 s2
  refine q_iconst (pc := 9) 1 dX1_offer_9 (by decide) ?_
  refine q_goto (pc := 10) 14 dX1_offer_10 (by decide) ?_
  refine qJ_weak [some (.ref (b + k0)), none, none, some (.int x3), some (.int x4), none] ⟨rfl, rfl, rfl, trivial⟩ ?_
  exact tX1_offer_14 hK h0 x3 x4 1 s2
-- LineSearch$Outlook.settle(III)V
def fX1_settle_94 (k0 : Nat) (x1 x2 x3 x4 x5 x6 x7 : Int32) (sg : qSt) : qR :=
    qb (fX3_put (k0 + 3) ((((x1 * 9) + x2) * 9) + x3) x7 sg) fun r1 s2 =>
    qb (fX3_at (k0 + 2) x1 s2) fun r3 s4 =>
    qb (fX3_at (k0 + 2) (9 + x2) s4) fun r5 s6 =>
    qb (fX3_at (k0 + 2) (18 + x3) s6) fun r7 s8 =>
    qb (fX1_offer k0 0 x1 x4 (x7 - (x1 * ((((s2 k0 4) + r3) + r5) + r7))) s8) fun r9 s10 =>
    qb (fX1_offer k0 1 x2 x5 (x7 - (x2 * ((((s2 k0 4) + r3) + r5) + r7))) s10) fun r11 s12 =>
    qb (fX1_offer k0 2 x3 x6 (x7 - (x3 * ((((s2 k0 4) + r3) + r5) + r7))) s12) fun r13 s14 =>
    some (0, s14)
set_option maxRecDepth 20000 in
set_option maxHeartbeats 4000000 in
theorem tX1_settle_94 {b : Nat} {K : List Nat} (hK : qOk K) {k0 : Nat} (h0 : qIn K k0 1) : ∀ (x1 x2 x3 x4 x5 x6 x7 : Int32) (sg : qSt), qJ RX1 cX1_settle 9 2 47 true (fun _ _ => True) b K 94 [some (.ref (b + k0)), some (.int x1), some (.int x2), some (.int x3), some (.int x4), some (.int x5), some (.int x6), some (.int x7), none] [] sg (fX1_settle_94 k0 x1 x2 x3 x4 x5 x6 x7 sg) := by
  intro x1 x2 x3 x4 x5 x6 x7 sg
  unfold fX1_settle_94
  refine q_aload_n (pc := 94) dX1_settle_94 rfl ?_
  refine qg_1_5 (pc := 95) dX1_settle_95 h0 lf_X1_28 ?_
  refine q_iload_n (pc := 98) dX1_settle_98 rfl ?_
  refine q_bipush (pc := 99) 9 dX1_settle_99 (by decide) ?_
  refine q_imul (pc := 101) dX1_settle_101 ?_
  refine q_iload_n (pc := 102) dX1_settle_102 rfl ?_
  refine q_iadd (pc := 103) dX1_settle_103 ?_
  refine q_bipush (pc := 104) 9 dX1_settle_104 (by decide) ?_
  refine q_imul (pc := 106) dX1_settle_106 ?_
  refine q_iload_n (pc := 107) dX1_settle_107 rfl ?_
  refine q_iadd (pc := 108) dX1_settle_108 ?_
  refine q_iload (pc := 109) dX1_settle_109 rfl ?_
  refine q_callSNv (pc := 111) [.ref (b + ((k0 + 3))), .int (((((x1 * 9) + x2) * 9) + x3)), .int x7] dX1_settle_111 (by decide) yX3_put_ok yX3_put_in (sX3_put hK (qch_1_5 hK h0) ((((x1 * 9) + x2) * 9) + x3) x7 sg) rfl rfl (Nat.le_of_ble_eq_true rfl) ⟨by decide, by decide⟩ (fun r1 s2 => ?_)
  refine q_aload_n (pc := 114) dX1_settle_114 rfl ?_
  refine qg_1_4 (pc := 115) dX1_settle_115 h0 lf_X1_25 ?_
  refine q_aload_n (pc := 118) dX1_settle_118 rfl ?_
  refine qg_1_3 (pc := 119) dX1_settle_119 h0 lf_X1_22 ?_
  refine q_iload_n (pc := 122) dX1_settle_122 rfl ?_
  refine q_callSNi (pc := 123) [.ref (b + ((k0 + 2))), .int x1] dX1_settle_123 (by decide) yX3_at_ok yX3_at_in (sX3_at hK (qch_1_3 hK h0) x1 s2) rfl rfl (Nat.le_of_ble_eq_true rfl) ⟨by decide, by decide⟩ (fun r3 s4 => ?_)
  refine q_iadd (pc := 126) dX1_settle_126 ?_
  refine q_aload_n (pc := 127) dX1_settle_127 rfl ?_
  refine qg_1_3 (pc := 128) dX1_settle_128 h0 lf_X1_22 ?_
  refine q_bipush (pc := 131) 9 dX1_settle_131 (by decide) ?_
  refine q_iload_n (pc := 133) dX1_settle_133 rfl ?_
  refine q_iadd (pc := 134) dX1_settle_134 ?_
  refine q_callSNi (pc := 135) [.ref (b + ((k0 + 2))), .int ((9 + x2))] dX1_settle_135 (by decide) yX3_at_ok yX3_at_in (sX3_at hK (qch_1_3 hK h0) (9 + x2) s4) rfl rfl (Nat.le_of_ble_eq_true rfl) ⟨by decide, by decide⟩ (fun r5 s6 => ?_)
  refine q_iadd (pc := 138) dX1_settle_138 ?_
  refine q_aload_n (pc := 139) dX1_settle_139 rfl ?_
  refine qg_1_3 (pc := 140) dX1_settle_140 h0 lf_X1_22 ?_
  refine q_bipush (pc := 143) 18 dX1_settle_143 (by decide) ?_
  refine q_iload_n (pc := 145) dX1_settle_145 rfl ?_
  refine q_iadd (pc := 146) dX1_settle_146 ?_
  refine q_callSNi (pc := 147) [.ref (b + ((k0 + 2))), .int ((18 + x3))] dX1_settle_147 (by decide) yX3_at_ok yX3_at_in (sX3_at hK (qch_1_3 hK h0) (18 + x3) s6) rfl rfl (Nat.le_of_ble_eq_true rfl) ⟨by decide, by decide⟩ (fun r7 s8 => ?_)
  refine q_iadd (pc := 150) dX1_settle_150 ?_
  refine q_istore (pc := 151) dX1_settle_151 (by decide) ?_
  refine q_aload_n (pc := 153) dX1_settle_153 rfl ?_
  refine q_iconst (pc := 154) 0 dX1_settle_154 (by decide) ?_
  refine q_iload_n (pc := 155) dX1_settle_155 rfl ?_
  refine q_iload (pc := 156) dX1_settle_156 rfl ?_
  refine q_iload (pc := 158) dX1_settle_158 rfl ?_
  refine q_iload_n (pc := 160) dX1_settle_160 rfl ?_
  refine q_iload (pc := 161) dX1_settle_161 rfl ?_
  refine q_imul (pc := 163) dX1_settle_163 ?_
  refine q_isub (pc := 164) dX1_settle_164 ?_
  refine q_callVv (pc := 165) [.int 0, .int x1, .int x4, .int ((x7 - (x1 * ((((s2 k0 4) + r3) + r5) + r7))))] dX1_settle_165 lm_X1_86 yX1_offer_ok yX1_offer_in h0 (by decide) rfl (sX1_offer hK h0 0 x1 x4 (x7 - (x1 * ((((s2 k0 4) + r3) + r5) + r7))) s8) rfl rfl (Nat.le_of_ble_eq_true rfl) ⟨by decide, by decide⟩ (fun r9 s10 => ?_)
  refine q_aload_n (pc := 168) dX1_settle_168 rfl ?_
  refine q_iconst (pc := 169) 1 dX1_settle_169 (by decide) ?_
  refine q_iload_n (pc := 170) dX1_settle_170 rfl ?_
  refine q_iload (pc := 171) dX1_settle_171 rfl ?_
  refine q_iload (pc := 173) dX1_settle_173 rfl ?_
  refine q_iload_n (pc := 175) dX1_settle_175 rfl ?_
  refine q_iload (pc := 176) dX1_settle_176 rfl ?_
  refine q_imul (pc := 178) dX1_settle_178 ?_
  refine q_isub (pc := 179) dX1_settle_179 ?_
  refine q_callVv (pc := 180) [.int 1, .int x2, .int x5, .int ((x7 - (x2 * ((((s2 k0 4) + r3) + r5) + r7))))] dX1_settle_180 lm_X1_86 yX1_offer_ok yX1_offer_in h0 (by decide) rfl (sX1_offer hK h0 1 x2 x5 (x7 - (x2 * ((((s2 k0 4) + r3) + r5) + r7))) s10) rfl rfl (Nat.le_of_ble_eq_true rfl) ⟨by decide, by decide⟩ (fun r11 s12 => ?_)
  refine q_aload_n (pc := 183) dX1_settle_183 rfl ?_
  refine q_iconst (pc := 184) 2 dX1_settle_184 (by decide) ?_
  refine q_iload_n (pc := 185) dX1_settle_185 rfl ?_
  refine q_iload (pc := 186) dX1_settle_186 rfl ?_
  refine q_iload (pc := 188) dX1_settle_188 rfl ?_
  refine q_iload_n (pc := 190) dX1_settle_190 rfl ?_
  refine q_iload (pc := 191) dX1_settle_191 rfl ?_
  refine q_imul (pc := 193) dX1_settle_193 ?_
  refine q_isub (pc := 194) dX1_settle_194 ?_
  refine q_callVv (pc := 195) [.int 2, .int x3, .int x6, .int ((x7 - (x3 * ((((s2 k0 4) + r3) + r5) + r7))))] dX1_settle_195 lm_X1_86 yX1_offer_ok yX1_offer_in h0 (by decide) rfl (sX1_offer hK h0 2 x3 x6 (x7 - (x3 * ((((s2 k0 4) + r3) + r5) + r7))) s12) rfl rfl (Nat.le_of_ble_eq_true rfl) ⟨by decide, by decide⟩ (fun r13 s14 => ?_)
  exact q_return (pc := 198) dX1_settle_198
def fX1_settle (k0 : Nat) (x1 x2 x3 : Int32) (sg : qSt) : qR :=
  qb (fX1_through k0 0 x1 ((x2 * 9) + x3) sg) fun r1 s2 =>
  qb (fX1_through k0 1 x2 ((81 + (x1 * 9)) + x3) s2) fun r3 s4 =>
  qb (fX1_through k0 2 x3 ((162 + (x1 * 9)) + x2) s4) fun r5 s6 =>
  qb (fX1_lengthOf k0 0 s6) fun r7 s8 =>
  if x1 = r7 then
    qb (fX1_lengthOf k0 1 s8) fun r9 s10 =>
    if x2 = r9 then
      qb (fX1_lengthOf k0 2 s10) fun r11 s12 =>
      if x3 = r11 then
        fX1_settle_94 k0 x1 x2 x3 (((x2 * 9) + x3)) (((81 + (x1 * 9)) + x3)) (((162 + (x1 * 9)) + x2)) 10000000 s12
      else
      fX1_settle_94 k0 x1 x2 x3 (((x2 * 9) + x3)) (((81 + (x1 * 9)) + x3)) (((162 + (x1 * 9)) + x2)) ((if r1 < (if r3 < r5 then r5 else r3) then (if r3 < r5 then r5 else r3) else r1)) s12
    else
    fX1_settle_94 k0 x1 x2 x3 (((x2 * 9) + x3)) (((81 + (x1 * 9)) + x3)) (((162 + (x1 * 9)) + x2)) ((if r1 < (if r3 < r5 then r5 else r3) then (if r3 < r5 then r5 else r3) else r1)) s10
  else
  fX1_settle_94 k0 x1 x2 x3 (((x2 * 9) + x3)) (((81 + (x1 * 9)) + x3)) (((162 + (x1 * 9)) + x2)) ((if r1 < (if r3 < r5 then r5 else r3) then (if r3 < r5 then r5 else r3) else r1)) s8
set_option maxRecDepth 20000 in
set_option maxHeartbeats 4000000 in
theorem sX1_settle {b : Nat} {K : List Nat} (hK : qOk K) {k0 : Nat} (h0 : qIn K k0 1) (x1 x2 x3 : Int32) (sg : qSt) : qS yX1_settle cX1_settle 9 none 2 47 b K [.ref (b + k0), .int x1, .int x2, .int x3] sg (fX1_settle k0 x1 x2 x3 sg) := by
  refine qS_of (own := RX1) rfl (by decide) hK.1 (by simp [Value.category]) (Nat.le_of_ble_eq_true rfl) (fun z _ ty h => by cases h) ?_
  show qJ RX1 cX1_settle 9 2 47 true (fun _ _ => True) b K 0 [some (.ref (b + k0)), some (.int x1), some (.int x2), some (.int x3), none, none, none, none, none] [] sg (fX1_settle k0 x1 x2 x3 sg)
  unfold fX1_settle
  refine q_iload_n (pc := 0) dX1_settle_0 rfl ?_
  refine q_bipush (pc := 1) 9 dX1_settle_1 (by decide) ?_
  refine q_imul (pc := 3) dX1_settle_3 ?_
  refine q_iload_n (pc := 4) dX1_settle_4 rfl ?_
  refine q_iadd (pc := 5) dX1_settle_5 ?_
  refine q_istore (pc := 6) dX1_settle_6 (by decide) ?_
  refine q_bipush (pc := 8) 81 dX1_settle_8 (by decide) ?_
  refine q_iload_n (pc := 10) dX1_settle_10 rfl ?_
  refine q_bipush (pc := 11) 9 dX1_settle_11 (by decide) ?_
  refine q_imul (pc := 13) dX1_settle_13 ?_
  refine q_iadd (pc := 14) dX1_settle_14 ?_
  refine q_iload_n (pc := 15) dX1_settle_15 rfl ?_
  refine q_iadd (pc := 16) dX1_settle_16 ?_
  refine q_istore (pc := 17) dX1_settle_17 (by decide) ?_
  refine q_sipush (pc := 19) 162 dX1_settle_19 (by decide) ?_
  refine q_iload_n (pc := 22) dX1_settle_22 rfl ?_
  refine q_bipush (pc := 23) 9 dX1_settle_23 (by decide) ?_
  refine q_imul (pc := 25) dX1_settle_25 ?_
  refine q_iadd (pc := 26) dX1_settle_26 ?_
  refine q_iload_n (pc := 27) dX1_settle_27 rfl ?_
  refine q_iadd (pc := 28) dX1_settle_28 ?_
  refine q_istore (pc := 29) dX1_settle_29 (by decide) ?_
  refine q_aload_n (pc := 31) dX1_settle_31 rfl ?_
  refine q_iconst (pc := 32) 0 dX1_settle_32 (by decide) ?_
  refine q_iload_n (pc := 33) dX1_settle_33 rfl ?_
  refine q_iload (pc := 34) dX1_settle_34 rfl ?_
  refine q_callVi (pc := 36) [.int 0, .int x1, .int (((x2 * 9) + x3))] dX1_settle_36 lm_X1_77 yX1_through_ok yX1_through_in h0 (by decide) rfl (sX1_through hK h0 0 x1 ((x2 * 9) + x3) sg) rfl rfl (Nat.le_of_ble_eq_true rfl) ⟨by decide, by decide⟩ (fun r1 s2 => ?_)
  refine q_aload_n (pc := 39) dX1_settle_39 rfl ?_
  refine q_iconst (pc := 40) 1 dX1_settle_40 (by decide) ?_
  refine q_iload_n (pc := 41) dX1_settle_41 rfl ?_
  refine q_iload (pc := 42) dX1_settle_42 rfl ?_
  refine q_callVi (pc := 44) [.int 1, .int x2, .int (((81 + (x1 * 9)) + x3))] dX1_settle_44 lm_X1_77 yX1_through_ok yX1_through_in h0 (by decide) rfl (sX1_through hK h0 1 x2 ((81 + (x1 * 9)) + x3) s2) rfl rfl (Nat.le_of_ble_eq_true rfl) ⟨by decide, by decide⟩ (fun r3 s4 => ?_)
  refine q_aload_n (pc := 47) dX1_settle_47 rfl ?_
  refine q_iconst (pc := 48) 2 dX1_settle_48 (by decide) ?_
  refine q_iload_n (pc := 49) dX1_settle_49 rfl ?_
  refine q_iload (pc := 50) dX1_settle_50 rfl ?_
  refine q_callVi (pc := 52) [.int 2, .int x3, .int (((162 + (x1 * 9)) + x2))] dX1_settle_52 lm_X1_77 yX1_through_ok yX1_through_in h0 (by decide) rfl (sX1_through hK h0 2 x3 ((162 + (x1 * 9)) + x2) s4) rfl rfl (Nat.le_of_ble_eq_true rfl) ⟨by decide, by decide⟩ (fun r5 s6 => ?_)
  refine q_mmax (pc := 55) dX1_settle_55 lm_X1_81 qM_max1 qM_i qM_max3 (by decide) (Nat.le_of_ble_eq_true rfl) ?_
  refine q_mmax (pc := 58) dX1_settle_58 lm_X1_81 qM_max1 qM_i qM_max3 (by decide) (Nat.le_of_ble_eq_true rfl) ?_
  refine q_istore (pc := 61) dX1_settle_61 (by decide) ?_
  refine q_iload_n (pc := 63) dX1_settle_63 rfl ?_
  refine q_aload_n (pc := 64) dX1_settle_64 rfl ?_
  refine q_iconst (pc := 65) 0 dX1_settle_65 (by decide) ?_
  refine q_callVi (pc := 66) [.int 0] dX1_settle_66 lm_X1_69 yX1_lengthOf_ok yX1_lengthOf_in h0 (by decide) rfl (sX1_lengthOf hK h0 0 s6) rfl rfl (Nat.le_of_ble_eq_true rfl) ⟨by decide, by decide⟩ (fun r7 s8 => ?_)
  refine q_icmp_ne (pc := 69) 94 dX1_settle_69 (by decide) ?_ ?_
  · exact tX1_settle_94 hK h0 x1 x2 x3 (((x2 * 9) + x3)) (((81 + (x1 * 9)) + x3)) (((162 + (x1 * 9)) + x2)) ((if r1 < (if r3 < r5 then r5 else r3) then (if r3 < r5 then r5 else r3) else r1)) s8
  refine q_iload_n (pc := 72) dX1_settle_72 rfl ?_
  refine q_aload_n (pc := 73) dX1_settle_73 rfl ?_
  refine q_iconst (pc := 74) 1 dX1_settle_74 (by decide) ?_
  refine q_callVi (pc := 75) [.int 1] dX1_settle_75 lm_X1_69 yX1_lengthOf_ok yX1_lengthOf_in h0 (by decide) rfl (sX1_lengthOf hK h0 1 s8) rfl rfl (Nat.le_of_ble_eq_true rfl) ⟨by decide, by decide⟩ (fun r9 s10 => ?_)
  refine q_icmp_ne (pc := 78) 94 dX1_settle_78 (by decide) ?_ ?_
  · exact tX1_settle_94 hK h0 x1 x2 x3 (((x2 * 9) + x3)) (((81 + (x1 * 9)) + x3)) (((162 + (x1 * 9)) + x2)) ((if r1 < (if r3 < r5 then r5 else r3) then (if r3 < r5 then r5 else r3) else r1)) s10
  refine q_iload_n (pc := 81) dX1_settle_81 rfl ?_
  refine q_aload_n (pc := 82) dX1_settle_82 rfl ?_
  refine q_iconst (pc := 83) 2 dX1_settle_83 (by decide) ?_
  refine q_callVi (pc := 84) [.int 2] dX1_settle_84 lm_X1_69 yX1_lengthOf_ok yX1_lengthOf_in h0 (by decide) rfl (sX1_lengthOf hK h0 2 s10) rfl rfl (Nat.le_of_ble_eq_true rfl) ⟨by decide, by decide⟩ (fun r11 s12 => ?_)
  refine q_icmp_ne (pc := 87) 94 dX1_settle_87 (by decide) ?_ ?_
  · exact tX1_settle_94 hK h0 x1 x2 x3 (((x2 * 9) + x3)) (((81 + (x1 * 9)) + x3)) (((162 + (x1 * 9)) + x2)) ((if r1 < (if r3 < r5 then r5 else r3) then (if r3 < r5 then r5 else r3) else r1)) s12
  refine q_ldc (pc := 90) 10000000 dX1_settle_90 lc_X1_49 ?_
  refine q_istore (pc := 92) dX1_settle_92 (by decide) ?_
  exact tX1_settle_94 hK h0 x1 x2 x3 (((x2 * 9) + x3)) (((81 + (x1 * 9)) + x3)) (((162 + (x1 * 9)) + x2)) 10000000 s12
-- LineSearch$Outlook.sweep()V
def fX1_sweep_26 (k0 : Nat) (c16 : Int32 → Int32 → qSt → qR) : Nat → Int32 → Int32 → Int32 → qSt → qR
  | 0, _, _, _, _ => none
  | n + 1, x1, x2, x3, sg =>
    if x3 < 0 then
      c16 x1 ((x2 + (-1))) sg
    else
    qb (fX1_settle k0 x1 x2 x3 sg) fun r1 s2 =>
    fX1_sweep_26 k0 c16 n x1 x2 ((x3 + (-1))) s2
set_option maxRecDepth 20000 in
set_option maxHeartbeats 4000000 in
theorem tX1_sweep_26 {b : Nat} {K : List Nat} (hK : qOk K) {k0 : Nat} {c16 : Int32 → Int32 → qSt → qR} (h0 : qIn K k0 1) (hc16 : ∀ (x1 x2 : Int32) (sg : qSt), qJ RX1 cX1_sweep 4 3 75 true (fun _ _ => True) b K 16 [some (.ref (b + k0)), some (.int x1), some (.int x2), none] [] sg (c16 x1 x2 sg)) : ∀ (n : Nat) (x1 x2 x3 : Int32) (sg : qSt), qJ RX1 cX1_sweep 4 3 75 true (fun _ _ => True) b K 26 [some (.ref (b + k0)), some (.int x1), some (.int x2), some (.int x3)] [] sg (fX1_sweep_26 k0 c16 n x1 x2 x3 sg) := by
  intro n
  induction n with
  | zero => intro x1 x2 x3 sg; exact qJ_none
  | succ n ih =>
    intro x1 x2 x3 sg
    unfold fX1_sweep_26
    refine q_iload_n (pc := 26) dX1_sweep_26 rfl ?_
    refine q_if_lt (pc := 27) 43 dX1_sweep_27 (by decide) ?_ ?_
    · refine q_iinc (pc := 43) (-1) dX1_sweep_43 rfl (by decide) (by decide) ?_
      refine q_goto (pc := 46) 16 dX1_sweep_46 (by decide) ?_
      refine qJ_weak [some (.ref (b + k0)), some (.int x1), some (.int ((x2 + (-1)))), none] ⟨rfl, rfl, rfl, trivial⟩ ?_
      exact hc16 x1 ((x2 + (-1))) sg
    refine q_aload_n (pc := 30) dX1_sweep_30 rfl ?_
    refine q_iload_n (pc := 31) dX1_sweep_31 rfl ?_
    refine q_iload_n (pc := 32) dX1_sweep_32 rfl ?_
    refine q_iload_n (pc := 33) dX1_sweep_33 rfl ?_
    refine q_callVv (pc := 34) [.int x1, .int x2, .int x3] dX1_sweep_34 lm_X1_73 yX1_settle_ok yX1_settle_in h0 (by decide) rfl (sX1_settle hK h0 x1 x2 x3 sg) rfl rfl (Nat.le_of_ble_eq_true rfl) ⟨by decide, by decide⟩ (fun r1 s2 => ?_)
    refine q_iinc (pc := 37) (-1) dX1_sweep_37 rfl (by decide) (by decide) ?_
    refine q_goto (pc := 40) 26 dX1_sweep_40 (by decide) ?_
    exact ih x1 x2 ((x3 + (-1))) s2
def fX1_sweep_16 (k0 : Nat) (c6 : Int32 → qSt → qR) : Nat → Int32 → Int32 → qSt → qR
  | 0, _, _, _ => none
  | n + 1, x1, x2, sg =>
    if x2 < 0 then
      c6 ((x1 + (-1))) sg
    else
    qb (fX1_lengthOf k0 2 sg) fun r1 s2 =>
    fX1_sweep_26 k0 (fun z1 z2 sg => fX1_sweep_16 k0 c6 n z1 z2 sg) qfu x1 x2 r1 s2
set_option maxRecDepth 20000 in
set_option maxHeartbeats 4000000 in
theorem tX1_sweep_16 {b : Nat} {K : List Nat} (hK : qOk K) {k0 : Nat} {c6 : Int32 → qSt → qR} (h0 : qIn K k0 1) (hc6 : ∀ (x1 : Int32) (sg : qSt), qJ RX1 cX1_sweep 4 3 75 true (fun _ _ => True) b K 6 [some (.ref (b + k0)), some (.int x1), none, none] [] sg (c6 x1 sg)) : ∀ (n : Nat) (x1 x2 : Int32) (sg : qSt), qJ RX1 cX1_sweep 4 3 75 true (fun _ _ => True) b K 16 [some (.ref (b + k0)), some (.int x1), some (.int x2), none] [] sg (fX1_sweep_16 k0 c6 n x1 x2 sg) := by
  intro n
  induction n with
  | zero => intro x1 x2 sg; exact qJ_none
  | succ n ih =>
    intro x1 x2 sg
    unfold fX1_sweep_16
    refine q_iload_n (pc := 16) dX1_sweep_16 rfl ?_
    refine q_if_lt (pc := 17) 49 dX1_sweep_17 (by decide) ?_ ?_
    · refine q_iinc (pc := 49) (-1) dX1_sweep_49 rfl (by decide) (by decide) ?_
      refine q_goto (pc := 52) 6 dX1_sweep_52 (by decide) ?_
      refine qJ_weak [some (.ref (b + k0)), some (.int ((x1 + (-1)))), none, none] ⟨rfl, rfl, trivial⟩ ?_
      exact hc6 ((x1 + (-1))) sg
    refine q_aload_n (pc := 20) dX1_sweep_20 rfl ?_
    refine q_iconst (pc := 21) 2 dX1_sweep_21 (by decide) ?_
    refine q_callVi (pc := 22) [.int 2] dX1_sweep_22 lm_X1_69 yX1_lengthOf_ok yX1_lengthOf_in h0 (by decide) rfl (sX1_lengthOf hK h0 2 sg) rfl rfl (Nat.le_of_ble_eq_true rfl) ⟨by decide, by decide⟩ (fun r1 s2 => ?_)
    refine q_istore_n (pc := 25) dX1_sweep_25 (by decide) ?_
    exact tX1_sweep_26 hK h0 (fun z1 z2 sg => ih z1 z2 sg) qfu x1 x2 r1 s2
def fX1_sweep_6 (k0 : Nat) : Nat → Int32 → qSt → qR
  | 0, _, _ => none
  | n + 1, x1, sg =>
    if x1 < 0 then
      some (0, sg)
    else
    qb (fX1_lengthOf k0 1 sg) fun r1 s2 =>
    fX1_sweep_16 k0 (fun z1 sg => fX1_sweep_6 k0 n z1 sg) qfu x1 r1 s2
set_option maxRecDepth 20000 in
set_option maxHeartbeats 4000000 in
theorem tX1_sweep_6 {b : Nat} {K : List Nat} (hK : qOk K) {k0 : Nat} (h0 : qIn K k0 1) : ∀ (n : Nat) (x1 : Int32) (sg : qSt), qJ RX1 cX1_sweep 4 3 75 true (fun _ _ => True) b K 6 [some (.ref (b + k0)), some (.int x1), none, none] [] sg (fX1_sweep_6 k0 n x1 sg) := by
  intro n
  induction n with
  | zero => intro x1 sg; exact qJ_none
  | succ n ih =>
    intro x1 sg
    unfold fX1_sweep_6
    refine q_iload_n (pc := 6) dX1_sweep_6 rfl ?_
    refine q_if_lt (pc := 7) 55 dX1_sweep_7 (by decide) ?_ ?_
    · exact q_return (pc := 55) dX1_sweep_55
    refine q_aload_n (pc := 10) dX1_sweep_10 rfl ?_
    refine q_iconst (pc := 11) 1 dX1_sweep_11 (by decide) ?_
    refine q_callVi (pc := 12) [.int 1] dX1_sweep_12 lm_X1_69 yX1_lengthOf_ok yX1_lengthOf_in h0 (by decide) rfl (sX1_lengthOf hK h0 1 sg) rfl rfl (Nat.le_of_ble_eq_true rfl) ⟨by decide, by decide⟩ (fun r1 s2 => ?_)
    refine q_istore_n (pc := 15) dX1_sweep_15 (by decide) ?_
    exact tX1_sweep_16 hK h0 (fun z1 sg => ih z1 sg) qfu x1 r1 s2
def fX1_sweep (k0 : Nat) (sg : qSt) : qR :=
  qb (fX1_lengthOf k0 0 sg) fun r1 s2 =>
  fX1_sweep_6 k0 qfu r1 s2
set_option maxRecDepth 20000 in
set_option maxHeartbeats 4000000 in
theorem sX1_sweep {b : Nat} {K : List Nat} (hK : qOk K) {k0 : Nat} (h0 : qIn K k0 1) (sg : qSt) : qS yX1_sweep cX1_sweep 4 none 3 75 b K [.ref (b + k0)] sg (fX1_sweep k0 sg) := by
  refine qS_of (own := RX1) rfl (by decide) hK.1 (by simp [Value.category]) (Nat.le_of_ble_eq_true rfl) (fun z _ ty h => by cases h) ?_
  show qJ RX1 cX1_sweep 4 3 75 true (fun _ _ => True) b K 0 [some (.ref (b + k0)), none, none, none] [] sg (fX1_sweep k0 sg)
  unfold fX1_sweep
  refine q_aload_n (pc := 0) dX1_sweep_0 rfl ?_
  refine q_iconst (pc := 1) 0 dX1_sweep_1 (by decide) ?_
  refine q_callVi (pc := 2) [.int 0] dX1_sweep_2 lm_X1_69 yX1_lengthOf_ok yX1_lengthOf_in h0 (by decide) rfl (sX1_lengthOf hK h0 0 sg) rfl rfl (Nat.le_of_ble_eq_true rfl) ⟨by decide, by decide⟩ (fun r1 s2 => ?_)
  refine q_istore_n (pc := 5) dX1_sweep_5 (by decide) ?_
  exact tX1_sweep_6 hK h0 qfu r1 s2
-- LineSearch$Outlook.costOf(II)I
def fX1_costOf_43 (k0 : Nat) (c8 : Int32 → Int32 → Int32 → Int32 → qSt → qR) (w1 : Nat) (x1 x2 x4 y0 y2 y3 : Int32) (sg : qSt) : qR :=
    qb (fX3_at w1 (y2 + y3) sg) fun r1 s2 =>
    c8 x1 x2 ((y0 + r1)) ((x4 + 1)) s2
set_option maxRecDepth 20000 in
set_option maxHeartbeats 4000000 in
theorem tX1_costOf_43 {b : Nat} {K : List Nat} (hK : qOk K) {k0 : Nat} {c8 : Int32 → Int32 → Int32 → Int32 → qSt → qR} (h0 : qIn K k0 1) (hc8 : ∀ (x1 x2 x3 x4 : Int32) (sg : qSt), qJ RX1 cX1_costOf 5 1 21 false (fun _ _ => True) b K 8 [some (.ref (b + k0)), some (.int x1), some (.int x2), some (.int x3), some (.int x4)] [] sg (c8 x1 x2 x3 x4 sg)) : ∀ (w1 : Nat) (x1 x2 x4 y0 y2 y3 : Int32) (sg : qSt), qIn K w1 5 → qJ RX1 cX1_costOf 5 1 21 false (fun _ _ => True) b K 43 [some (.ref (b + k0)), some (.int x1), some (.int x2), none, some (.int x4)] [.int y3, .int y2, .ref (b + w1), .int y0] sg (fX1_costOf_43 k0 c8 w1 x1 x2 x4 y0 y2 y3 sg) := by
  intro w1 x1 x2 x4 y0 y2 y3 sg g1
  unfold fX1_costOf_43
  refine q_iadd (pc := 43) dX1_costOf_43 ?_
  refine q_callSNi (pc := 44) [.ref (b + w1), .int ((y2 + y3))] dX1_costOf_44 (by decide) yX3_at_ok yX3_at_in (sX3_at hK g1 (y2 + y3) sg) rfl rfl (Nat.le_of_ble_eq_true rfl) ⟨by decide, by decide⟩ (fun r1 s2 => ?_)
  refine q_iadd (pc := 47) dX1_costOf_47 ?_
  refine q_istore_n (pc := 48) dX1_costOf_48 (by decide) ?_
  refine q_iinc (pc := 49) 1 dX1_costOf_49 rfl (by decide) (by decide) ?_
  refine q_goto (pc := 52) 8 dX1_costOf_52 (by decide) ?_
  exact hc8 x1 x2 ((y0 + r1)) ((x4 + 1)) s2
def fX1_costOf_8 (k0 : Nat) : Nat → Int32 → Int32 → Int32 → Int32 → qSt → qR
  | 0, _, _, _, _, _ => none
  | n + 1, x1, x2, x3, x4, sg =>
    if 3 ≤ x4 then
      some ((x3 * x2), sg)
    else
    if x4 = x1 then
      fX1_costOf_43 k0 (fun z1 z2 z3 z4 sg => fX1_costOf_8 k0 n z1 z2 z3 z4 sg) ((k0 + 2)) x1 x2 x4 x3 ((x4 * 9)) x2 sg
    else
    qb (fX3_at (k0 + 5) x4 sg) fun r1 s2 =>
    fX1_costOf_43 k0 (fun z1 z2 z3 z4 sg => fX1_costOf_8 k0 n z1 z2 z3 z4 sg) ((k0 + 2)) x1 x2 x4 x3 ((x4 * 9)) r1 s2
set_option maxRecDepth 20000 in
set_option maxHeartbeats 4000000 in
theorem tX1_costOf_8 {b : Nat} {K : List Nat} (hK : qOk K) {k0 : Nat} (h0 : qIn K k0 1) : ∀ (n : Nat) (x1 x2 x3 x4 : Int32) (sg : qSt), qJ RX1 cX1_costOf 5 1 21 false (fun _ _ => True) b K 8 [some (.ref (b + k0)), some (.int x1), some (.int x2), some (.int x3), some (.int x4)] [] sg (fX1_costOf_8 k0 n x1 x2 x3 x4 sg) := by
  intro n
  induction n with
  | zero => intro x1 x2 x3 x4 sg; exact qJ_none
  | succ n ih =>
    intro x1 x2 x3 x4 sg
    unfold fX1_costOf_8
    refine q_iload (pc := 8) dX1_costOf_8 rfl ?_
    refine q_iconst (pc := 10) 3 dX1_costOf_10 (by decide) ?_
    refine q_icmp_ge (pc := 11) 55 dX1_costOf_11 (by decide) ?_ ?_
    · refine q_iload_n (pc := 55) dX1_costOf_55 rfl ?_
      refine q_iload_n (pc := 56) dX1_costOf_56 rfl ?_
      refine q_imul (pc := 57) dX1_costOf_57 ?_
      exact q_ireturn (pc := 58) dX1_costOf_58
    refine q_iload_n (pc := 14) dX1_costOf_14 rfl ?_
    refine q_aload_n (pc := 15) dX1_costOf_15 rfl ?_
    refine qg_1_3 (pc := 16) dX1_costOf_16 h0 lf_X1_22 ?_
    refine q_iload (pc := 19) dX1_costOf_19 rfl ?_
    refine q_bipush (pc := 21) 9 dX1_costOf_21 (by decide) ?_
    refine q_imul (pc := 23) dX1_costOf_23 ?_
    refine q_iload (pc := 24) dX1_costOf_24 rfl ?_
    refine q_iload_n (pc := 26) dX1_costOf_26 rfl ?_
    refine q_icmp_ne (pc := 27) 34 dX1_costOf_27 (by decide) ?_ ?_
    · refine q_aload_n (pc := 34) dX1_costOf_34 rfl ?_
      refine qg_1_7 (pc := 35) dX1_costOf_35 h0 lf_X1_34 ?_
      refine q_iload (pc := 38) dX1_costOf_38 rfl ?_
      refine q_callSNi (pc := 40) [.ref (b + ((k0 + 5))), .int x4] dX1_costOf_40 (by decide) yX3_at_ok yX3_at_in (sX3_at hK (qch_1_7 hK h0) x4 sg) rfl rfl (Nat.le_of_ble_eq_true rfl) ⟨by decide, by decide⟩ (fun r1 s2 => ?_)
      refine qJ_weak [some (.ref (b + k0)), some (.int x1), some (.int x2), none, some (.int x4)] ⟨rfl, rfl, rfl, rfl, trivial⟩ ?_
      exact tX1_costOf_43 hK h0 (fun z1 z2 z3 z4 sg => ih z1 z2 z3 z4 sg) ((k0 + 2)) x1 x2 x4 x3 ((x4 * 9)) r1 s2 (qch_1_3 hK h0)
    refine q_iload_n (pc := 30) dX1_costOf_30 rfl ?_
    refine q_goto (pc := 31) 43 dX1_costOf_31 (by decide) ?_
    refine qJ_weak [some (.ref (b + k0)), some (.int x1), some (.int x2), none, some (.int x4)] ⟨rfl, rfl, rfl, rfl, trivial⟩ ?_
    exact tX1_costOf_43 hK h0 (fun z1 z2 z3 z4 sg => ih z1 z2 z3 z4 sg) ((k0 + 2)) x1 x2 x4 x3 ((x4 * 9)) x2 sg (qch_1_3 hK h0)
def fX1_costOf (k0 : Nat) (x1 x2 : Int32) (sg : qSt) : qR :=
  fX1_costOf_8 k0 qfu x1 x2 ((sg k0 4)) 0 sg
set_option maxRecDepth 20000 in
set_option maxHeartbeats 4000000 in
theorem sX1_costOf {b : Nat} {K : List Nat} (hK : qOk K) {k0 : Nat} (h0 : qIn K k0 1) (x1 x2 : Int32) (sg : qSt) : qS yX1_costOf cX1_costOf 5 (some .int) 1 21 b K [.ref (b + k0), .int x1, .int x2] sg (fX1_costOf k0 x1 x2 sg) := by
  refine qS_of (own := RX1) rfl (by decide) hK.1 (by simp [Value.category]) (Nat.le_of_ble_eq_true rfl) (fun z _ ty h => by cases h; exact vp_nar_int _) ?_
  show qJ RX1 cX1_costOf 5 1 21 false (fun _ _ => True) b K 0 [some (.ref (b + k0)), some (.int x1), some (.int x2), none, none] [] sg (fX1_costOf k0 x1 x2 sg)
  unfold fX1_costOf
  refine q_aload_n (pc := 0) dX1_costOf_0 rfl ?_
  refine qg_1_4 (pc := 1) dX1_costOf_1 h0 lf_X1_25 ?_
  refine q_istore_n (pc := 4) dX1_costOf_4 (by decide) ?_
  refine q_iconst (pc := 5) 0 dX1_costOf_5 (by decide) ?_
  refine q_istore (pc := 6) dX1_costOf_6 (by decide) ?_
  exact tX1_costOf_8 hK h0 qfu x1 x2 ((sg k0 4)) 0 sg
-- LineSearch$Outlook.stateAfter(II)I
def fX1_stateAfter_5 (k0 : Nat) : Nat → Int32 → Int32 → Int32 → Int32 → qSt → qR
  | 0, _, _, _, _, _ => none
  | n + 1, x1, x2, x3, x4, sg =>
    if 3 ≤ x4 then
      some (x3, sg)
    else
    if x4 = x1 then
      fX1_stateAfter_5 k0 n x1 x2 (((x3 * 9) + x2)) ((x4 + 1)) sg
    else
    qb (fX3_at (k0 + 5) x4 sg) fun r1 s2 =>
    fX1_stateAfter_5 k0 n x1 x2 (((x3 * 9) + r1)) ((x4 + 1)) s2
set_option maxRecDepth 20000 in
set_option maxHeartbeats 4000000 in
theorem tX1_stateAfter_5 {b : Nat} {K : List Nat} (hK : qOk K) {k0 : Nat} (h0 : qIn K k0 1) : ∀ (n : Nat) (x1 x2 x3 x4 : Int32) (sg : qSt), qJ RX1 cX1_stateAfter 5 1 21 false (fun _ _ => True) b K 5 [some (.ref (b + k0)), some (.int x1), some (.int x2), some (.int x3), some (.int x4)] [] sg (fX1_stateAfter_5 k0 n x1 x2 x3 x4 sg) := by
  intro n
  induction n with
  | zero => intro x1 x2 x3 x4 sg; exact qJ_none
  | succ n ih =>
    intro x1 x2 x3 x4 sg
    unfold fX1_stateAfter_5
    refine q_iload (pc := 5) dX1_stateAfter_5 rfl ?_
    refine q_iconst (pc := 7) 3 dX1_stateAfter_7 (by decide) ?_
    refine q_icmp_ge (pc := 8) 42 dX1_stateAfter_8 (by decide) ?_ ?_
    · refine q_iload_n (pc := 42) dX1_stateAfter_42 rfl ?_
      exact q_ireturn (pc := 43) dX1_stateAfter_43
    refine q_iload_n (pc := 11) dX1_stateAfter_11 rfl ?_
    refine q_bipush (pc := 12) 9 dX1_stateAfter_12 (by decide) ?_
    refine q_imul (pc := 14) dX1_stateAfter_14 ?_
    refine q_iload (pc := 15) dX1_stateAfter_15 rfl ?_
    refine q_iload_n (pc := 17) dX1_stateAfter_17 rfl ?_
    refine q_icmp_ne (pc := 18) 25 dX1_stateAfter_18 (by decide) ?_ ?_
    · refine q_aload_n (pc := 25) dX1_stateAfter_25 rfl ?_
      refine qg_1_7 (pc := 26) dX1_stateAfter_26 h0 lf_X1_34 ?_
      refine q_iload (pc := 29) dX1_stateAfter_29 rfl ?_
      refine q_callSNi (pc := 31) [.ref (b + ((k0 + 5))), .int x4] dX1_stateAfter_31 (by decide) yX3_at_ok yX3_at_in (sX3_at hK (qch_1_7 hK h0) x4 sg) rfl rfl (Nat.le_of_ble_eq_true rfl) ⟨by decide, by decide⟩ (fun r1 s2 => ?_)
      refine q_iadd (pc := 34) dX1_stateAfter_34 ?_
      refine q_istore_n (pc := 35) dX1_stateAfter_35 (by decide) ?_
      refine q_iinc (pc := 36) 1 dX1_stateAfter_36 rfl (by decide) (by decide) ?_
      refine q_goto (pc := 39) 5 dX1_stateAfter_39 (by decide) ?_
      exact ih x1 x2 (((x3 * 9) + r1)) ((x4 + 1)) s2
    refine q_iload_n (pc := 21) dX1_stateAfter_21 rfl ?_
    refine q_goto (pc := 22) 34 dX1_stateAfter_22 (by decide) ?_
    refine q_iadd (pc := 34) dX1_stateAfter_34 ?_
    refine q_istore_n (pc := 35) dX1_stateAfter_35 (by decide) ?_
    refine q_iinc (pc := 36) 1 dX1_stateAfter_36 rfl (by decide) (by decide) ?_
    refine q_goto (pc := 39) 5 dX1_stateAfter_39 (by decide) ?_
    exact ih x1 x2 (((x3 * 9) + x2)) ((x4 + 1)) sg
def fX1_stateAfter (k0 : Nat) (x1 x2 : Int32) (sg : qSt) : qR :=
  fX1_stateAfter_5 k0 qfu x1 x2 0 0 sg
set_option maxRecDepth 20000 in
set_option maxHeartbeats 4000000 in
theorem sX1_stateAfter {b : Nat} {K : List Nat} (hK : qOk K) {k0 : Nat} (h0 : qIn K k0 1) (x1 x2 : Int32) (sg : qSt) : qS yX1_stateAfter cX1_stateAfter 5 (some .int) 1 21 b K [.ref (b + k0), .int x1, .int x2] sg (fX1_stateAfter k0 x1 x2 sg) := by
  refine qS_of (own := RX1) rfl (by decide) hK.1 (by simp [Value.category]) (Nat.le_of_ble_eq_true rfl) (fun z _ ty h => by cases h; exact vp_nar_int _) ?_
  show qJ RX1 cX1_stateAfter 5 1 21 false (fun _ _ => True) b K 0 [some (.ref (b + k0)), some (.int x1), some (.int x2), none, none] [] sg (fX1_stateAfter k0 x1 x2 sg)
  unfold fX1_stateAfter
  refine q_iconst (pc := 0) 0 dX1_stateAfter_0 (by decide) ?_
  refine q_istore_n (pc := 1) dX1_stateAfter_1 (by decide) ?_
  refine q_iconst (pc := 2) 0 dX1_stateAfter_2 (by decide) ?_
  refine q_istore (pc := 3) dX1_stateAfter_3 (by decide) ?_
  exact tX1_stateAfter_5 hK h0 qfu x1 x2 0 0 sg
-- LineSearch$Outlook.firstTrip(I)I
def fX1_firstTrip_39 (k0 : Nat) (c2 : Int32 → Int32 → qSt → qR) : Nat → Int32 → Int32 → Int32 → qSt → qR
  | 0, _, _, _, _ => none
  | n + 1, x1, x2, x4, sg =>
    if (sg k0 1) < x4 then
      c2 x1 ((x2 + 1)) sg
    else
    qb (fX1_costOf k0 x2 x4 sg) fun r1 s2 =>
    qb (fX1_stateAfter k0 x2 x4 s2) fun r3 s4 =>
    qb (fX3_at (k0 + 3) r3 s4) fun r5 s6 =>
    if r5 < (x1 + r1) then
      fX1_firstTrip_39 k0 c2 n x1 x2 ((x4 + 1)) s6
    else
    some (((10 * x2) + x4), s6)
set_option maxRecDepth 20000 in
set_option maxHeartbeats 4000000 in
theorem tX1_firstTrip_39 {b : Nat} {K : List Nat} (hK : qOk K) {k0 : Nat} {c2 : Int32 → Int32 → qSt → qR} (h0 : qIn K k0 1) (hc2 : ∀ (x1 x2 : Int32) (sg : qSt), qJ RX1 cX1_firstTrip 5 2 45 false (fun _ _ => True) b K 2 [some (.ref (b + k0)), some (.int x1), some (.int x2), none, none] [] sg (c2 x1 x2 sg)) : ∀ (n : Nat) (x1 x2 x4 : Int32) (sg : qSt), qJ RX1 cX1_firstTrip 5 2 45 false (fun _ _ => True) b K 39 [some (.ref (b + k0)), some (.int x1), some (.int x2), none, some (.int x4)] [] sg (fX1_firstTrip_39 k0 c2 n x1 x2 x4 sg) := by
  intro n
  induction n with
  | zero => intro x1 x2 x4 sg; exact qJ_none
  | succ n ih =>
    intro x1 x2 x4 sg
    unfold fX1_firstTrip_39
    refine q_iload (pc := 39) dX1_firstTrip_39 rfl ?_
    refine q_aload_n (pc := 41) dX1_firstTrip_41 rfl ?_
    refine qg_1_1 (pc := 42) dX1_firstTrip_42 h0 lf_X1_15 ?_
    refine q_icmp_gt (pc := 45) 88 dX1_firstTrip_45 (by decide) ?_ ?_
    · refine q_iinc (pc := 88) 1 dX1_firstTrip_88 rfl (by decide) (by decide) ?_
      refine q_goto (pc := 91) 2 dX1_firstTrip_91 (by decide) ?_
      refine qJ_weak [some (.ref (b + k0)), some (.int x1), some (.int ((x2 + 1))), none, none] ⟨rfl, rfl, rfl, trivial⟩ ?_
      exact hc2 x1 ((x2 + 1)) sg
    refine q_iload_n (pc := 48) dX1_firstTrip_48 rfl ?_
    refine q_aload_n (pc := 49) dX1_firstTrip_49 rfl ?_
    refine q_iload_n (pc := 50) dX1_firstTrip_50 rfl ?_
    refine q_iload (pc := 51) dX1_firstTrip_51 rfl ?_
    refine q_callVi (pc := 53) [.int x2, .int x4] dX1_firstTrip_53 lm_X1_106 yX1_costOf_ok yX1_costOf_in h0 (by decide) rfl (sX1_costOf hK h0 x2 x4 sg) rfl rfl (Nat.le_of_ble_eq_true rfl) ⟨by decide, by decide⟩ (fun r1 s2 => ?_)
    refine q_iadd (pc := 56) dX1_firstTrip_56 ?_
    refine q_aload_n (pc := 57) dX1_firstTrip_57 rfl ?_
    refine qg_1_5 (pc := 58) dX1_firstTrip_58 h0 lf_X1_28 ?_
    refine q_aload_n (pc := 61) dX1_firstTrip_61 rfl ?_
    refine q_iload_n (pc := 62) dX1_firstTrip_62 rfl ?_
    refine q_iload (pc := 63) dX1_firstTrip_63 rfl ?_
    refine q_callVi (pc := 65) [.int x2, .int x4] dX1_firstTrip_65 lm_X1_109 yX1_stateAfter_ok yX1_stateAfter_in h0 (by decide) rfl (sX1_stateAfter hK h0 x2 x4 s2) rfl rfl (Nat.le_of_ble_eq_true rfl) ⟨by decide, by decide⟩ (fun r3 s4 => ?_)
    refine q_callSNi (pc := 68) [.ref (b + ((k0 + 3))), .int r3] dX1_firstTrip_68 (by decide) yX3_at_ok yX3_at_in (sX3_at hK (qch_1_5 hK h0) r3 s4) rfl rfl (Nat.le_of_ble_eq_true rfl) ⟨by decide, by decide⟩ (fun r5 s6 => ?_)
    refine q_icmp_gt (pc := 71) 82 dX1_firstTrip_71 (by decide) ?_ ?_
    · refine q_iinc (pc := 82) 1 dX1_firstTrip_82 rfl (by decide) (by decide) ?_
      refine q_goto (pc := 85) 39 dX1_firstTrip_85 (by decide) ?_
      exact ih x1 x2 ((x4 + 1)) s6
    refine q_bipush (pc := 74) 10 dX1_firstTrip_74 (by decide) ?_
    refine q_iload_n (pc := 76) dX1_firstTrip_76 rfl ?_
    refine q_imul (pc := 77) dX1_firstTrip_77 ?_
    refine q_iload (pc := 78) dX1_firstTrip_78 rfl ?_
    refine q_iadd (pc := 80) dX1_firstTrip_80 ?_
    exact q_ireturn (pc := 81) dX1_firstTrip_81
def fX1_firstTrip_2 (k0 : Nat) : Nat → Int32 → Int32 → qSt → qR
  | 0, _, _, _ => none
  | n + 1, x1, x2, sg =>
    if (sg k0 0) ≤ x2 then
      some ((-6), sg)
    else
    qb (fX3_at (k0 + 5) x2 sg) fun r1 s2 =>
    qb (fX3_at (k0 + 1) (r1 + 1) s2) fun r3 s4 =>
    if x1 ≤ r3 then
      fX1_firstTrip_39 k0 (fun z1 z2 sg => fX1_firstTrip_2 k0 n z1 z2 sg) qfu x1 x2 ((r1 + 1)) s4
    else
    fX1_firstTrip_2 k0 n x1 ((x2 + 1)) s4
set_option maxRecDepth 20000 in
set_option maxHeartbeats 4000000 in
theorem tX1_firstTrip_2 {b : Nat} {K : List Nat} (hK : qOk K) {k0 : Nat} (h0 : qIn K k0 1) : ∀ (n : Nat) (x1 x2 : Int32) (sg : qSt), qJ RX1 cX1_firstTrip 5 2 45 false (fun _ _ => True) b K 2 [some (.ref (b + k0)), some (.int x1), some (.int x2), none, none] [] sg (fX1_firstTrip_2 k0 n x1 x2 sg) := by
  intro n
  induction n with
  | zero => intro x1 x2 sg; exact qJ_none
  | succ n ih =>
    intro x1 x2 sg
    unfold fX1_firstTrip_2
    refine q_iload_n (pc := 2) dX1_firstTrip_2 rfl ?_
    refine q_aload_n (pc := 3) dX1_firstTrip_3 rfl ?_
    refine qg_1_0 (pc := 4) dX1_firstTrip_4 h0 lf_X1_9 ?_
    refine q_icmp_ge (pc := 7) 94 dX1_firstTrip_7 (by decide) ?_ ?_
    · refine q_bipush (pc := 94) (-6) dX1_firstTrip_94 (by decide) ?_
      exact q_ireturn (pc := 96) dX1_firstTrip_96
    refine q_aload_n (pc := 10) dX1_firstTrip_10 rfl ?_
    refine qg_1_7 (pc := 11) dX1_firstTrip_11 h0 lf_X1_34 ?_
    refine q_iload_n (pc := 14) dX1_firstTrip_14 rfl ?_
    refine q_callSNi (pc := 15) [.ref (b + ((k0 + 5))), .int x2] dX1_firstTrip_15 (by decide) yX3_at_ok yX3_at_in (sX3_at hK (qch_1_7 hK h0) x2 sg) rfl rfl (Nat.le_of_ble_eq_true rfl) ⟨by decide, by decide⟩ (fun r1 s2 => ?_)
    refine q_iconst (pc := 18) 1 dX1_firstTrip_18 (by decide) ?_
    refine q_iadd (pc := 19) dX1_firstTrip_19 ?_
    refine q_istore_n (pc := 20) dX1_firstTrip_20 (by decide) ?_
    refine q_iload_n (pc := 21) dX1_firstTrip_21 rfl ?_
    refine q_aload_n (pc := 22) dX1_firstTrip_22 rfl ?_
    refine qg_1_2 (pc := 23) dX1_firstTrip_23 h0 lf_X1_18 ?_
    refine q_iload_n (pc := 26) dX1_firstTrip_26 rfl ?_
    refine q_callSNi (pc := 27) [.ref (b + ((k0 + 1))), .int ((r1 + 1))] dX1_firstTrip_27 (by decide) yX3_at_ok yX3_at_in (sX3_at hK (qch_1_2 hK h0) (r1 + 1) s2) rfl rfl (Nat.le_of_ble_eq_true rfl) ⟨by decide, by decide⟩ (fun r3 s4 => ?_)
    refine q_icmp_le (pc := 30) 36 dX1_firstTrip_30 (by decide) ?_ ?_
    · refine q_iload_n (pc := 36) dX1_firstTrip_36 rfl ?_
      refine q_istore (pc := 37) dX1_firstTrip_37 (by decide) ?_
      refine qJ_weak [some (.ref (b + k0)), some (.int x1), some (.int x2), none, some (.int ((r1 + 1)))] ⟨rfl, rfl, rfl, rfl, trivial⟩ ?_
      exact tX1_firstTrip_39 hK h0 (fun z1 z2 sg => ih z1 z2 sg) qfu x1 x2 ((r1 + 1)) s4
    refine q_goto (pc := 33) 88 dX1_firstTrip_33 (by decide) ?_
    refine q_iinc (pc := 88) 1 dX1_firstTrip_88 rfl (by decide) (by decide) ?_
    refine q_goto (pc := 91) 2 dX1_firstTrip_91 (by decide) ?_
    refine qJ_weak [some (.ref (b + k0)), some (.int x1), some (.int ((x2 + 1))), none, none] ⟨rfl, rfl, rfl, trivial⟩ ?_
    exact ih x1 ((x2 + 1)) s4
def fX1_firstTrip (k0 : Nat) (x1 : Int32) (sg : qSt) : qR :=
  fX1_firstTrip_2 k0 qfu x1 0 sg
set_option maxRecDepth 20000 in
set_option maxHeartbeats 4000000 in
theorem sX1_firstTrip {b : Nat} {K : List Nat} (hK : qOk K) {k0 : Nat} (h0 : qIn K k0 1) (x1 : Int32) (sg : qSt) : qS yX1_firstTrip cX1_firstTrip 5 (some .int) 2 45 b K [.ref (b + k0), .int x1] sg (fX1_firstTrip k0 x1 sg) := by
  refine qS_of (own := RX1) rfl (by decide) hK.1 (by simp [Value.category]) (Nat.le_of_ble_eq_true rfl) (fun z _ ty h => by cases h; exact vp_nar_int _) ?_
  show qJ RX1 cX1_firstTrip 5 2 45 false (fun _ _ => True) b K 0 [some (.ref (b + k0)), some (.int x1), none, none, none] [] sg (fX1_firstTrip k0 x1 sg)
  unfold fX1_firstTrip
  refine q_iconst (pc := 0) 0 dX1_firstTrip_0 (by decide) ?_
  refine q_istore_n (pc := 1) dX1_firstTrip_1 (by decide) ?_
  exact tX1_firstTrip_2 hK h0 qfu x1 0 sg
-- LineSearch$Outlook.write(ILLineSearch$Plan;)V
def fX1_write_17 (k0 k2 : Nat) : Nat → Int32 → Int32 → qSt → qR
  | 0, _, _, _ => none
  | n + 1, x3, x4, sg =>
    if 30 ≤ x4 then
      some (0, sg)
    else
    qb (fX1_firstTrip k0 x3 sg) fun r1 s2 =>
    if r1 = (-6) then
      some (0, s2)
    else
    qb (fX2_add k2 (r1 / 10) (r1 - r1 / 10 * 10) s2) fun r3 s4 =>
    qb (fX1_costOf k0 (r1 / 10) (r1 - r1 / 10 * 10) s4) fun r5 s6 =>
    qb (fX3_put (k0 + 5) (r1 / 10) (r1 - r1 / 10 * 10) s6) fun r7 s8 =>
    fX1_write_17 k0 k2 n ((x3 + r5)) ((x4 + 1)) s8
set_option maxRecDepth 20000 in
set_option maxHeartbeats 4000000 in
theorem tX1_write_17 {b : Nat} {K : List Nat} (hK : qOk K) {k0 k2 : Nat} (h0 : qIn K k0 1) (h2 : qIn K k2 2) : ∀ (n : Nat) (x3 x4 : Int32) (sg : qSt), qJ RX1 cX1_write 8 3 69 true (fun _ _ => True) b K 17 [some (.ref (b + k0)), none, some (.ref (b + k2)), some (.int x3), some (.int x4), none, none, none] [] sg (fX1_write_17 k0 k2 n x3 x4 sg) := by
  intro n
  induction n with
  | zero => intro x3 x4 sg; exact qJ_none
  | succ n ih =>
    intro x3 x4 sg
    unfold fX1_write_17
    refine q_iload (pc := 17) dX1_write_17 rfl ?_
    refine q_bipush (pc := 19) 30 dX1_write_19 (by decide) ?_
    refine q_icmp_ge (pc := 21) 90 dX1_write_21 (by decide) ?_ ?_
    · exact q_return (pc := 90) dX1_write_90
    refine q_aload_n (pc := 24) dX1_write_24 rfl ?_
    refine q_iload_n (pc := 25) dX1_write_25 rfl ?_
    refine q_callVi (pc := 26) [.int x3] dX1_write_26 lm_X1_99 yX1_firstTrip_ok yX1_firstTrip_in h0 (by decide) rfl (sX1_firstTrip hK h0 x3 sg) rfl rfl (Nat.le_of_ble_eq_true rfl) ⟨by decide, by decide⟩ (fun r1 s2 => ?_)
    refine q_istore (pc := 29) dX1_write_29 (by decide) ?_
    refine q_iload (pc := 31) dX1_write_31 rfl ?_
    refine q_bipush (pc := 33) (-6) dX1_write_33 (by decide) ?_
    refine q_icmp_ne (pc := 35) 39 dX1_write_35 (by decide) ?_ ?_
    · refine q_iload (pc := 39) dX1_write_39 rfl ?_
      refine q_bipush (pc := 41) 10 dX1_write_41 (by decide) ?_
      refine q_idivc (pc := 43) dX1_write_43 (by decide) ?_
      refine q_istore (pc := 44) dX1_write_44 (by decide) ?_
      refine q_iload (pc := 46) dX1_write_46 rfl ?_
      refine q_bipush (pc := 48) 10 dX1_write_48 (by decide) ?_
      refine q_iremc (pc := 50) dX1_write_50 (by decide) ?_
      refine q_istore (pc := 51) dX1_write_51 (by decide) ?_
      refine q_aload_n (pc := 53) dX1_write_53 rfl ?_
      refine q_iload (pc := 54) dX1_write_54 rfl ?_
      refine q_iload (pc := 56) dX1_write_56 rfl ?_
      refine q_callVi (pc := 58) [.int ((r1 / 10)), .int ((r1 - r1 / 10 * 10))] dX1_write_58 lm_X1_102 yX2_add_ok yX2_add_in h2 (by decide) rfl (sX2_add hK h2 (r1 / 10) (r1 - r1 / 10 * 10) s2) rfl rfl (Nat.le_of_ble_eq_true rfl) ⟨by decide, by decide⟩ (fun r3 s4 => ?_)
      refine q_pop (pc := 61) dX1_write_61 rfl ?_
      refine q_iload_n (pc := 62) dX1_write_62 rfl ?_
      refine q_aload_n (pc := 63) dX1_write_63 rfl ?_
      refine q_iload (pc := 64) dX1_write_64 rfl ?_
      refine q_iload (pc := 66) dX1_write_66 rfl ?_
      refine q_callVi (pc := 68) [.int ((r1 / 10)), .int ((r1 - r1 / 10 * 10))] dX1_write_68 lm_X1_106 yX1_costOf_ok yX1_costOf_in h0 (by decide) rfl (sX1_costOf hK h0 (r1 / 10) (r1 - r1 / 10 * 10) s4) rfl rfl (Nat.le_of_ble_eq_true rfl) ⟨by decide, by decide⟩ (fun r5 s6 => ?_)
      refine q_iadd (pc := 71) dX1_write_71 ?_
      refine q_istore_n (pc := 72) dX1_write_72 (by decide) ?_
      refine q_aload_n (pc := 73) dX1_write_73 rfl ?_
      refine qg_1_7 (pc := 74) dX1_write_74 h0 lf_X1_34 ?_
      refine q_iload (pc := 77) dX1_write_77 rfl ?_
      refine q_iload (pc := 79) dX1_write_79 rfl ?_
      refine q_callSNv (pc := 81) [.ref (b + ((k0 + 5))), .int ((r1 / 10)), .int ((r1 - r1 / 10 * 10))] dX1_write_81 (by decide) yX3_put_ok yX3_put_in (sX3_put hK (qch_1_7 hK h0) (r1 / 10) (r1 - r1 / 10 * 10) s6) rfl rfl (Nat.le_of_ble_eq_true rfl) ⟨by decide, by decide⟩ (fun r7 s8 => ?_)
      refine q_iinc (pc := 84) 1 dX1_write_84 rfl (by decide) (by decide) ?_
      refine q_goto (pc := 87) 17 dX1_write_87 (by decide) ?_
      refine qJ_weak [some (.ref (b + k0)), none, some (.ref (b + k2)), some (.int ((x3 + r5))), some (.int ((x4 + 1))), none, none, none] ⟨rfl, rfl, rfl, rfl, trivial⟩ ?_
      exact ih ((x3 + r5)) ((x4 + 1)) s8
    exact q_return (pc := 38) dX1_write_38
def fX1_write (k0 k2 : Nat) (x1 : Int32) (sg : qSt) : qR :=
  qb (fX2_empty k2 sg) fun r1 s2 =>
  qb (fX3_putAll (k0 + 5) 0 s2) fun r3 s4 =>
  fX1_write_17 k0 k2 qfu x1 0 s4
set_option maxRecDepth 20000 in
set_option maxHeartbeats 4000000 in
theorem sX1_write {b : Nat} {K : List Nat} (hK : qOk K) {k0 k2 : Nat} (h0 : qIn K k0 1) (h2 : qIn K k2 2) (x1 : Int32) (sg : qSt) : qS yX1_write cX1_write 8 none 3 69 b K [.ref (b + k0), .int x1, .ref (b + k2)] sg (fX1_write k0 k2 x1 sg) := by
  refine qS_of (own := RX1) rfl (by decide) hK.1 (by simp [Value.category]) (Nat.le_of_ble_eq_true rfl) (fun z _ ty h => by cases h) ?_
  show qJ RX1 cX1_write 8 3 69 true (fun _ _ => True) b K 0 [some (.ref (b + k0)), some (.int x1), some (.ref (b + k2)), none, none, none, none, none] [] sg (fX1_write k0 k2 x1 sg)
  unfold fX1_write
  refine q_aload_n (pc := 0) dX1_write_0 rfl ?_
  refine q_callVv (pc := 1) [] dX1_write_1 lm_X1_94 yX2_empty_ok yX2_empty_in h2 (by decide) rfl (sX2_empty hK h2 sg) rfl rfl (Nat.le_of_ble_eq_true rfl) ⟨by decide, by decide⟩ (fun r1 s2 => ?_)
  refine q_aload_n (pc := 4) dX1_write_4 rfl ?_
  refine qg_1_7 (pc := 5) dX1_write_5 h0 lf_X1_34 ?_
  refine q_iconst (pc := 8) 0 dX1_write_8 (by decide) ?_
  refine q_callSNv (pc := 9) [.ref (b + ((k0 + 5))), .int 0] dX1_write_9 (by decide) yX3_putAll_ok yX3_putAll_in (sX3_putAll hK (qch_1_7 hK h0) 0 s2) rfl rfl (Nat.le_of_ble_eq_true rfl) ⟨by decide, by decide⟩ (fun r3 s4 => ?_)
  refine q_iload_n (pc := 12) dX1_write_12 rfl ?_
  refine q_istore_n (pc := 13) dX1_write_13 (by decide) ?_
  refine q_iconst (pc := 14) 0 dX1_write_14 (by decide) ?_
  refine q_istore (pc := 15) dX1_write_15 (by decide) ?_
  refine qJ_weak [some (.ref (b + k0)), none, some (.ref (b + k2)), some (.int x1), some (.int 0), none, none, none] ⟨rfl, rfl, rfl, rfl, trivial⟩ ?_
  exact tX1_write_17 hK h0 h2 qfu x1 0 s4
-- LineSearch$Outlook.planMean(LLineSearch$Ground;LLineSearch$Plan;)I
def fX1_planMean_35 (k0 k1 k2 : Nat) (c23 : Int32 → qSt → qR) : Nat → Int32 → Int32 → Int32 → qSt → qR
  | 0, _, _, _, _ => none
  | n + 1, x3, x4, x5, sg =>
    if x5 < 0 then
      c23 ((x3 + 1)) sg
    else
    qb (fX3_put (k0 + 2) ((x3 * 9) + x5) x4 sg) fun r1 s2 =>
    qb (fX0_shareAt k1 x3 x5 s2) fun r3 s4 =>
    fX1_planMean_35 k0 k1 k2 c23 n x3 ((x4 + r3)) ((x5 + (-1))) s4
set_option maxRecDepth 20000 in
set_option maxHeartbeats 4000000 in
theorem tX1_planMean_35 {b : Nat} {K : List Nat} (hK : qOk K) {k0 k1 k2 : Nat} {c23 : Int32 → qSt → qR} (h0 : qIn K k0 1) (h1 : qIn K k1 0) (h2 : qIn K k2 2) (hc23 : ∀ (x3 : Int32) (sg : qSt), qJ RX1 cX1_planMean 6 4 98 false (fun _ _ => True) b K 23 [some (.ref (b + k0)), some (.ref (b + k1)), some (.ref (b + k2)), some (.int x3), none, none] [] sg (c23 x3 sg)) : ∀ (n : Nat) (x3 x4 x5 : Int32) (sg : qSt), qJ RX1 cX1_planMean 6 4 98 false (fun _ _ => True) b K 35 [some (.ref (b + k0)), some (.ref (b + k1)), some (.ref (b + k2)), some (.int x3), some (.int x4), some (.int x5)] [] sg (fX1_planMean_35 k0 k1 k2 c23 n x3 x4 x5 sg) := by
  intro n
  induction n with
  | zero => intro x3 x4 x5 sg; exact qJ_none
  | succ n ih =>
    intro x3 x4 x5 sg
    unfold fX1_planMean_35
    refine q_iload (pc := 35) dX1_planMean_35 rfl ?_
    refine q_if_lt (pc := 37) 74 dX1_planMean_37 (by decide) ?_ ?_
    · refine q_iinc (pc := 74) 1 dX1_planMean_74 rfl (by decide) (by decide) ?_
      refine q_goto (pc := 77) 23 dX1_planMean_77 (by decide) ?_
      refine qJ_weak [some (.ref (b + k0)), some (.ref (b + k1)), some (.ref (b + k2)), some (.int ((x3 + 1))), none, none] ⟨rfl, rfl, rfl, rfl, trivial⟩ ?_
      exact hc23 ((x3 + 1)) sg
    refine q_aload_n (pc := 40) dX1_planMean_40 rfl ?_
    refine qg_1_3 (pc := 41) dX1_planMean_41 h0 lf_X1_22 ?_
    refine q_iload_n (pc := 44) dX1_planMean_44 rfl ?_
    refine q_bipush (pc := 45) 9 dX1_planMean_45 (by decide) ?_
    refine q_imul (pc := 47) dX1_planMean_47 ?_
    refine q_iload (pc := 48) dX1_planMean_48 rfl ?_
    refine q_iadd (pc := 50) dX1_planMean_50 ?_
    refine q_iload (pc := 51) dX1_planMean_51 rfl ?_
    refine q_callSNv (pc := 53) [.ref (b + ((k0 + 2))), .int (((x3 * 9) + x5)), .int x4] dX1_planMean_53 (by decide) yX3_put_ok yX3_put_in (sX3_put hK (qch_1_3 hK h0) ((x3 * 9) + x5) x4 sg) rfl rfl (Nat.le_of_ble_eq_true rfl) ⟨by decide, by decide⟩ (fun r1 s2 => ?_)
    refine q_iload (pc := 56) dX1_planMean_56 rfl ?_
    refine q_aload_n (pc := 58) dX1_planMean_58 rfl ?_
    refine q_iload_n (pc := 59) dX1_planMean_59 rfl ?_
    refine q_iload (pc := 60) dX1_planMean_60 rfl ?_
    refine q_callVi (pc := 62) [.int x3, .int x5] dX1_planMean_62 lm_X1_45 yX0_shareAt_ok yX0_shareAt_in h1 (by decide) rfl (sX0_shareAt hK h1 x3 x5 s2) rfl rfl (Nat.le_of_ble_eq_true rfl) ⟨by decide, by decide⟩ (fun r3 s4 => ?_)
    refine q_iadd (pc := 65) dX1_planMean_65 ?_
    refine q_istore (pc := 66) dX1_planMean_66 (by decide) ?_
    refine q_iinc (pc := 68) (-1) dX1_planMean_68 rfl (by decide) (by decide) ?_
    refine q_goto (pc := 71) 35 dX1_planMean_71 (by decide) ?_
    exact ih x3 ((x4 + r3)) ((x5 + (-1))) s4
def fX1_planMean_23 (k0 k1 k2 : Nat) : Nat → Int32 → qSt → qR
  | 0, _, _ => none
  | n + 1, x3, sg =>
    if 3 ≤ x3 then
      qb (fX3_putAll (k0 + 1) 10000000 sg) fun r1 s2 =>
      qb (fX1_sweep k0 s2) fun r3 s4 =>
      qb (fX3_at (k0 + 3) 0 s4) fun r5 s6 =>
      qb (fX1_write k0 k2 r5 s6) fun r7 s8 =>
      some ((10000000 - r5), s8)
    else
    fX1_planMean_35 k0 k1 k2 (fun z3 sg => fX1_planMean_23 k0 k1 k2 n z3 sg) qfu x3 0 8 sg
set_option maxRecDepth 20000 in
set_option maxHeartbeats 4000000 in
theorem tX1_planMean_23 {b : Nat} {K : List Nat} (hK : qOk K) {k0 k1 k2 : Nat} (h0 : qIn K k0 1) (h1 : qIn K k1 0) (h2 : qIn K k2 2) : ∀ (n : Nat) (x3 : Int32) (sg : qSt), qJ RX1 cX1_planMean 6 4 98 false (fun _ _ => True) b K 23 [some (.ref (b + k0)), some (.ref (b + k1)), some (.ref (b + k2)), some (.int x3), none, none] [] sg (fX1_planMean_23 k0 k1 k2 n x3 sg) := by
  intro n
  induction n with
  | zero => intro x3 sg; exact qJ_none
  | succ n ih =>
    intro x3 sg
    unfold fX1_planMean_23
    refine q_iload_n (pc := 23) dX1_planMean_23 rfl ?_
    refine q_iconst (pc := 24) 3 dX1_planMean_24 (by decide) ?_
    refine q_icmp_ge (pc := 25) 80 dX1_planMean_25 (by decide) ?_ ?_
    · refine q_aload_n (pc := 80) dX1_planMean_80 rfl ?_
      refine qg_1_2 (pc := 81) dX1_planMean_81 h0 lf_X1_18 ?_
      refine q_ldc (pc := 84) 10000000 dX1_planMean_84 lc_X1_49 ?_
      refine q_callSNv (pc := 86) [.ref (b + ((k0 + 1))), .int 10000000] dX1_planMean_86 (by decide) yX3_putAll_ok yX3_putAll_in (sX3_putAll hK (qch_1_2 hK h0) 10000000 sg) rfl rfl (Nat.le_of_ble_eq_true rfl) ⟨by decide, by decide⟩ (fun r1 s2 => ?_)
      refine q_aload_n (pc := 89) dX1_planMean_89 rfl ?_
      refine q_callVv (pc := 90) [] dX1_planMean_90 lm_X1_54 yX1_sweep_ok yX1_sweep_in h0 (by decide) rfl (sX1_sweep hK h0 s2) rfl rfl (Nat.le_of_ble_eq_true rfl) ⟨by decide, by decide⟩ (fun r3 s4 => ?_)
      refine q_aload_n (pc := 93) dX1_planMean_93 rfl ?_
      refine qg_1_5 (pc := 94) dX1_planMean_94 h0 lf_X1_28 ?_
      refine q_iconst (pc := 97) 0 dX1_planMean_97 (by decide) ?_
      refine q_callSNi (pc := 98) [.ref (b + ((k0 + 3))), .int 0] dX1_planMean_98 (by decide) yX3_at_ok yX3_at_in (sX3_at hK (qch_1_5 hK h0) 0 s4) rfl rfl (Nat.le_of_ble_eq_true rfl) ⟨by decide, by decide⟩ (fun r5 s6 => ?_)
      refine q_istore_n (pc := 101) dX1_planMean_101 (by decide) ?_
      refine q_aload_n (pc := 102) dX1_planMean_102 rfl ?_
      refine q_iload_n (pc := 103) dX1_planMean_103 rfl ?_
      refine q_aload_n (pc := 104) dX1_planMean_104 rfl ?_
      refine q_callVv (pc := 105) [.int r5, .ref (b + k2)] dX1_planMean_105 lm_X1_61 yX1_write_ok yX1_write_in h0 (by decide) rfl (sX1_write hK h0 h2 r5 s6) rfl rfl (Nat.le_of_ble_eq_true rfl) ⟨by decide, by decide⟩ (fun r7 s8 => ?_)
      refine q_ldc (pc := 108) 10000000 dX1_planMean_108 lc_X1_49 ?_
      refine q_iload_n (pc := 110) dX1_planMean_110 rfl ?_
      refine q_isub (pc := 111) dX1_planMean_111 ?_
      exact q_ireturn (pc := 112) dX1_planMean_112
    refine q_iconst (pc := 28) 0 dX1_planMean_28 (by decide) ?_
    refine q_istore (pc := 29) dX1_planMean_29 (by decide) ?_
    refine q_bipush (pc := 31) 8 dX1_planMean_31 (by decide) ?_
    refine q_istore (pc := 33) dX1_planMean_33 (by decide) ?_
    exact tX1_planMean_35 hK h0 h1 h2 (fun z3 sg => ih z3 sg) qfu x3 0 8 sg
def fX1_planMean (k0 k1 k2 : Nat) (sg : qSt) : qR :=
  fX1_planMean_23 k0 k1 k2 qfu 0 (qset (qset (qset sg k0 0 (sg k1 0)) k0 1 ((qset sg k0 0 (sg k1 0)) k1 1)) k0 4 0)
set_option maxRecDepth 20000 in
set_option maxHeartbeats 4000000 in
theorem sX1_planMean {b : Nat} {K : List Nat} (hK : qOk K) {k0 k1 k2 : Nat} (h0 : qIn K k0 1) (h1 : qIn K k1 0) (h2 : qIn K k2 2) (sg : qSt) : qS yX1_planMean cX1_planMean 6 (some .int) 4 98 b K [.ref (b + k0), .ref (b + k1), .ref (b + k2)] sg (fX1_planMean k0 k1 k2 sg) := by
  refine qS_of (own := RX1) rfl (by decide) hK.1 (by simp [Value.category]) (Nat.le_of_ble_eq_true rfl) (fun z _ ty h => by cases h; exact vp_nar_int _) ?_
  show qJ RX1 cX1_planMean 6 4 98 false (fun _ _ => True) b K 0 [some (.ref (b + k0)), some (.ref (b + k1)), some (.ref (b + k2)), none, none, none] [] sg (fX1_planMean k0 k1 k2 sg)
  unfold fX1_planMean
  refine q_aload_n (pc := 0) dX1_planMean_0 rfl ?_
  refine q_aload_n (pc := 1) dX1_planMean_1 rfl ?_
  refine qg_0_0 (pc := 2) dX1_planMean_2 h1 lf_X1_37 ?_
  refine qp_1_0 (pc := 5) dX1_planMean_5 h0 lf_X1_9 ?_
  refine q_aload_n (pc := 8) dX1_planMean_8 rfl ?_
  refine q_aload_n (pc := 9) dX1_planMean_9 rfl ?_
  refine qg_0_1 (pc := 10) dX1_planMean_10 h1 lf_X1_40 ?_
  refine qp_1_1 (pc := 13) dX1_planMean_13 h0 lf_X1_15 ?_
  refine q_aload_n (pc := 16) dX1_planMean_16 rfl ?_
  refine q_iconst (pc := 17) 0 dX1_planMean_17 (by decide) ?_
  refine qp_1_4 (pc := 18) dX1_planMean_18 h0 lf_X1_25 ?_
  refine q_iconst (pc := 21) 0 dX1_planMean_21 (by decide) ?_
  refine q_istore_n (pc := 22) dX1_planMean_22 (by decide) ?_
  exact tX1_planMean_23 hK h0 h1 h2 qfu 0 (qset (qset (qset sg k0 0 (sg k1 0)) k0 1 ((qset sg k0 0 (sg k1 0)) k1 1)) k0 4 0)
-- LineSearch$Outlook.capBy(I)V
def fX1_capBy_2 (k0 : Nat) : Nat → Int32 → Int32 → qSt → qR
  | 0, _, _, _ => none
  | n + 1, x1, x2, sg =>
    if 9 ≤ x2 then
      some (0, sg)
    else
    qb (fX3_put (k0 + 1) x2 ((x1 * x2) / 840) sg) fun r1 s2 =>
    fX1_capBy_2 k0 n x1 ((x2 + 1)) s2
set_option maxRecDepth 20000 in
set_option maxHeartbeats 4000000 in
theorem tX1_capBy_2 {b : Nat} {K : List Nat} (hK : qOk K) {k0 : Nat} (h0 : qIn K k0 1) : ∀ (n : Nat) (x1 x2 : Int32) (sg : qSt), qJ RX1 cX1_capBy 3 1 22 true (fun _ _ => True) b K 2 [some (.ref (b + k0)), some (.int x1), some (.int x2)] [] sg (fX1_capBy_2 k0 n x1 x2 sg) := by
  intro n
  induction n with
  | zero => intro x1 x2 sg; exact qJ_none
  | succ n ih =>
    intro x1 x2 sg
    unfold fX1_capBy_2
    refine q_iload_n (pc := 2) dX1_capBy_2 rfl ?_
    refine q_bipush (pc := 3) 9 dX1_capBy_3 (by decide) ?_
    refine q_icmp_ge (pc := 5) 29 dX1_capBy_5 (by decide) ?_ ?_
    · exact q_return (pc := 29) dX1_capBy_29
    refine q_aload_n (pc := 8) dX1_capBy_8 rfl ?_
    refine qg_1_2 (pc := 9) dX1_capBy_9 h0 lf_X1_18 ?_
    refine q_iload_n (pc := 12) dX1_capBy_12 rfl ?_
    refine q_iload_n (pc := 13) dX1_capBy_13 rfl ?_
    refine q_iload_n (pc := 14) dX1_capBy_14 rfl ?_
    refine q_imul (pc := 15) dX1_capBy_15 ?_
    refine q_sipush (pc := 16) 840 dX1_capBy_16 (by decide) ?_
    refine q_idivc (pc := 19) dX1_capBy_19 (by decide) ?_
    refine q_callSNv (pc := 20) [.ref (b + ((k0 + 1))), .int x2, .int (((x1 * x2) / 840))] dX1_capBy_20 (by decide) yX3_put_ok yX3_put_in (sX3_put hK (qch_1_2 hK h0) x2 ((x1 * x2) / 840) sg) rfl rfl (Nat.le_of_ble_eq_true rfl) ⟨by decide, by decide⟩ (fun r1 s2 => ?_)
    refine q_iinc (pc := 23) 1 dX1_capBy_23 rfl (by decide) (by decide) ?_
    refine q_goto (pc := 26) 2 dX1_capBy_26 (by decide) ?_
    exact ih x1 ((x2 + 1)) s2
def fX1_capBy (k0 : Nat) (x1 : Int32) (sg : qSt) : qR :=
  fX1_capBy_2 k0 qfu x1 0 sg
set_option maxRecDepth 20000 in
set_option maxHeartbeats 4000000 in
theorem sX1_capBy {b : Nat} {K : List Nat} (hK : qOk K) {k0 : Nat} (h0 : qIn K k0 1) (x1 : Int32) (sg : qSt) : qS yX1_capBy cX1_capBy 3 none 1 22 b K [.ref (b + k0), .int x1] sg (fX1_capBy k0 x1 sg) := by
  refine qS_of (own := RX1) rfl (by decide) hK.1 (by simp [Value.category]) (Nat.le_of_ble_eq_true rfl) (fun z _ ty h => by cases h) ?_
  show qJ RX1 cX1_capBy 3 1 22 true (fun _ _ => True) b K 0 [some (.ref (b + k0)), some (.int x1), none] [] sg (fX1_capBy k0 x1 sg)
  unfold fX1_capBy
  refine q_iconst (pc := 0) 0 dX1_capBy_0 (by decide) ?_
  refine q_istore_n (pc := 1) dX1_capBy_1 (by decide) ?_
  exact tX1_capBy_2 hK h0 qfu x1 0 sg
-- LineSearch$Outlook.planWorst(LLineSearch$Ground;LLineSearch$Plan;)I
def fX1_planWorst_111 (k0 k2 : Nat) (x4 : Int32) (sg : qSt) : qR :=
    qb (fX1_capBy k0 x4 sg) fun r1 s2 =>
    qb (fX1_sweep k0 s2) fun r3 s4 =>
    qb (fX1_write k0 k2 0 s4) fun r5 s6 =>
    some (x4, s6)
set_option maxRecDepth 20000 in
set_option maxHeartbeats 4000000 in
theorem tX1_planWorst_111 {b : Nat} {K : List Nat} (hK : qOk K) {k0 k2 : Nat} (h0 : qIn K k0 1) (h2 : qIn K k2 2) : ∀ (x4 : Int32) (sg : qSt), qJ RX1 cX1_planWorst 7 4 98 false (fun _ _ => True) b K 111 [some (.ref (b + k0)), none, some (.ref (b + k2)), none, some (.int x4), none, none] [] sg (fX1_planWorst_111 k0 k2 x4 sg) := by
  intro x4 sg
  unfold fX1_planWorst_111
  refine q_aload_n (pc := 111) dX1_planWorst_111 rfl ?_
  refine q_iload (pc := 112) dX1_planWorst_112 rfl ?_
  refine q_callVv (pc := 114) [.int x4] dX1_planWorst_114 lm_X1_65 yX1_capBy_ok yX1_capBy_in h0 (by decide) rfl (sX1_capBy hK h0 x4 sg) rfl rfl (Nat.le_of_ble_eq_true rfl) ⟨by decide, by decide⟩ (fun r1 s2 => ?_)
  refine q_aload_n (pc := 117) dX1_planWorst_117 rfl ?_
  refine q_callVv (pc := 118) [] dX1_planWorst_118 lm_X1_54 yX1_sweep_ok yX1_sweep_in h0 (by decide) rfl (sX1_sweep hK h0 s2) rfl rfl (Nat.le_of_ble_eq_true rfl) ⟨by decide, by decide⟩ (fun r3 s4 => ?_)
  refine q_aload_n (pc := 121) dX1_planWorst_121 rfl ?_
  refine q_iconst (pc := 122) 0 dX1_planWorst_122 (by decide) ?_
  refine q_aload_n (pc := 123) dX1_planWorst_123 rfl ?_
  refine q_callVv (pc := 124) [.int 0, .ref (b + k2)] dX1_planWorst_124 lm_X1_61 yX1_write_ok yX1_write_in h0 (by decide) rfl (sX1_write hK h0 h2 0 s4) rfl rfl (Nat.le_of_ble_eq_true rfl) ⟨by decide, by decide⟩ (fun r5 s6 => ?_)
  refine q_iload (pc := 127) dX1_planWorst_127 rfl ?_
  exact q_ireturn (pc := 129) dX1_planWorst_129
def fX1_planWorst_51 (k0 k2 : Nat) : Nat → Int32 → Int32 → Int32 → qSt → qR
  | 0, _, _, _, _ => none
  | n + 1, x3, x4, x5, sg =>
    if 14 ≤ x5 then
      fX1_planWorst_111 k0 k2 x4 sg
    else
    if (x4 - x3) ≤ 1 then
      fX1_planWorst_111 k0 k2 x4 sg
    else
    qb (fX1_capBy k0 ((x3 + x4) / 2) sg) fun r1 s2 =>
    qb (fX1_sweep k0 s2) fun r3 s4 =>
    qb (fX3_at (k0 + 3) 0 s4) fun r5 s6 =>
    if r5 < 0 then
      fX1_planWorst_51 k0 k2 n (((x3 + x4) / 2)) x4 ((x5 + 1)) s6
    else
    fX1_planWorst_51 k0 k2 n x3 (((x3 + x4) / 2)) ((x5 + 1)) s6
set_option maxRecDepth 20000 in
set_option maxHeartbeats 4000000 in
theorem tX1_planWorst_51 {b : Nat} {K : List Nat} (hK : qOk K) {k0 k2 : Nat} (h0 : qIn K k0 1) (h2 : qIn K k2 2) : ∀ (n : Nat) (x3 x4 x5 : Int32) (sg : qSt), qJ RX1 cX1_planWorst 7 4 98 false (fun _ _ => True) b K 51 [some (.ref (b + k0)), none, some (.ref (b + k2)), some (.int x3), some (.int x4), some (.int x5), none] [] sg (fX1_planWorst_51 k0 k2 n x3 x4 x5 sg) := by
  intro n
  induction n with
  | zero => intro x3 x4 x5 sg; exact qJ_none
  | succ n ih =>
    intro x3 x4 x5 sg
    unfold fX1_planWorst_51
    refine q_iload (pc := 51) dX1_planWorst_51 rfl ?_
    refine q_bipush (pc := 53) 14 dX1_planWorst_53 (by decide) ?_
    refine q_icmp_ge (pc := 55) 111 dX1_planWorst_55 (by decide) ?_ ?_
    · refine qJ_weak [some (.ref (b + k0)), none, some (.ref (b + k2)), none, some (.int x4), none, none] ⟨rfl, rfl, rfl, trivial⟩ ?_
      exact tX1_planWorst_111 hK h0 h2 x4 sg
    refine q_iload (pc := 58) dX1_planWorst_58 rfl ?_
    refine q_iload_n (pc := 60) dX1_planWorst_60 rfl ?_
    refine q_isub (pc := 61) dX1_planWorst_61 ?_
    refine q_iconst (pc := 62) 1 dX1_planWorst_62 (by decide) ?_
    refine q_icmp_le (pc := 63) 111 dX1_planWorst_63 (by decide) ?_ ?_
    · refine qJ_weak [some (.ref (b + k0)), none, some (.ref (b + k2)), none, some (.int x4), none, none] ⟨rfl, rfl, rfl, trivial⟩ ?_
      exact tX1_planWorst_111 hK h0 h2 x4 sg
    refine q_iload_n (pc := 66) dX1_planWorst_66 rfl ?_
    refine q_iload (pc := 67) dX1_planWorst_67 rfl ?_
    refine q_iadd (pc := 69) dX1_planWorst_69 ?_
    refine q_iconst (pc := 70) 2 dX1_planWorst_70 (by decide) ?_
    refine q_idivc (pc := 71) dX1_planWorst_71 (by decide) ?_
    refine q_istore (pc := 72) dX1_planWorst_72 (by decide) ?_
    refine q_aload_n (pc := 74) dX1_planWorst_74 rfl ?_
    refine q_iload (pc := 75) dX1_planWorst_75 rfl ?_
    refine q_callVv (pc := 77) [.int (((x3 + x4) / 2))] dX1_planWorst_77 lm_X1_65 yX1_capBy_ok yX1_capBy_in h0 (by decide) rfl (sX1_capBy hK h0 ((x3 + x4) / 2) sg) rfl rfl (Nat.le_of_ble_eq_true rfl) ⟨by decide, by decide⟩ (fun r1 s2 => ?_)
    refine q_aload_n (pc := 80) dX1_planWorst_80 rfl ?_
    refine q_callVv (pc := 81) [] dX1_planWorst_81 lm_X1_54 yX1_sweep_ok yX1_sweep_in h0 (by decide) rfl (sX1_sweep hK h0 s2) rfl rfl (Nat.le_of_ble_eq_true rfl) ⟨by decide, by decide⟩ (fun r3 s4 => ?_)
    refine q_aload_n (pc := 84) dX1_planWorst_84 rfl ?_
    refine qg_1_5 (pc := 85) dX1_planWorst_85 h0 lf_X1_28 ?_
    refine q_iconst (pc := 88) 0 dX1_planWorst_88 (by decide) ?_
    refine q_callSNi (pc := 89) [.ref (b + ((k0 + 3))), .int 0] dX1_planWorst_89 (by decide) yX3_at_ok yX3_at_in (sX3_at hK (qch_1_5 hK h0) 0 s4) rfl rfl (Nat.le_of_ble_eq_true rfl) ⟨by decide, by decide⟩ (fun r5 s6 => ?_)
    refine q_if_lt (pc := 92) 102 dX1_planWorst_92 (by decide) ?_ ?_
    · refine q_iload (pc := 102) dX1_planWorst_102 rfl ?_
      refine q_istore_n (pc := 104) dX1_planWorst_104 (by decide) ?_
      refine q_iinc (pc := 105) 1 dX1_planWorst_105 rfl (by decide) (by decide) ?_
      refine q_goto (pc := 108) 51 dX1_planWorst_108 (by decide) ?_
      refine qJ_weak [some (.ref (b + k0)), none, some (.ref (b + k2)), some (.int (((x3 + x4) / 2))), some (.int x4), some (.int ((x5 + 1))), none] ⟨rfl, rfl, rfl, rfl, rfl, trivial⟩ ?_
      exact ih (((x3 + x4) / 2)) x4 ((x5 + 1)) s6
    refine q_iload (pc := 95) dX1_planWorst_95 rfl ?_
    refine q_istore (pc := 97) dX1_planWorst_97 (by decide) ?_
    refine q_goto (pc := 99) 105 dX1_planWorst_99 (by decide) ?_
    refine q_iinc (pc := 105) 1 dX1_planWorst_105 rfl (by decide) (by decide) ?_
    refine q_goto (pc := 108) 51 dX1_planWorst_108 (by decide) ?_
    refine qJ_weak [some (.ref (b + k0)), none, some (.ref (b + k2)), some (.int x3), some (.int (((x3 + x4) / 2))), some (.int ((x5 + 1))), none] ⟨rfl, rfl, rfl, rfl, rfl, trivial⟩ ?_
    exact ih x3 (((x3 + x4) / 2)) ((x5 + 1)) s6
def fX1_planWorst (k0 k1 k2 : Nat) (sg : qSt) : qR :=
  qb (fX3_putAll (k0 + 2) 0 (qset (qset (qset sg k0 0 (sg k1 0)) k0 1 ((qset sg k0 0 (sg k1 0)) k1 1)) k0 4 1)) fun r1 s2 =>
  fX1_planWorst_51 k0 k2 qfu 0 (((840 * (s2 k0 1)) * ((s2 k0 0) - 1))) 0 s2
set_option maxRecDepth 20000 in
set_option maxHeartbeats 4000000 in
theorem sX1_planWorst {b : Nat} {K : List Nat} (hK : qOk K) {k0 k1 k2 : Nat} (h0 : qIn K k0 1) (h1 : qIn K k1 0) (h2 : qIn K k2 2) (sg : qSt) : qS yX1_planWorst cX1_planWorst 7 (some .int) 4 98 b K [.ref (b + k0), .ref (b + k1), .ref (b + k2)] sg (fX1_planWorst k0 k1 k2 sg) := by
  refine qS_of (own := RX1) rfl (by decide) hK.1 (by simp [Value.category]) (Nat.le_of_ble_eq_true rfl) (fun z _ ty h => by cases h; exact vp_nar_int _) ?_
  show qJ RX1 cX1_planWorst 7 4 98 false (fun _ _ => True) b K 0 [some (.ref (b + k0)), some (.ref (b + k1)), some (.ref (b + k2)), none, none, none, none] [] sg (fX1_planWorst k0 k1 k2 sg)
  unfold fX1_planWorst
  refine q_aload_n (pc := 0) dX1_planWorst_0 rfl ?_
  refine q_aload_n (pc := 1) dX1_planWorst_1 rfl ?_
  refine qg_0_0 (pc := 2) dX1_planWorst_2 h1 lf_X1_37 ?_
  refine qp_1_0 (pc := 5) dX1_planWorst_5 h0 lf_X1_9 ?_
  refine q_aload_n (pc := 8) dX1_planWorst_8 rfl ?_
  refine q_aload_n (pc := 9) dX1_planWorst_9 rfl ?_
  refine qg_0_1 (pc := 10) dX1_planWorst_10 h1 lf_X1_40 ?_
  refine qp_1_1 (pc := 13) dX1_planWorst_13 h0 lf_X1_15 ?_
  refine q_aload_n (pc := 16) dX1_planWorst_16 rfl ?_
  refine q_iconst (pc := 17) 1 dX1_planWorst_17 (by decide) ?_
  refine qp_1_4 (pc := 18) dX1_planWorst_18 h0 lf_X1_25 ?_
  refine q_aload_n (pc := 21) dX1_planWorst_21 rfl ?_
  refine qg_1_3 (pc := 22) dX1_planWorst_22 h0 lf_X1_22 ?_
  refine q_iconst (pc := 25) 0 dX1_planWorst_25 (by decide) ?_
  refine q_callSNv (pc := 26) [.ref (b + ((k0 + 2))), .int 0] dX1_planWorst_26 (by decide) yX3_putAll_ok yX3_putAll_in (sX3_putAll hK (qch_1_3 hK h0) 0 (qset (qset (qset sg k0 0 (sg k1 0)) k0 1 ((qset sg k0 0 (sg k1 0)) k1 1)) k0 4 1)) rfl rfl (Nat.le_of_ble_eq_true rfl) ⟨by decide, by decide⟩ (fun r1 s2 => ?_)
  refine q_iconst (pc := 29) 0 dX1_planWorst_29 (by decide) ?_
  refine q_istore_n (pc := 30) dX1_planWorst_30 (by decide) ?_
  refine q_sipush (pc := 31) 840 dX1_planWorst_31 (by decide) ?_
  refine q_aload_n (pc := 34) dX1_planWorst_34 rfl ?_
  refine qg_1_1 (pc := 35) dX1_planWorst_35 h0 lf_X1_15 ?_
  refine q_imul (pc := 38) dX1_planWorst_38 ?_
  refine q_aload_n (pc := 39) dX1_planWorst_39 rfl ?_
  refine qg_1_0 (pc := 40) dX1_planWorst_40 h0 lf_X1_9 ?_
  refine q_iconst (pc := 43) 1 dX1_planWorst_43 (by decide) ?_
  refine q_isub (pc := 44) dX1_planWorst_44 ?_
  refine q_imul (pc := 45) dX1_planWorst_45 ?_
  refine q_istore (pc := 46) dX1_planWorst_46 (by decide) ?_
  refine q_iconst (pc := 48) 0 dX1_planWorst_48 (by decide) ?_
  refine q_istore (pc := 49) dX1_planWorst_49 (by decide) ?_
  refine qJ_weak [some (.ref (b + k0)), none, some (.ref (b + k2)), some (.int 0), some (.int (((840 * (s2 k0 1)) * ((s2 k0 0) - 1)))), some (.int 0), none] ⟨rfl, rfl, rfl, rfl, rfl, trivial⟩ ?_
  exact tX1_planWorst_51 hK h0 h2 qfu 0 (((840 * (s2 k0 1)) * ((s2 k0 0) - 1))) 0 s2
end
section
/-! ===== by program (gen.py): the walk of methods ===== -/
-- LineSearch.rays(II)I
def fX3_rays_41 (k0 : Nat) (x1 x2 : Int32) (sg : qSt) : qR :=
    qb (fX0_lay (k0 + 1) x1 x2 (qset sg k0 7 0)) fun r1 s2 =>
    qb (fX2_empty (k0 + 3) s2) fun r3 s4 =>
    some ((x1 * x2), s4)
set_option maxRecDepth 20000 in
set_option maxHeartbeats 4000000 in
theorem tX3_rays_41 {b : Nat} {K : List Nat} (hK : qOk K) {k0 : Nat} (h0 : qIn K k0 3) : ∀ (x1 x2 : Int32) (sg : qSt), qJ RX3 cX3_rays 3 2 44 false (fun _ _ => True) b K 41 [some (.ref (b + k0)), some (.int x1), some (.int x2)] [] sg (fX3_rays_41 k0 x1 x2 sg) := by
  intro x1 x2 sg
  unfold fX3_rays_41
  refine q_aload_n (pc := 41) dX3_rays_41 rfl ?_
  refine q_iconst (pc := 42) 0 dX3_rays_42 (by decide) ?_
  refine qp_3_7 (pc := 43) dX3_rays_43 h0 lf_X3_43 (by decide) (by decide) ?_
  refine q_aload_n (pc := 46) dX3_rays_46 rfl ?_
  refine qg_3_2 (pc := 47) dX3_rays_47 h0 lf_X3_19 ?_
  refine q_iload_n (pc := 50) dX3_rays_50 rfl ?_
  refine q_iload_n (pc := 51) dX3_rays_51 rfl ?_
  refine q_callVv (pc := 52) [.int x1, .int x2] dX3_rays_52 lm_X3_60 yX0_lay_ok yX0_lay_in (qch_3_2 hK h0) (by decide) rfl (sX0_lay hK (qch_3_2 hK h0) x1 x2 (qset sg k0 7 0)) rfl rfl (Nat.le_of_ble_eq_true rfl) ⟨by decide, by decide⟩ (fun r1 s2 => ?_)
  refine q_aload_n (pc := 55) dX3_rays_55 rfl ?_
  refine qg_3_3 (pc := 56) dX3_rays_56 h0 lf_X3_26 ?_
  refine q_callVv (pc := 59) [] dX3_rays_59 lm_X3_64 yX2_empty_ok yX2_empty_in (qch_3_3 hK h0) (by decide) rfl (sX2_empty hK (qch_3_3 hK h0) s2) rfl rfl (Nat.le_of_ble_eq_true rfl) ⟨by decide, by decide⟩ (fun r3 s4 => ?_)
  refine q_iload_n (pc := 62) dX3_rays_62 rfl ?_
  refine q_iload_n (pc := 63) dX3_rays_63 rfl ?_
  refine q_imul (pc := 64) dX3_rays_64 ?_
  exact q_ireturn (pc := 65) dX3_rays_65
def fX3_rays (k0 : Nat) (x1 x2 : Int32) (sg : qSt) : qR :=
  if x1 < 2 then
    some ((-2), sg)
  else
  if 3 < x1 then
    some ((-2), sg)
  else
  if x2 < 1 then
    some ((-2), sg)
  else
  if x2 ≤ 8 then
    qb (fX0_isOf (k0 + 1) x1 x2 sg) fun r1 s2 =>
    if r1 = 0 then
      fX3_rays_41 k0 x1 x2 (qset s2 k0 8 0)
    else
    fX3_rays_41 k0 x1 x2 s2
  else
  some ((-2), sg)
set_option maxRecDepth 20000 in
set_option maxHeartbeats 4000000 in
theorem sX3_rays {b : Nat} {K : List Nat} (hK : qOk K) {k0 : Nat} (h0 : qIn K k0 3) (x1 x2 : Int32) (sg : qSt) : qS yX3_rays cX3_rays 3 (some .int) 2 44 b K [.ref (b + k0), .int x1, .int x2] sg (fX3_rays k0 x1 x2 sg) := by
  refine qS_of (own := RX3) rfl (by decide) hK.1 (by simp [Value.category]) (Nat.le_of_ble_eq_true rfl) (fun z _ ty h => by cases h; exact vp_nar_int _) ?_
  show qJ RX3 cX3_rays 3 2 44 false (fun _ _ => True) b K 0 [some (.ref (b + k0)), some (.int x1), some (.int x2)] [] sg (fX3_rays k0 x1 x2 sg)
  unfold fX3_rays
  refine q_iload_n (pc := 0) dX3_rays_0 rfl ?_
  refine q_iconst (pc := 1) 2 dX3_rays_1 (by decide) ?_
  refine q_icmp_lt (pc := 2) 21 dX3_rays_2 (by decide) ?_ ?_
  · refine q_bipush (pc := 21) (-2) dX3_rays_21 (by decide) ?_
    exact q_ireturn (pc := 23) dX3_rays_23
  refine q_iload_n (pc := 5) dX3_rays_5 rfl ?_
  refine q_iconst (pc := 6) 3 dX3_rays_6 (by decide) ?_
  refine q_icmp_gt (pc := 7) 21 dX3_rays_7 (by decide) ?_ ?_
  · refine q_bipush (pc := 21) (-2) dX3_rays_21 (by decide) ?_
    exact q_ireturn (pc := 23) dX3_rays_23
  refine q_iload_n (pc := 10) dX3_rays_10 rfl ?_
  refine q_iconst (pc := 11) 1 dX3_rays_11 (by decide) ?_
  refine q_icmp_lt (pc := 12) 21 dX3_rays_12 (by decide) ?_ ?_
  · refine q_bipush (pc := 21) (-2) dX3_rays_21 (by decide) ?_
    exact q_ireturn (pc := 23) dX3_rays_23
  refine q_iload_n (pc := 15) dX3_rays_15 rfl ?_
  refine q_bipush (pc := 16) 8 dX3_rays_16 (by decide) ?_
  refine q_icmp_le (pc := 18) 24 dX3_rays_18 (by decide) ?_ ?_
  · refine q_aload_n (pc := 24) dX3_rays_24 rfl ?_
    refine qg_3_2 (pc := 25) dX3_rays_25 h0 lf_X3_19 ?_
    refine q_iload_n (pc := 28) dX3_rays_28 rfl ?_
    refine q_iload_n (pc := 29) dX3_rays_29 rfl ?_
    refine q_callVi (pc := 30) [.int x1, .int x2] dX3_rays_30 lm_X3_56 yX0_isOf_ok yX0_isOf_in (qch_3_2 hK h0) (by decide) rfl (sX0_isOf hK (qch_3_2 hK h0) x1 x2 sg) rfl rfl (Nat.le_of_ble_eq_true rfl) ⟨by decide, by decide⟩ (fun r1 s2 => ?_)
    refine q_if_ne (pc := 33) 41 dX3_rays_33 (by decide) ?_ ?_
    · exact tX3_rays_41 hK h0 x1 x2 s2
    refine q_aload_n (pc := 36) dX3_rays_36 rfl ?_
    refine q_iconst (pc := 37) 0 dX3_rays_37 (by decide) ?_
    refine qp_3_8 (pc := 38) dX3_rays_38 h0 lf_X3_47 (by decide) (by decide) ?_
    exact tX3_rays_41 hK h0 x1 x2 (qset s2 k0 8 0)
  refine q_bipush (pc := 21) (-2) dX3_rays_21 (by decide) ?_
  exact q_ireturn (pc := 23) dX3_rays_23
-- LineSearch.costs(II)I
def fX3_costs (k0 : Nat) (x1 x2 : Int32) (sg : qSt) : qR :=
  if x1 < 1 then
    some ((-2), sg)
  else
  if 9 < x1 then
    some ((-2), sg)
  else
  if x2 < 1 then
    some ((-2), sg)
  else
  if x2 ≤ 9 then
    some (1, qset (qset sg k0 0 x1) k0 1 x2)
  else
  some ((-2), sg)
set_option maxRecDepth 20000 in
set_option maxHeartbeats 4000000 in
theorem sX3_costs {b : Nat} {K : List Nat} (hK : qOk K) {k0 : Nat} (h0 : qIn K k0 3) (x1 x2 : Int32) (sg : qSt) : qS yX3_costs cX3_costs 3 (some .int) 0 0 b K [.ref (b + k0), .int x1, .int x2] sg (fX3_costs k0 x1 x2 sg) := by
  refine qS_of (own := RX3) rfl (by decide) hK.1 (by simp [Value.category]) (Nat.le_of_ble_eq_true rfl) (fun z _ ty h => by cases h; exact vp_nar_int _) ?_
  show qJ RX3 cX3_costs 3 0 0 false (fun _ _ => True) b K 0 [some (.ref (b + k0)), some (.int x1), some (.int x2)] [] sg (fX3_costs k0 x1 x2 sg)
  unfold fX3_costs
  refine q_iload_n (pc := 0) dX3_costs_0 rfl ?_
  refine q_iconst (pc := 1) 1 dX3_costs_1 (by decide) ?_
  refine q_icmp_lt (pc := 2) 22 dX3_costs_2 (by decide) ?_ ?_
  · refine q_bipush (pc := 22) (-2) dX3_costs_22 (by decide) ?_
    exact q_ireturn (pc := 24) dX3_costs_24
  refine q_iload_n (pc := 5) dX3_costs_5 rfl ?_
  refine q_bipush (pc := 6) 9 dX3_costs_6 (by decide) ?_
  refine q_icmp_gt (pc := 8) 22 dX3_costs_8 (by decide) ?_ ?_
  · refine q_bipush (pc := 22) (-2) dX3_costs_22 (by decide) ?_
    exact q_ireturn (pc := 24) dX3_costs_24
  refine q_iload_n (pc := 11) dX3_costs_11 rfl ?_
  refine q_iconst (pc := 12) 1 dX3_costs_12 (by decide) ?_
  refine q_icmp_lt (pc := 13) 22 dX3_costs_13 (by decide) ?_ ?_
  · refine q_bipush (pc := 22) (-2) dX3_costs_22 (by decide) ?_
    exact q_ireturn (pc := 24) dX3_costs_24
  refine q_iload_n (pc := 16) dX3_costs_16 rfl ?_
  refine q_bipush (pc := 17) 9 dX3_costs_17 (by decide) ?_
  refine q_icmp_le (pc := 19) 25 dX3_costs_19 (by decide) ?_ ?_
  · refine q_aload_n (pc := 25) dX3_costs_25 rfl ?_
    refine q_iload_n (pc := 26) dX3_costs_26 rfl ?_
    refine qp_3_0 (pc := 27) dX3_costs_27 h0 lf_X3_9 ?_
    refine q_aload_n (pc := 30) dX3_costs_30 rfl ?_
    refine q_iload_n (pc := 31) dX3_costs_31 rfl ?_
    refine qp_3_1 (pc := 32) dX3_costs_32 h0 lf_X3_13 ?_
    refine q_iconst (pc := 35) 1 dX3_costs_35 (by decide) ?_
    exact q_ireturn (pc := 36) dX3_costs_36
  refine q_bipush (pc := 22) (-2) dX3_costs_22 (by decide) ?_
  exact q_ireturn (pc := 24) dX3_costs_24
-- LineSearch.share(III)I
def fX3_share (k0 : Nat) (x1 x2 x3 : Int32) (sg : qSt) : qR :=
  qb (fX0_has (k0 + 1) x1 x2 sg) fun r1 s2 =>
  if r1 = 0 then
    some ((-1), s2)
  else
  if x3 < 0 then
    some ((-2), s2)
  else
  if x3 ≤ 100 then
    qb (fX0_shareAt (k0 + 1) x1 x2 s2) fun r3 s4 =>
    qb (fX0_setShare (k0 + 1) x1 x2 x3 s4) fun r5 s6 =>
    if x3 = r3 then
      some (r3, s6)
    else
    some (r3, qset s6 k0 7 0)
  else
  some ((-2), s2)
set_option maxRecDepth 20000 in
set_option maxHeartbeats 4000000 in
theorem sX3_share {b : Nat} {K : List Nat} (hK : qOk K) {k0 : Nat} (h0 : qIn K k0 3) (x1 x2 x3 : Int32) (sg : qSt) : qS yX3_share cX3_share 5 (some .int) 2 45 b K [.ref (b + k0), .int x1, .int x2, .int x3] sg (fX3_share k0 x1 x2 x3 sg) := by
  refine qS_of (own := RX3) rfl (by decide) hK.1 (by simp [Value.category]) (Nat.le_of_ble_eq_true rfl) (fun z _ ty h => by cases h; exact vp_nar_int _) ?_
  show qJ RX3 cX3_share 5 2 45 false (fun _ _ => True) b K 0 [some (.ref (b + k0)), some (.int x1), some (.int x2), some (.int x3), none] [] sg (fX3_share k0 x1 x2 x3 sg)
  unfold fX3_share
  refine q_aload_n (pc := 0) dX3_share_0 rfl ?_
  refine qg_3_2 (pc := 1) dX3_share_1 h0 lf_X3_19 ?_
  refine q_iload_n (pc := 4) dX3_share_4 rfl ?_
  refine q_iload_n (pc := 5) dX3_share_5 rfl ?_
  refine q_callVi (pc := 6) [.int x1, .int x2] dX3_share_6 lm_X3_67 yX0_has_ok yX0_has_in (qch_3_2 hK h0) (by decide) rfl (sX0_has hK (qch_3_2 hK h0) x1 x2 sg) rfl rfl (Nat.le_of_ble_eq_true rfl) ⟨by decide, by decide⟩ (fun r1 s2 => ?_)
  refine q_if_ne (pc := 9) 14 dX3_share_9 (by decide) ?_ ?_
  · refine q_iload_n (pc := 14) dX3_share_14 rfl ?_
    refine q_if_lt (pc := 15) 24 dX3_share_15 (by decide) ?_ ?_
    · refine q_bipush (pc := 24) (-2) dX3_share_24 (by decide) ?_
      exact q_ireturn (pc := 26) dX3_share_26
    refine q_iload_n (pc := 18) dX3_share_18 rfl ?_
    refine q_bipush (pc := 19) 100 dX3_share_19 (by decide) ?_
    refine q_icmp_le (pc := 21) 27 dX3_share_21 (by decide) ?_ ?_
    · refine q_aload_n (pc := 27) dX3_share_27 rfl ?_
      refine qg_3_2 (pc := 28) dX3_share_28 h0 lf_X3_19 ?_
      refine q_iload_n (pc := 31) dX3_share_31 rfl ?_
      refine q_iload_n (pc := 32) dX3_share_32 rfl ?_
      refine q_callVi (pc := 33) [.int x1, .int x2] dX3_share_33 lm_X3_70 yX0_shareAt_ok yX0_shareAt_in (qch_3_2 hK h0) (by decide) rfl (sX0_shareAt hK (qch_3_2 hK h0) x1 x2 s2) rfl rfl (Nat.le_of_ble_eq_true rfl) ⟨by decide, by decide⟩ (fun r3 s4 => ?_)
      refine q_istore (pc := 36) dX3_share_36 (by decide) ?_
      refine q_aload_n (pc := 38) dX3_share_38 rfl ?_
      refine qg_3_2 (pc := 39) dX3_share_39 h0 lf_X3_19 ?_
      refine q_iload_n (pc := 42) dX3_share_42 rfl ?_
      refine q_iload_n (pc := 43) dX3_share_43 rfl ?_
      refine q_iload_n (pc := 44) dX3_share_44 rfl ?_
      refine q_callVv (pc := 45) [.int x1, .int x2, .int x3] dX3_share_45 lm_X3_74 yX0_setShare_ok yX0_setShare_in (qch_3_2 hK h0) (by decide) rfl (sX0_setShare hK (qch_3_2 hK h0) x1 x2 x3 s4) rfl rfl (Nat.le_of_ble_eq_true rfl) ⟨by decide, by decide⟩ (fun r5 s6 => ?_)
      refine q_iload_n (pc := 48) dX3_share_48 rfl ?_
      refine q_iload (pc := 49) dX3_share_49 rfl ?_
      refine q_icmp_eq (pc := 51) 59 dX3_share_51 (by decide) ?_ ?_
      · refine q_iload (pc := 59) dX3_share_59 rfl ?_
        exact q_ireturn (pc := 61) dX3_share_61
      refine q_aload_n (pc := 54) dX3_share_54 rfl ?_
      refine q_iconst (pc := 55) 0 dX3_share_55 (by decide) ?_
      refine qp_3_7 (pc := 56) dX3_share_56 h0 lf_X3_43 (by decide) (by decide) ?_
      refine q_iload (pc := 59) dX3_share_59 rfl ?_
      exact q_ireturn (pc := 61) dX3_share_61
    refine q_bipush (pc := 24) (-2) dX3_share_24 (by decide) ?_
    exact q_ireturn (pc := 26) dX3_share_26
  refine q_iconst (pc := 12) (-1) dX3_share_12 (by decide) ?_
  exact q_ireturn (pc := 13) dX3_share_13
-- LineSearch.shareOf(II)I
def fX3_shareOf (k0 : Nat) (x1 x2 : Int32) (sg : qSt) : qR :=
  qb (fX0_has (k0 + 1) x1 x2 sg) fun r1 s2 =>
  if r1 = 0 then
    some ((-1), s2)
  else
  qb (fX0_shareAt (k0 + 1) x1 x2 s2) fun r3 s4 =>
  some (r3, s4)
set_option maxRecDepth 20000 in
set_option maxHeartbeats 4000000 in
theorem sX3_shareOf {b : Nat} {K : List Nat} (hK : qOk K) {k0 : Nat} (h0 : qIn K k0 3) (x1 x2 : Int32) (sg : qSt) : qS yX3_shareOf cX3_shareOf 3 (some .int) 2 44 b K [.ref (b + k0), .int x1, .int x2] sg (fX3_shareOf k0 x1 x2 sg) := by
  refine qS_of (own := RX3) rfl (by decide) hK.1 (by simp [Value.category]) (Nat.le_of_ble_eq_true rfl) (fun z _ ty h => by cases h; exact vp_nar_int _) ?_
  show qJ RX3 cX3_shareOf 3 2 44 false (fun _ _ => True) b K 0 [some (.ref (b + k0)), some (.int x1), some (.int x2)] [] sg (fX3_shareOf k0 x1 x2 sg)
  unfold fX3_shareOf
  refine q_aload_n (pc := 0) dX3_shareOf_0 rfl ?_
  refine qg_3_2 (pc := 1) dX3_shareOf_1 h0 lf_X3_19 ?_
  refine q_iload_n (pc := 4) dX3_shareOf_4 rfl ?_
  refine q_iload_n (pc := 5) dX3_shareOf_5 rfl ?_
  refine q_callVi (pc := 6) [.int x1, .int x2] dX3_shareOf_6 lm_X3_67 yX0_has_ok yX0_has_in (qch_3_2 hK h0) (by decide) rfl (sX0_has hK (qch_3_2 hK h0) x1 x2 sg) rfl rfl (Nat.le_of_ble_eq_true rfl) ⟨by decide, by decide⟩ (fun r1 s2 => ?_)
  refine q_if_eq (pc := 9) 24 dX3_shareOf_9 (by decide) ?_ ?_
  · refine q_iconst (pc := 24) (-1) dX3_shareOf_24 (by decide) ?_
    exact q_ireturn (pc := 25) dX3_shareOf_25
  refine q_aload_n (pc := 12) dX3_shareOf_12 rfl ?_
  refine qg_3_2 (pc := 13) dX3_shareOf_13 h0 lf_X3_19 ?_
  refine q_iload_n (pc := 16) dX3_shareOf_16 rfl ?_
  refine q_iload_n (pc := 17) dX3_shareOf_17 rfl ?_
  refine q_callVi (pc := 18) [.int x1, .int x2] dX3_shareOf_18 lm_X3_70 yX0_shareAt_ok yX0_shareAt_in (qch_3_2 hK h0) (by decide) rfl (sX0_shareAt hK (qch_3_2 hK h0) x1 x2 s2) rfl rfl (Nat.le_of_ble_eq_true rfl) ⟨by decide, by decide⟩ (fun r3 s4 => ?_)
  refine q_goto (pc := 21) 25 dX3_shareOf_21 (by decide) ?_
  exact q_ireturn (pc := 25) dX3_shareOf_25
-- LineSearch.trip(II)I
def fX3_trip (k0 : Nat) (x1 x2 : Int32) (sg : qSt) : qR :=
  qb (fX0_has (k0 + 1) x1 x2 sg) fun r1 s2 =>
  if r1 = 0 then
    some ((-1), s2)
  else
  qb (fX2_add (k0 + 3) x1 x2 s2) fun r3 s4 =>
  if r3 = 0 then
    some ((-4), s4)
  else
  some ((s2 (k0 + 3) 2), s4)
set_option maxRecDepth 20000 in
set_option maxHeartbeats 4000000 in
theorem sX3_trip {b : Nat} {K : List Nat} (hK : qOk K) {k0 : Nat} (h0 : qIn K k0 3) (x1 x2 : Int32) (sg : qSt) : qS yX3_trip cX3_trip 4 (some .int) 2 44 b K [.ref (b + k0), .int x1, .int x2] sg (fX3_trip k0 x1 x2 sg) := by
  refine qS_of (own := RX3) rfl (by decide) hK.1 (by simp [Value.category]) (Nat.le_of_ble_eq_true rfl) (fun z _ ty h => by cases h; exact vp_nar_int _) ?_
  show qJ RX3 cX3_trip 4 2 44 false (fun _ _ => True) b K 0 [some (.ref (b + k0)), some (.int x1), some (.int x2), none] [] sg (fX3_trip k0 x1 x2 sg)
  unfold fX3_trip
  refine q_aload_n (pc := 0) dX3_trip_0 rfl ?_
  refine qg_3_2 (pc := 1) dX3_trip_1 h0 lf_X3_19 ?_
  refine q_iload_n (pc := 4) dX3_trip_4 rfl ?_
  refine q_iload_n (pc := 5) dX3_trip_5 rfl ?_
  refine q_callVi (pc := 6) [.int x1, .int x2] dX3_trip_6 lm_X3_67 yX0_has_ok yX0_has_in (qch_3_2 hK h0) (by decide) rfl (sX0_has hK (qch_3_2 hK h0) x1 x2 sg) rfl rfl (Nat.le_of_ble_eq_true rfl) ⟨by decide, by decide⟩ (fun r1 s2 => ?_)
  refine q_if_ne (pc := 9) 14 dX3_trip_9 (by decide) ?_ ?_
  · refine q_aload_n (pc := 14) dX3_trip_14 rfl ?_
    refine qg_3_3 (pc := 15) dX3_trip_15 h0 lf_X3_26 ?_
    refine qg_2_2 (pc := 18) dX3_trip_18 (qch_3_3 hK h0) lf_X3_78 ?_
    refine q_istore_n (pc := 21) dX3_trip_21 (by decide) ?_
    refine q_aload_n (pc := 22) dX3_trip_22 rfl ?_
    refine qg_3_3 (pc := 23) dX3_trip_23 h0 lf_X3_26 ?_
    refine q_iload_n (pc := 26) dX3_trip_26 rfl ?_
    refine q_iload_n (pc := 27) dX3_trip_27 rfl ?_
    refine q_callVi (pc := 28) [.int x1, .int x2] dX3_trip_28 lm_X3_81 yX2_add_ok yX2_add_in (qch_3_3 hK h0) (by decide) rfl (sX2_add hK (qch_3_3 hK h0) x1 x2 s2) rfl rfl (Nat.le_of_ble_eq_true rfl) ⟨by decide, by decide⟩ (fun r3 s4 => ?_)
    refine q_if_eq (pc := 31) 38 dX3_trip_31 (by decide) ?_ ?_
    · refine q_bipush (pc := 38) (-4) dX3_trip_38 (by decide) ?_
      exact q_ireturn (pc := 40) dX3_trip_40
    refine q_iload_n (pc := 34) dX3_trip_34 rfl ?_
    refine q_goto (pc := 35) 40 dX3_trip_35 (by decide) ?_
    exact q_ireturn (pc := 40) dX3_trip_40
  refine q_iconst (pc := 12) (-1) dX3_trip_12 (by decide) ?_
  exact q_ireturn (pc := 13) dX3_trip_13
-- LineSearch.wholeTrips(I)I
def fX3_wholeTrips (k0 : Nat) (x1 : Int32) (sg : qSt) : qR :=
  some ((((sg k0 0) + (sg k0 1)) * x1), sg)
set_option maxRecDepth 20000 in
set_option maxHeartbeats 4000000 in
theorem sX3_wholeTrips {b : Nat} {K : List Nat} (hK : qOk K) {k0 : Nat} (h0 : qIn K k0 3) (x1 : Int32) (sg : qSt) : qS yX3_wholeTrips cX3_wholeTrips 2 (some .int) 0 0 b K [.ref (b + k0), .int x1] sg (fX3_wholeTrips k0 x1 sg) := by
  refine qS_of (own := RX3) rfl (by decide) hK.1 (by simp [Value.category]) (Nat.le_of_ble_eq_true rfl) (fun z _ ty h => by cases h; exact vp_nar_int _) ?_
  show qJ RX3 cX3_wholeTrips 2 0 0 false (fun _ _ => True) b K 0 [some (.ref (b + k0)), some (.int x1)] [] sg (fX3_wholeTrips k0 x1 sg)
  unfold fX3_wholeTrips
  refine q_aload_n (pc := 0) dX3_wholeTrips_0 rfl ?_
  refine qg_3_0 (pc := 1) dX3_wholeTrips_1 h0 lf_X3_9 ?_
  refine q_aload_n (pc := 4) dX3_wholeTrips_4 rfl ?_
  refine qg_3_1 (pc := 5) dX3_wholeTrips_5 h0 lf_X3_13 ?_
  refine q_iadd (pc := 8) dX3_wholeTrips_8 ?_
  refine q_iload_n (pc := 9) dX3_wholeTrips_9 rfl ?_
  refine q_imul (pc := 10) dX3_wholeTrips_10 ?_
  exact q_ireturn (pc := 11) dX3_wholeTrips_11
-- LineSearch.tripOf(II)I
def fX3_tripOf (k0 : Nat) (x1 x2 : Int32) (sg : qSt) : qR :=
  qb (fX2_has (k0 + 3) x1 sg) fun r1 s2 =>
  if r1 = 0 then
    some ((-1), s2)
  else
  if x2 = 0 then
    qb (fX2_rayOf (k0 + 3) x1 s2) fun r3 s4 =>
    some (r3, s4)
  else
  if x2 = 1 then
    qb (fX2_stepsOf (k0 + 3) x1 s2) fun r5 s6 =>
    some (r5, s6)
  else
  if x2 = 2 then
    qb (fX2_stepsAhead (k0 + 3) x1 (-1) s2) fun r7 s8 =>
    qb (fX3_wholeTrips k0 r7 s8) fun r9 s10 =>
    some (r9, s10)
  else
  some ((-2), s2)
set_option maxRecDepth 20000 in
set_option maxHeartbeats 4000000 in
theorem sX3_tripOf {b : Nat} {K : List Nat} (hK : qOk K) {k0 : Nat} (h0 : qIn K k0 3) (x1 x2 : Int32) (sg : qSt) : qS yX3_tripOf cX3_tripOf 3 (some .int) 3 66 b K [.ref (b + k0), .int x1, .int x2] sg (fX3_tripOf k0 x1 x2 sg) := by
  refine qS_of (own := RX3) rfl (by decide) hK.1 (by simp [Value.category]) (Nat.le_of_ble_eq_true rfl) (fun z _ ty h => by cases h; exact vp_nar_int _) ?_
  show qJ RX3 cX3_tripOf 3 3 66 false (fun _ _ => True) b K 0 [some (.ref (b + k0)), some (.int x1), some (.int x2)] [] sg (fX3_tripOf k0 x1 x2 sg)
  unfold fX3_tripOf
  refine q_aload_n (pc := 0) dX3_tripOf_0 rfl ?_
  refine qg_3_3 (pc := 1) dX3_tripOf_1 h0 lf_X3_26 ?_
  refine q_iload_n (pc := 4) dX3_tripOf_4 rfl ?_
  refine q_callVi (pc := 5) [.int x1] dX3_tripOf_5 lm_X3_84 yX2_has_ok yX2_has_in (qch_3_3 hK h0) (by decide) rfl (sX2_has hK (qch_3_3 hK h0) x1 sg) rfl rfl (Nat.le_of_ble_eq_true rfl) ⟨by decide, by decide⟩ (fun r1 s2 => ?_)
  refine q_if_ne (pc := 8) 13 dX3_tripOf_8 (by decide) ?_ ?_
  · refine q_iload_n (pc := 13) dX3_tripOf_13 rfl ?_
    refine q_sel (fun hx14_0 => ?_) (fun hx14_0 => ?_)
    · refine q_tabIn (pc := 14) 40 dX3_tripOf_14 (by rw [hx14_0]; decide) (by rw [hx14_0]; decide) (by rw [hx14_0]; rfl) (by decide) ?_
      refine q_aload_n (pc := 40) dX3_tripOf_40 rfl ?_
      refine qg_3_3 (pc := 41) dX3_tripOf_41 h0 lf_X3_26 ?_
      refine q_iload_n (pc := 44) dX3_tripOf_44 rfl ?_
      refine q_callVi (pc := 45) [.int x1] dX3_tripOf_45 lm_X3_87 yX2_rayOf_ok yX2_rayOf_in (qch_3_3 hK h0) (by decide) rfl (sX2_rayOf hK (qch_3_3 hK h0) x1 s2) rfl rfl (Nat.le_of_ble_eq_true rfl) ⟨by decide, by decide⟩ (fun r3 s4 => ?_)
      exact q_ireturn (pc := 48) dX3_tripOf_48
    refine q_sel (fun hx14_1 => ?_) (fun hx14_1 => ?_)
    · refine q_tabIn (pc := 14) 49 dX3_tripOf_14 (by rw [hx14_1]; decide) (by rw [hx14_1]; decide) (by rw [hx14_1]; rfl) (by decide) ?_
      refine q_aload_n (pc := 49) dX3_tripOf_49 rfl ?_
      refine qg_3_3 (pc := 50) dX3_tripOf_50 h0 lf_X3_26 ?_
      refine q_iload_n (pc := 53) dX3_tripOf_53 rfl ?_
      refine q_callVi (pc := 54) [.int x1] dX3_tripOf_54 lm_X3_91 yX2_stepsOf_ok yX2_stepsOf_in (qch_3_3 hK h0) (by decide) rfl (sX2_stepsOf hK (qch_3_3 hK h0) x1 s2) rfl rfl (Nat.le_of_ble_eq_true rfl) ⟨by decide, by decide⟩ (fun r5 s6 => ?_)
      exact q_ireturn (pc := 57) dX3_tripOf_57
    refine q_sel (fun hx14_2 => ?_) (fun hx14_2 => ?_)
    · refine q_tabIn (pc := 14) 58 dX3_tripOf_14 (by rw [hx14_2]; decide) (by rw [hx14_2]; decide) (by rw [hx14_2]; rfl) (by decide) ?_
      refine q_aload_n (pc := 58) dX3_tripOf_58 rfl ?_
      refine q_aload_n (pc := 59) dX3_tripOf_59 rfl ?_
      refine qg_3_3 (pc := 60) dX3_tripOf_60 h0 lf_X3_26 ?_
      refine q_iload_n (pc := 63) dX3_tripOf_63 rfl ?_
      refine q_iconst (pc := 64) (-1) dX3_tripOf_64 (by decide) ?_
      refine q_callVi (pc := 65) [.int x1, .int (-1)] dX3_tripOf_65 lm_X3_94 yX2_stepsAhead_ok yX2_stepsAhead_in (qch_3_3 hK h0) (by decide) rfl (sX2_stepsAhead hK (qch_3_3 hK h0) x1 (-1) s2) rfl rfl (Nat.le_of_ble_eq_true rfl) ⟨by decide, by decide⟩ (fun r7 s8 => ?_)
      refine q_callVi (pc := 68) [.int r7] dX3_tripOf_68 lm_X3_97 yX3_wholeTrips_ok yX3_wholeTrips_in h0 (by decide) rfl (sX3_wholeTrips hK h0 r7 s8) rfl rfl (Nat.le_of_ble_eq_true rfl) ⟨by decide, by decide⟩ (fun r9 s10 => ?_)
      exact q_ireturn (pc := 71) dX3_tripOf_71
    refine q_tabOut (pc := 14) 72 dX3_tripOf_14 (by have := qne 0 0 (by decide) hx14_0; have := qne 1 1 (by decide) hx14_1; have := qne 2 2 (by decide) hx14_2; omega) (by decide) ?_
    refine q_bipush (pc := 72) (-2) dX3_tripOf_72 (by decide) ?_
    exact q_ireturn (pc := 74) dX3_tripOf_74
  refine q_iconst (pc := 11) (-1) dX3_tripOf_11 (by decide) ?_
  exact q_ireturn (pc := 12) dX3_tripOf_12
-- LineSearch.drop()I
def fX3_drop (k0 : Nat) (sg : qSt) : qR :=
  qb (fX2_removeLast (k0 + 3) sg) fun r1 s2 =>
  if r1 = 0 then
    some ((-1), s2)
  else
  some ((s2 (k0 + 3) 2), s2)
set_option maxRecDepth 20000 in
set_option maxHeartbeats 4000000 in
theorem sX3_drop {b : Nat} {K : List Nat} (hK : qOk K) {k0 : Nat} (h0 : qIn K k0 3) (sg : qSt) : qS yX3_drop cX3_drop 1 (some .int) 1 20 b K [.ref (b + k0)] sg (fX3_drop k0 sg) := by
  refine qS_of (own := RX3) rfl (by decide) hK.1 (by simp [Value.category]) (Nat.le_of_ble_eq_true rfl) (fun z _ ty h => by cases h; exact vp_nar_int _) ?_
  show qJ RX3 cX3_drop 1 1 20 false (fun _ _ => True) b K 0 [some (.ref (b + k0))] [] sg (fX3_drop k0 sg)
  unfold fX3_drop
  refine q_aload_n (pc := 0) dX3_drop_0 rfl ?_
  refine qg_3_3 (pc := 1) dX3_drop_1 h0 lf_X3_26 ?_
  refine q_callVi (pc := 4) [] dX3_drop_4 lm_X3_100 yX2_removeLast_ok yX2_removeLast_in (qch_3_3 hK h0) (by decide) rfl (sX2_removeLast hK (qch_3_3 hK h0) sg) rfl rfl (Nat.le_of_ble_eq_true rfl) ⟨by decide, by decide⟩ (fun r1 s2 => ?_)
  refine q_if_eq (pc := 7) 20 dX3_drop_7 (by decide) ?_ ?_
  · refine q_iconst (pc := 20) (-1) dX3_drop_20 (by decide) ?_
    exact q_ireturn (pc := 21) dX3_drop_21
  refine q_aload_n (pc := 10) dX3_drop_10 rfl ?_
  refine qg_3_3 (pc := 11) dX3_drop_11 h0 lf_X3_26 ?_
  refine qg_2_2 (pc := 14) dX3_drop_14 (qch_3_3 hK h0) lf_X3_78 ?_
  refine q_goto (pc := 17) 21 dX3_drop_17 (by decide) ?_
  exact q_ireturn (pc := 21) dX3_drop_21
-- LineSearch.clear()I
def fX3_clear (k0 : Nat) (sg : qSt) : qR :=
  qb (fX2_empty (k0 + 3) sg) fun r1 s2 =>
  some ((sg (k0 + 3) 2), s2)
set_option maxRecDepth 20000 in
set_option maxHeartbeats 4000000 in
theorem sX3_clear {b : Nat} {K : List Nat} (hK : qOk K) {k0 : Nat} (h0 : qIn K k0 3) (sg : qSt) : qS yX3_clear cX3_clear 2 (some .int) 1 20 b K [.ref (b + k0)] sg (fX3_clear k0 sg) := by
  refine qS_of (own := RX3) rfl (by decide) hK.1 (by simp [Value.category]) (Nat.le_of_ble_eq_true rfl) (fun z _ ty h => by cases h; exact vp_nar_int _) ?_
  show qJ RX3 cX3_clear 2 1 20 false (fun _ _ => True) b K 0 [some (.ref (b + k0)), none] [] sg (fX3_clear k0 sg)
  unfold fX3_clear
  refine q_aload_n (pc := 0) dX3_clear_0 rfl ?_
  refine qg_3_3 (pc := 1) dX3_clear_1 h0 lf_X3_26 ?_
  refine qg_2_2 (pc := 4) dX3_clear_4 (qch_3_3 hK h0) lf_X3_78 ?_
  refine q_istore_n (pc := 7) dX3_clear_7 (by decide) ?_
  refine q_aload_n (pc := 8) dX3_clear_8 rfl ?_
  refine qg_3_3 (pc := 9) dX3_clear_9 h0 lf_X3_26 ?_
  refine q_callVv (pc := 12) [] dX3_clear_12 lm_X3_64 yX2_empty_ok yX2_empty_in (qch_3_3 hK h0) (by decide) rfl (sX2_empty hK (qch_3_3 hK h0) sg) rfl rfl (Nat.le_of_ble_eq_true rfl) ⟨by decide, by decide⟩ (fun r1 s2 => ?_)
  refine q_iload_n (pc := 15) dX3_clear_15 rfl ?_
  exact q_ireturn (pc := 16) dX3_clear_16
-- LineSearch.wayTo(II)I
def fX3_wayTo (k0 : Nat) (x1 x2 : Int32) (sg : qSt) : qR :=
  qb (fX2_firstTo (k0 + 3) x1 x2 (-1) sg) fun r1 s2 =>
  if 0 ≤ r1 then
    qb (fX2_stepsAhead (k0 + 3) r1 (-1) s2) fun r3 s4 =>
    qb (fX3_wholeTrips k0 r3 s4) fun r5 s6 =>
    some ((r5 + ((s6 k0 0) * x2)), s6)
  else
  some ((-6), s2)
set_option maxRecDepth 20000 in
set_option maxHeartbeats 4000000 in
theorem sX3_wayTo {b : Nat} {K : List Nat} (hK : qOk K) {k0 : Nat} (h0 : qIn K k0 3) (x1 x2 : Int32) (sg : qSt) : qS yX3_wayTo cX3_wayTo 4 (some .int) 3 66 b K [.ref (b + k0), .int x1, .int x2] sg (fX3_wayTo k0 x1 x2 sg) := by
  refine qS_of (own := RX3) rfl (by decide) hK.1 (by simp [Value.category]) (Nat.le_of_ble_eq_true rfl) (fun z _ ty h => by cases h; exact vp_nar_int _) ?_
  show qJ RX3 cX3_wayTo 4 3 66 false (fun _ _ => True) b K 0 [some (.ref (b + k0)), some (.int x1), some (.int x2), none] [] sg (fX3_wayTo k0 x1 x2 sg)
  unfold fX3_wayTo
  refine q_aload_n (pc := 0) dX3_wayTo_0 rfl ?_
  refine qg_3_3 (pc := 1) dX3_wayTo_1 h0 lf_X3_26 ?_
  refine q_iload_n (pc := 4) dX3_wayTo_4 rfl ?_
  refine q_iload_n (pc := 5) dX3_wayTo_5 rfl ?_
  refine q_iconst (pc := 6) (-1) dX3_wayTo_6 (by decide) ?_
  refine q_callVi (pc := 7) [.int x1, .int x2, .int (-1)] dX3_wayTo_7 lm_X3_158 yX2_firstTo_ok yX2_firstTo_in (qch_3_3 hK h0) (by decide) rfl (sX2_firstTo hK (qch_3_3 hK h0) x1 x2 (-1) sg) rfl rfl (Nat.le_of_ble_eq_true rfl) ⟨by decide, by decide⟩ (fun r1 s2 => ?_)
  refine q_istore_n (pc := 10) dX3_wayTo_10 (by decide) ?_
  refine q_iload_n (pc := 11) dX3_wayTo_11 rfl ?_
  refine q_if_ge (pc := 12) 20 dX3_wayTo_12 (by decide) ?_ ?_
  · refine q_aload_n (pc := 20) dX3_wayTo_20 rfl ?_
    refine q_aload_n (pc := 21) dX3_wayTo_21 rfl ?_
    refine qg_3_3 (pc := 22) dX3_wayTo_22 h0 lf_X3_26 ?_
    refine q_iload_n (pc := 25) dX3_wayTo_25 rfl ?_
    refine q_iconst (pc := 26) (-1) dX3_wayTo_26 (by decide) ?_
    refine q_callVi (pc := 27) [.int r1, .int (-1)] dX3_wayTo_27 lm_X3_94 yX2_stepsAhead_ok yX2_stepsAhead_in (qch_3_3 hK h0) (by decide) rfl (sX2_stepsAhead hK (qch_3_3 hK h0) r1 (-1) s2) rfl rfl (Nat.le_of_ble_eq_true rfl) ⟨by decide, by decide⟩ (fun r3 s4 => ?_)
    refine q_callVi (pc := 30) [.int r3] dX3_wayTo_30 lm_X3_97 yX3_wholeTrips_ok yX3_wholeTrips_in h0 (by decide) rfl (sX3_wholeTrips hK h0 r3 s4) rfl rfl (Nat.le_of_ble_eq_true rfl) ⟨by decide, by decide⟩ (fun r5 s6 => ?_)
    refine q_aload_n (pc := 33) dX3_wayTo_33 rfl ?_
    refine qg_3_0 (pc := 34) dX3_wayTo_34 h0 lf_X3_9 ?_
    refine q_iload_n (pc := 37) dX3_wayTo_37 rfl ?_
    refine q_imul (pc := 38) dX3_wayTo_38 ?_
    refine q_iadd (pc := 39) dX3_wayTo_39 ?_
    exact q_ireturn (pc := 40) dX3_wayTo_40
  refine q_bipush (pc := 15) (-6) dX3_wayTo_15 (by decide) ?_
  refine q_goto (pc := 17) 40 dX3_wayTo_17 (by decide) ?_
  exact q_ireturn (pc := 40) dX3_wayTo_40
-- LineSearch.way(II)I
def fX3_way (k0 : Nat) (x1 x2 : Int32) (sg : qSt) : qR :=
  qb (fX0_has (k0 + 1) x1 x2 sg) fun r1 s2 =>
  if r1 = 0 then
    some ((-1), s2)
  else
  qb (fX3_wayTo k0 x1 x2 s2) fun r3 s4 =>
  some (r3, s4)
set_option maxRecDepth 20000 in
set_option maxHeartbeats 4000000 in
theorem sX3_way {b : Nat} {K : List Nat} (hK : qOk K) {k0 : Nat} (h0 : qIn K k0 3) (x1 x2 : Int32) (sg : qSt) : qS yX3_way cX3_way 3 (some .int) 4 89 b K [.ref (b + k0), .int x1, .int x2] sg (fX3_way k0 x1 x2 sg) := by
  refine qS_of (own := RX3) rfl (by decide) hK.1 (by simp [Value.category]) (Nat.le_of_ble_eq_true rfl) (fun z _ ty h => by cases h; exact vp_nar_int _) ?_
  show qJ RX3 cX3_way 3 4 89 false (fun _ _ => True) b K 0 [some (.ref (b + k0)), some (.int x1), some (.int x2)] [] sg (fX3_way k0 x1 x2 sg)
  unfold fX3_way
  refine q_aload_n (pc := 0) dX3_way_0 rfl ?_
  refine qg_3_2 (pc := 1) dX3_way_1 h0 lf_X3_19 ?_
  refine q_iload_n (pc := 4) dX3_way_4 rfl ?_
  refine q_iload_n (pc := 5) dX3_way_5 rfl ?_
  refine q_callVi (pc := 6) [.int x1, .int x2] dX3_way_6 lm_X3_67 yX0_has_ok yX0_has_in (qch_3_2 hK h0) (by decide) rfl (sX0_has hK (qch_3_2 hK h0) x1 x2 sg) rfl rfl (Nat.le_of_ble_eq_true rfl) ⟨by decide, by decide⟩ (fun r1 s2 => ?_)
  refine q_if_eq (pc := 9) 21 dX3_way_9 (by decide) ?_ ?_
  · refine q_iconst (pc := 21) (-1) dX3_way_21 (by decide) ?_
    exact q_ireturn (pc := 22) dX3_way_22
  refine q_aload_n (pc := 12) dX3_way_12 rfl ?_
  refine q_iload_n (pc := 13) dX3_way_13 rfl ?_
  refine q_iload_n (pc := 14) dX3_way_14 rfl ?_
  refine q_callVi (pc := 15) [.int x1, .int x2] dX3_way_15 lm_X3_104 yX3_wayTo_ok yX3_wayTo_in h0 (by decide) rfl (sX3_wayTo hK h0 x1 x2 s2) rfl rfl (Nat.le_of_ble_eq_true rfl) ⟨by decide, by decide⟩ (fun r3 s4 => ?_)
  refine q_goto (pc := 18) 22 dX3_way_18 (by decide) ?_
  exact q_ireturn (pc := 22) dX3_way_22
-- LineSearch.commonDivisor(II)I
def fX3_commonDivisor_7 : Nat → Int32 → Int32 → Int32 → qSt → qR
  | 0, _, _, _, _ => none
  | n + 1, x2, x3, x4, sg =>
    if 64 ≤ x4 then
      some (x2, sg)
    else
    if x3 ≤ 0 then
      some (x2, sg)
    else
    if x3 = 0 then none else
    fX3_commonDivisor_7 n x3 ((x2 - x2 / x3 * x3)) ((x4 + 1)) sg
set_option maxRecDepth 20000 in
set_option maxHeartbeats 4000000 in
theorem tX3_commonDivisor_7 {b : Nat} {K : List Nat} (hK : qOk K) : ∀ (n : Nat) (x2 x3 x4 : Int32) (sg : qSt), qJ RX3 cX3_commonDivisor 6 0 0 false (fun _ _ => True) b K 7 [none, none, some (.int x2), some (.int x3), some (.int x4), none] [] sg (fX3_commonDivisor_7 n x2 x3 x4 sg) := by
  intro n
  induction n with
  | zero => intro x2 x3 x4 sg; exact qJ_none
  | succ n ih =>
    intro x2 x3 x4 sg
    unfold fX3_commonDivisor_7
    refine q_iload (pc := 7) dX3_commonDivisor_7 rfl ?_
    refine q_bipush (pc := 9) 64 dX3_commonDivisor_9 (by decide) ?_
    refine q_icmp_ge (pc := 11) 34 dX3_commonDivisor_11 (by decide) ?_ ?_
    · refine q_iload_n (pc := 34) dX3_commonDivisor_34 rfl ?_
      exact q_ireturn (pc := 35) dX3_commonDivisor_35
    refine q_iload_n (pc := 14) dX3_commonDivisor_14 rfl ?_
    refine q_if_le (pc := 15) 34 dX3_commonDivisor_15 (by decide) ?_ ?_
    · refine q_iload_n (pc := 34) dX3_commonDivisor_34 rfl ?_
      exact q_ireturn (pc := 35) dX3_commonDivisor_35
    refine q_iload_n (pc := 18) dX3_commonDivisor_18 rfl ?_
    refine q_iload_n (pc := 19) dX3_commonDivisor_19 rfl ?_
    refine q_irem (pc := 20) dX3_commonDivisor_20 ?_
    refine q_istore (pc := 21) dX3_commonDivisor_21 (by decide) ?_
    refine q_iload_n (pc := 23) dX3_commonDivisor_23 rfl ?_
    refine q_istore_n (pc := 24) dX3_commonDivisor_24 (by decide) ?_
    refine q_iload (pc := 25) dX3_commonDivisor_25 rfl ?_
    refine q_istore_n (pc := 27) dX3_commonDivisor_27 (by decide) ?_
    refine q_iinc (pc := 28) 1 dX3_commonDivisor_28 rfl (by decide) (by decide) ?_
    refine q_goto (pc := 31) 7 dX3_commonDivisor_31 (by decide) ?_
    refine qJ_weak [none, none, some (.int x3), some (.int ((x2 - x2 / x3 * x3))), some (.int ((x4 + 1))), none] ⟨rfl, rfl, rfl, trivial⟩ ?_
    exact ih x3 ((x2 - x2 / x3 * x3)) ((x4 + 1)) sg
def fX3_commonDivisor (x0 x1 : Int32) (sg : qSt) : qR :=
  fX3_commonDivisor_7 qfu x0 x1 0 sg
set_option maxRecDepth 20000 in
set_option maxHeartbeats 4000000 in
theorem sX3_commonDivisor {b : Nat} {K : List Nat} (hK : qOk K) (x0 x1 : Int32) (sg : qSt) : qS yX3_commonDivisor cX3_commonDivisor 6 (some .int) 0 0 b K [.int x0, .int x1] sg (fX3_commonDivisor x0 x1 sg) := by
  refine qS_of (own := RX3) rfl (by decide) hK.1 (by simp [Value.category]) (Nat.le_of_ble_eq_true rfl) (fun z _ ty h => by cases h; exact vp_nar_int _) ?_
  show qJ RX3 cX3_commonDivisor 6 0 0 false (fun _ _ => True) b K 0 [some (.int x0), some (.int x1), none, none, none, none] [] sg (fX3_commonDivisor x0 x1 sg)
  unfold fX3_commonDivisor
  refine q_iload_n (pc := 0) dX3_commonDivisor_0 rfl ?_
  refine q_istore_n (pc := 1) dX3_commonDivisor_1 (by decide) ?_
  refine q_iload_n (pc := 2) dX3_commonDivisor_2 rfl ?_
  refine q_istore_n (pc := 3) dX3_commonDivisor_3 (by decide) ?_
  refine q_iconst (pc := 4) 0 dX3_commonDivisor_4 (by decide) ?_
  refine q_istore (pc := 5) dX3_commonDivisor_5 (by decide) ?_
  refine qJ_weak [none, none, some (.int x0), some (.int x1), some (.int 0), none] ⟨rfl, rfl, rfl, trivial⟩ ?_
  exact tX3_commonDivisor_7 hK qfu x0 x1 0 sg
-- LineSearch.lowest(III)I
def fX3_lowest (x0 x1 x2 : Int32) (sg : qSt) : qR :=
  qb (fX3_commonDivisor x0 x1 sg) fun r1 s2 =>
  if 1 ≤ r1 then
    if x2 = 0 then
      if r1 = 0 then none else
      some ((x0 / r1), s2)
    else
    if r1 = 0 then none else
    some ((x1 / r1), s2)
  else
  if x2 = 0 then
    some (x0, s2)
  else
  some (x1, s2)
set_option maxRecDepth 20000 in
set_option maxHeartbeats 4000000 in
theorem sX3_lowest {b : Nat} {K : List Nat} (hK : qOk K) (x0 x1 x2 : Int32) (sg : qSt) : qS yX3_lowest cX3_lowest 4 (some .int) 1 25 b K [.int x0, .int x1, .int x2] sg (fX3_lowest x0 x1 x2 sg) := by
  refine qS_of (own := RX3) rfl (by decide) hK.1 (by simp [Value.category]) (Nat.le_of_ble_eq_true rfl) (fun z _ ty h => by cases h; exact vp_nar_int _) ?_
  show qJ RX3 cX3_lowest 4 1 25 false (fun _ _ => True) b K 0 [some (.int x0), some (.int x1), some (.int x2), none] [] sg (fX3_lowest x0 x1 x2 sg)
  unfold fX3_lowest
  refine q_iload_n (pc := 0) dX3_lowest_0 rfl ?_
  refine q_iload_n (pc := 1) dX3_lowest_1 rfl ?_
  refine q_callSi (pc := 2) [.int x0, .int x1] dX3_lowest_2 lm_X3_168 yX3_commonDivisor_ok yX3_commonDivisor_in (sX3_commonDivisor hK x0 x1 sg) rfl rfl (Nat.le_of_ble_eq_true rfl) ⟨by decide, by decide⟩ (fun r1 s2 => ?_)
  refine q_istore_n (pc := 5) dX3_lowest_5 (by decide) ?_
  refine q_iload_n (pc := 6) dX3_lowest_6 rfl ?_
  refine q_iconst (pc := 7) 1 dX3_lowest_7 (by decide) ?_
  refine q_icmp_ge (pc := 8) 21 dX3_lowest_8 (by decide) ?_ ?_
  · refine q_iload_n (pc := 21) dX3_lowest_21 rfl ?_
    refine q_if_ne (pc := 22) 31 dX3_lowest_22 (by decide) ?_ ?_
    · refine q_iload_n (pc := 31) dX3_lowest_31 rfl ?_
      refine q_iload_n (pc := 32) dX3_lowest_32 rfl ?_
      refine q_idiv (pc := 33) dX3_lowest_33 ?_
      exact q_ireturn (pc := 34) dX3_lowest_34
    refine q_iload_n (pc := 25) dX3_lowest_25 rfl ?_
    refine q_iload_n (pc := 26) dX3_lowest_26 rfl ?_
    refine q_idiv (pc := 27) dX3_lowest_27 ?_
    refine q_goto (pc := 28) 34 dX3_lowest_28 (by decide) ?_
    exact q_ireturn (pc := 34) dX3_lowest_34
  refine q_iload_n (pc := 11) dX3_lowest_11 rfl ?_
  refine q_if_ne (pc := 12) 19 dX3_lowest_12 (by decide) ?_ ?_
  · refine q_iload_n (pc := 19) dX3_lowest_19 rfl ?_
    exact q_ireturn (pc := 20) dX3_lowest_20
  refine q_iload_n (pc := 15) dX3_lowest_15 rfl ?_
  refine q_goto (pc := 16) 20 dX3_lowest_16 (by decide) ?_
  exact q_ireturn (pc := 20) dX3_lowest_20
-- LineSearch.late(III)I
def fX3_late (k0 : Nat) (x1 x2 x3 : Int32) (sg : qSt) : qR :=
  qb (fX0_has (k0 + 1) x1 x2 sg) fun r1 s2 =>
  if r1 = 0 then
    some ((-1), s2)
  else
  if x3 < 0 then
    some ((-2), s2)
  else
  if x3 ≤ 1 then
    qb (fX3_wayTo k0 x1 x2 s2) fun r3 s4 =>
    if r3 = (-6) then
      some ((-6), s4)
    else
    qb (fX3_lowest r3 ((s4 k0 0) * x2) x3 s4) fun r5 s6 =>
    some (r5, s6)
  else
  some ((-2), s2)
set_option maxRecDepth 20000 in
set_option maxHeartbeats 4000000 in
theorem sX3_late {b : Nat} {K : List Nat} (hK : qOk K) {k0 : Nat} (h0 : qIn K k0 3) (x1 x2 x3 : Int32) (sg : qSt) : qS yX3_late cX3_late 5 (some .int) 4 89 b K [.ref (b + k0), .int x1, .int x2, .int x3] sg (fX3_late k0 x1 x2 x3 sg) := by
  refine qS_of (own := RX3) rfl (by decide) hK.1 (by simp [Value.category]) (Nat.le_of_ble_eq_true rfl) (fun z _ ty h => by cases h; exact vp_nar_int _) ?_
  show qJ RX3 cX3_late 5 4 89 false (fun _ _ => True) b K 0 [some (.ref (b + k0)), some (.int x1), some (.int x2), some (.int x3), none] [] sg (fX3_late k0 x1 x2 x3 sg)
  unfold fX3_late
  refine q_aload_n (pc := 0) dX3_late_0 rfl ?_
  refine qg_3_2 (pc := 1) dX3_late_1 h0 lf_X3_19 ?_
  refine q_iload_n (pc := 4) dX3_late_4 rfl ?_
  refine q_iload_n (pc := 5) dX3_late_5 rfl ?_
  refine q_callVi (pc := 6) [.int x1, .int x2] dX3_late_6 lm_X3_67 yX0_has_ok yX0_has_in (qch_3_2 hK h0) (by decide) rfl (sX0_has hK (qch_3_2 hK h0) x1 x2 sg) rfl rfl (Nat.le_of_ble_eq_true rfl) ⟨by decide, by decide⟩ (fun r1 s2 => ?_)
  refine q_if_ne (pc := 9) 14 dX3_late_9 (by decide) ?_ ?_
  · refine q_iload_n (pc := 14) dX3_late_14 rfl ?_
    refine q_if_lt (pc := 15) 23 dX3_late_15 (by decide) ?_ ?_
    · refine q_bipush (pc := 23) (-2) dX3_late_23 (by decide) ?_
      exact q_ireturn (pc := 25) dX3_late_25
    refine q_iload_n (pc := 18) dX3_late_18 rfl ?_
    refine q_iconst (pc := 19) 1 dX3_late_19 (by decide) ?_
    refine q_icmp_le (pc := 20) 26 dX3_late_20 (by decide) ?_ ?_
    · refine q_aload_n (pc := 26) dX3_late_26 rfl ?_
      refine q_iload_n (pc := 27) dX3_late_27 rfl ?_
      refine q_iload_n (pc := 28) dX3_late_28 rfl ?_
      refine q_callVi (pc := 29) [.int x1, .int x2] dX3_late_29 lm_X3_104 yX3_wayTo_ok yX3_wayTo_in h0 (by decide) rfl (sX3_wayTo hK h0 x1 x2 s2) rfl rfl (Nat.le_of_ble_eq_true rfl) ⟨by decide, by decide⟩ (fun r3 s4 => ?_)
      refine q_istore (pc := 32) dX3_late_32 (by decide) ?_
      refine q_iload (pc := 34) dX3_late_34 rfl ?_
      refine q_bipush (pc := 36) (-6) dX3_late_36 (by decide) ?_
      refine q_icmp_ne (pc := 38) 46 dX3_late_38 (by decide) ?_ ?_
      · refine q_iload (pc := 46) dX3_late_46 rfl ?_
        refine q_aload_n (pc := 48) dX3_late_48 rfl ?_
        refine qg_3_0 (pc := 49) dX3_late_49 h0 lf_X3_9 ?_
        refine q_iload_n (pc := 52) dX3_late_52 rfl ?_
        refine q_imul (pc := 53) dX3_late_53 ?_
        refine q_iload_n (pc := 54) dX3_late_54 rfl ?_
        refine q_callSi (pc := 55) [.int r3, .int (((s4 k0 0) * x2)), .int x3] dX3_late_55 lm_X3_107 yX3_lowest_ok yX3_lowest_in (sX3_lowest hK r3 ((s4 k0 0) * x2) x3 s4) rfl rfl (Nat.le_of_ble_eq_true rfl) ⟨by decide, by decide⟩ (fun r5 s6 => ?_)
        exact q_ireturn (pc := 58) dX3_late_58
      refine q_bipush (pc := 41) (-6) dX3_late_41 (by decide) ?_
      refine q_goto (pc := 43) 58 dX3_late_43 (by decide) ?_
      exact q_ireturn (pc := 58) dX3_late_58
    refine q_bipush (pc := 23) (-2) dX3_late_23 (by decide) ?_
    exact q_ireturn (pc := 25) dX3_late_25
  refine q_iconst (pc := 12) (-1) dX3_late_12 (by decide) ?_
  exact q_ireturn (pc := 13) dX3_late_13
-- LineSearch.countMissed()I
def fX3_countMissed_4 (k0 : Nat) : Nat → Int32 → Int32 → qSt → qR
  | 0, _, _, _ => none
  | n + 1, x1, x2, sg =>
    if (sg (k0 + 1) 0) ≤ x2 then
      some (x1, sg)
    else
    qb (fX2_farthest (k0 + 3) x2 (sg (k0 + 3) 2) sg) fun r1 s2 =>
    fX3_countMissed_4 k0 n ((x1 + ((sg (k0 + 1) 1) - r1))) ((x2 + 1)) s2
set_option maxRecDepth 20000 in
set_option maxHeartbeats 4000000 in
theorem tX3_countMissed_4 {b : Nat} {K : List Nat} (hK : qOk K) {k0 : Nat} (h0 : qIn K k0 3) : ∀ (n : Nat) (x1 x2 : Int32) (sg : qSt), qJ RX3 cX3_countMissed 3 3 66 false (fun _ _ => True) b K 4 [some (.ref (b + k0)), some (.int x1), some (.int x2)] [] sg (fX3_countMissed_4 k0 n x1 x2 sg) := by
  intro n
  induction n with
  | zero => intro x1 x2 sg; exact qJ_none
  | succ n ih =>
    intro x1 x2 sg
    unfold fX3_countMissed_4
    refine q_iload_n (pc := 4) dX3_countMissed_4 rfl ?_
    refine q_aload_n (pc := 5) dX3_countMissed_5 rfl ?_
    refine qg_3_2 (pc := 6) dX3_countMissed_6 h0 lf_X3_19 ?_
    refine qg_0_0 (pc := 9) dX3_countMissed_9 (qch_3_2 hK h0) lf_X3_118 ?_
    refine q_icmp_ge (pc := 12) 47 dX3_countMissed_12 (by decide) ?_ ?_
    · refine q_iload_n (pc := 47) dX3_countMissed_47 rfl ?_
      exact q_ireturn (pc := 48) dX3_countMissed_48
    refine q_iload_n (pc := 15) dX3_countMissed_15 rfl ?_
    refine q_aload_n (pc := 16) dX3_countMissed_16 rfl ?_
    refine qg_3_2 (pc := 17) dX3_countMissed_17 h0 lf_X3_19 ?_
    refine qg_0_1 (pc := 20) dX3_countMissed_20 (qch_3_2 hK h0) lf_X3_121 ?_
    refine q_aload_n (pc := 23) dX3_countMissed_23 rfl ?_
    refine qg_3_3 (pc := 24) dX3_countMissed_24 h0 lf_X3_26 ?_
    refine q_iload_n (pc := 27) dX3_countMissed_27 rfl ?_
    refine q_aload_n (pc := 28) dX3_countMissed_28 rfl ?_
    refine qg_3_3 (pc := 29) dX3_countMissed_29 h0 lf_X3_26 ?_
    refine qg_2_2 (pc := 32) dX3_countMissed_32 (qch_3_3 hK h0) lf_X3_78 ?_
    refine q_callVi (pc := 35) [.int x2, .int ((sg (k0 + 3) 2))] dX3_countMissed_35 lm_X3_124 yX2_farthest_ok yX2_farthest_in (qch_3_3 hK h0) (by decide) rfl (sX2_farthest hK (qch_3_3 hK h0) x2 (sg (k0 + 3) 2) sg) rfl rfl (Nat.le_of_ble_eq_true rfl) ⟨by decide, by decide⟩ (fun r1 s2 => ?_)
    refine q_isub (pc := 38) dX3_countMissed_38 ?_
    refine q_iadd (pc := 39) dX3_countMissed_39 ?_
    refine q_istore_n (pc := 40) dX3_countMissed_40 (by decide) ?_
    refine q_iinc (pc := 41) 1 dX3_countMissed_41 rfl (by decide) (by decide) ?_
    refine q_goto (pc := 44) 4 dX3_countMissed_44 (by decide) ?_
    exact ih ((x1 + ((sg (k0 + 1) 1) - r1))) ((x2 + 1)) s2
def fX3_countMissed (k0 : Nat) (sg : qSt) : qR :=
  fX3_countMissed_4 k0 qfu 0 0 sg
set_option maxRecDepth 20000 in
set_option maxHeartbeats 4000000 in
theorem sX3_countMissed {b : Nat} {K : List Nat} (hK : qOk K) {k0 : Nat} (h0 : qIn K k0 3) (sg : qSt) : qS yX3_countMissed cX3_countMissed 3 (some .int) 3 66 b K [.ref (b + k0)] sg (fX3_countMissed k0 sg) := by
  refine qS_of (own := RX3) rfl (by decide) hK.1 (by simp [Value.category]) (Nat.le_of_ble_eq_true rfl) (fun z _ ty h => by cases h; exact vp_nar_int _) ?_
  show qJ RX3 cX3_countMissed 3 3 66 false (fun _ _ => True) b K 0 [some (.ref (b + k0)), none, none] [] sg (fX3_countMissed k0 sg)
  unfold fX3_countMissed
  refine q_iconst (pc := 0) 0 dX3_countMissed_0 (by decide) ?_
  refine q_istore_n (pc := 1) dX3_countMissed_1 (by decide) ?_
  refine q_iconst (pc := 2) 0 dX3_countMissed_2 (by decide) ?_
  refine q_istore_n (pc := 3) dX3_countMissed_3 (by decide) ?_
  exact tX3_countMissed_4 hK h0 qfu 0 0 sg
-- LineSearch.worstPlace()I
def fX3_worstPlace_29 (k0 : Nat) (c14 : Int32 → Int32 → Int32 → Int32 → qSt → qR) : Nat → Int32 → Int32 → Int32 → Int32 → Int32 → qSt → qR
  | 0, _, _, _, _, _, _ => none
  | n + 1, x1, x2, x3, x4, x5, sg =>
    if (sg (k0 + 1) 1) < x5 then
      c14 x1 x2 x3 ((x4 + 1)) sg
    else
    qb (fX3_wayTo k0 x4 x5 sg) fun r1 s2 =>
    if (r1 * x2) ≤ (x3 * x5) then
      fX3_worstPlace_29 k0 c14 n x1 x2 x3 x4 ((x5 + 1)) s2
    else
    fX3_worstPlace_29 k0 c14 n x4 x5 r1 x4 ((x5 + 1)) s2
set_option maxRecDepth 20000 in
set_option maxHeartbeats 4000000 in
theorem tX3_worstPlace_29 {b : Nat} {K : List Nat} (hK : qOk K) {k0 : Nat} {c14 : Int32 → Int32 → Int32 → Int32 → qSt → qR} (h0 : qIn K k0 3) (hc14 : ∀ (x1 x2 x3 x4 : Int32) (sg : qSt), qJ RX3 cX3_worstPlace 7 4 89 false (fun _ _ => True) b K 14 [some (.ref (b + k0)), some (.int x1), some (.int x2), some (.int x3), some (.int x4), none, none] [] sg (c14 x1 x2 x3 x4 sg)) : ∀ (n : Nat) (x1 x2 x3 x4 x5 : Int32) (sg : qSt), qJ RX3 cX3_worstPlace 7 4 89 false (fun _ _ => True) b K 29 [some (.ref (b + k0)), some (.int x1), some (.int x2), some (.int x3), some (.int x4), some (.int x5), none] [] sg (fX3_worstPlace_29 k0 c14 n x1 x2 x3 x4 x5 sg) := by
  intro n
  induction n with
  | zero => intro x1 x2 x3 x4 x5 sg; exact qJ_none
  | succ n ih =>
    intro x1 x2 x3 x4 x5 sg
    unfold fX3_worstPlace_29
    refine q_iload (pc := 29) dX3_worstPlace_29 rfl ?_
    refine q_aload_n (pc := 31) dX3_worstPlace_31 rfl ?_
    refine qg_3_2 (pc := 32) dX3_worstPlace_32 h0 lf_X3_19 ?_
    refine qg_0_1 (pc := 35) dX3_worstPlace_35 (qch_3_2 hK h0) lf_X3_121 ?_
    refine q_icmp_gt (pc := 38) 77 dX3_worstPlace_38 (by decide) ?_ ?_
    · refine q_iinc (pc := 77) 1 dX3_worstPlace_77 rfl (by decide) (by decide) ?_
      refine q_goto (pc := 80) 14 dX3_worstPlace_80 (by decide) ?_
      refine qJ_weak [some (.ref (b + k0)), some (.int x1), some (.int x2), some (.int x3), some (.int ((x4 + 1))), none, none] ⟨rfl, rfl, rfl, rfl, rfl, trivial⟩ ?_
      exact hc14 x1 x2 x3 ((x4 + 1)) sg
    refine q_aload_n (pc := 41) dX3_worstPlace_41 rfl ?_
    refine q_iload (pc := 42) dX3_worstPlace_42 rfl ?_
    refine q_iload (pc := 44) dX3_worstPlace_44 rfl ?_
    refine q_callVi (pc := 46) [.int x4, .int x5] dX3_worstPlace_46 lm_X3_104 yX3_wayTo_ok yX3_wayTo_in h0 (by decide) rfl (sX3_wayTo hK h0 x4 x5 sg) rfl rfl (Nat.le_of_ble_eq_true rfl) ⟨by decide, by decide⟩ (fun r1 s2 => ?_)
    refine q_istore (pc := 49) dX3_worstPlace_49 (by decide) ?_
    refine q_iload (pc := 51) dX3_worstPlace_51 rfl ?_
    refine q_iload_n (pc := 53) dX3_worstPlace_53 rfl ?_
    refine q_imul (pc := 54) dX3_worstPlace_54 ?_
    refine q_iload_n (pc := 55) dX3_worstPlace_55 rfl ?_
    refine q_iload (pc := 56) dX3_worstPlace_56 rfl ?_
    refine q_imul (pc := 58) dX3_worstPlace_58 ?_
    refine q_icmp_le (pc := 59) 71 dX3_worstPlace_59 (by decide) ?_ ?_
    · refine q_iinc (pc := 71) 1 dX3_worstPlace_71 rfl (by decide) (by decide) ?_
      refine q_goto (pc := 74) 29 dX3_worstPlace_74 (by decide) ?_
      refine qJ_weak [some (.ref (b + k0)), some (.int x1), some (.int x2), some (.int x3), some (.int x4), some (.int ((x5 + 1))), none] ⟨rfl, rfl, rfl, rfl, rfl, rfl, trivial⟩ ?_
      exact ih x1 x2 x3 x4 ((x5 + 1)) s2
    refine q_iload (pc := 62) dX3_worstPlace_62 rfl ?_
    refine q_istore_n (pc := 64) dX3_worstPlace_64 (by decide) ?_
    refine q_iload (pc := 65) dX3_worstPlace_65 rfl ?_
    refine q_istore_n (pc := 67) dX3_worstPlace_67 (by decide) ?_
    refine q_iload (pc := 68) dX3_worstPlace_68 rfl ?_
    refine q_istore_n (pc := 70) dX3_worstPlace_70 (by decide) ?_
    refine q_iinc (pc := 71) 1 dX3_worstPlace_71 rfl (by decide) (by decide) ?_
    refine q_goto (pc := 74) 29 dX3_worstPlace_74 (by decide) ?_
    refine qJ_weak [some (.ref (b + k0)), some (.int x4), some (.int x5), some (.int r1), some (.int x4), some (.int ((x5 + 1))), none] ⟨rfl, rfl, rfl, rfl, rfl, rfl, trivial⟩ ?_
    exact ih x4 x5 r1 x4 ((x5 + 1)) s2
def fX3_worstPlace_14 (k0 : Nat) : Nat → Int32 → Int32 → Int32 → Int32 → qSt → qR
  | 0, _, _, _, _, _ => none
  | n + 1, x1, x2, x3, x4, sg =>
    if (sg (k0 + 1) 0) ≤ x4 then
      some (((10 * x1) + x2), sg)
    else
    fX3_worstPlace_29 k0 (fun z1 z2 z3 z4 sg => fX3_worstPlace_14 k0 n z1 z2 z3 z4 sg) qfu x1 x2 x3 x4 1 sg
set_option maxRecDepth 20000 in
set_option maxHeartbeats 4000000 in
theorem tX3_worstPlace_14 {b : Nat} {K : List Nat} (hK : qOk K) {k0 : Nat} (h0 : qIn K k0 3) : ∀ (n : Nat) (x1 x2 x3 x4 : Int32) (sg : qSt), qJ RX3 cX3_worstPlace 7 4 89 false (fun _ _ => True) b K 14 [some (.ref (b + k0)), some (.int x1), some (.int x2), some (.int x3), some (.int x4), none, none] [] sg (fX3_worstPlace_14 k0 n x1 x2 x3 x4 sg) := by
  intro n
  induction n with
  | zero => intro x1 x2 x3 x4 sg; exact qJ_none
  | succ n ih =>
    intro x1 x2 x3 x4 sg
    unfold fX3_worstPlace_14
    refine q_iload (pc := 14) dX3_worstPlace_14 rfl ?_
    refine q_aload_n (pc := 16) dX3_worstPlace_16 rfl ?_
    refine qg_3_2 (pc := 17) dX3_worstPlace_17 h0 lf_X3_19 ?_
    refine qg_0_0 (pc := 20) dX3_worstPlace_20 (qch_3_2 hK h0) lf_X3_118 ?_
    refine q_icmp_ge (pc := 23) 83 dX3_worstPlace_23 (by decide) ?_ ?_
    · refine q_bipush (pc := 83) 10 dX3_worstPlace_83 (by decide) ?_
      refine q_iload_n (pc := 85) dX3_worstPlace_85 rfl ?_
      refine q_imul (pc := 86) dX3_worstPlace_86 ?_
      refine q_iload_n (pc := 87) dX3_worstPlace_87 rfl ?_
      refine q_iadd (pc := 88) dX3_worstPlace_88 ?_
      exact q_ireturn (pc := 89) dX3_worstPlace_89
    refine q_iconst (pc := 26) 1 dX3_worstPlace_26 (by decide) ?_
    refine q_istore (pc := 27) dX3_worstPlace_27 (by decide) ?_
    exact tX3_worstPlace_29 hK h0 (fun z1 z2 z3 z4 sg => ih z1 z2 z3 z4 sg) qfu x1 x2 x3 x4 1 sg
def fX3_worstPlace (k0 : Nat) (sg : qSt) : qR :=
  qb (fX3_wayTo k0 0 1 sg) fun r1 s2 =>
  fX3_worstPlace_14 k0 qfu 0 1 r1 0 s2
set_option maxRecDepth 20000 in
set_option maxHeartbeats 4000000 in
theorem sX3_worstPlace {b : Nat} {K : List Nat} (hK : qOk K) {k0 : Nat} (h0 : qIn K k0 3) (sg : qSt) : qS yX3_worstPlace cX3_worstPlace 7 (some .int) 4 89 b K [.ref (b + k0)] sg (fX3_worstPlace k0 sg) := by
  refine qS_of (own := RX3) rfl (by decide) hK.1 (by simp [Value.category]) (Nat.le_of_ble_eq_true rfl) (fun z _ ty h => by cases h; exact vp_nar_int _) ?_
  show qJ RX3 cX3_worstPlace 7 4 89 false (fun _ _ => True) b K 0 [some (.ref (b + k0)), none, none, none, none, none, none] [] sg (fX3_worstPlace k0 sg)
  unfold fX3_worstPlace
  refine q_iconst (pc := 0) 0 dX3_worstPlace_0 (by decide) ?_
  refine q_istore_n (pc := 1) dX3_worstPlace_1 (by decide) ?_
  refine q_iconst (pc := 2) 1 dX3_worstPlace_2 (by decide) ?_
  refine q_istore_n (pc := 3) dX3_worstPlace_3 (by decide) ?_
  refine q_aload_n (pc := 4) dX3_worstPlace_4 rfl ?_
  refine q_iconst (pc := 5) 0 dX3_worstPlace_5 (by decide) ?_
  refine q_iconst (pc := 6) 1 dX3_worstPlace_6 (by decide) ?_
  refine q_callVi (pc := 7) [.int 0, .int 1] dX3_worstPlace_7 lm_X3_104 yX3_wayTo_ok yX3_wayTo_in h0 (by decide) rfl (sX3_wayTo hK h0 0 1 sg) rfl rfl (Nat.le_of_ble_eq_true rfl) ⟨by decide, by decide⟩ (fun r1 s2 => ?_)
  refine q_istore_n (pc := 10) dX3_worstPlace_10 (by decide) ?_
  refine q_iconst (pc := 11) 0 dX3_worstPlace_11 (by decide) ?_
  refine q_istore (pc := 12) dX3_worstPlace_12 (by decide) ?_
  exact tX3_worstPlace_14 hK h0 qfu 0 1 r1 0 s2
-- LineSearch.worst(I)I
def fX3_worst (k0 : Nat) (x1 : Int32) (sg : qSt) : qR :=
  if x1 < 0 then
    some ((-2), sg)
  else
  if x1 ≤ 3 then
    qb (fX3_countMissed k0 sg) fun r1 s2 =>
    if r1 ≤ 0 then
      qb (fX3_worstPlace k0 s2) fun r3 s4 =>
      if x1 = 2 then
        some ((r3 / 10), s4)
      else
      if x1 = 3 then
        some ((r3 - r3 / 10 * 10), s4)
      else
      qb (fX3_wayTo k0 (r3 / 10) (r3 - r3 / 10 * 10) s4) fun r5 s6 =>
      qb (fX3_lowest r5 ((s6 k0 0) * (r3 - r3 / 10 * 10)) x1 s6) fun r7 s8 =>
      some (r7, s8)
    else
    some ((-3), s2)
  else
  some ((-2), sg)
set_option maxRecDepth 20000 in
set_option maxHeartbeats 4000000 in
theorem sX3_worst {b : Nat} {K : List Nat} (hK : qOk K) {k0 : Nat} (h0 : qIn K k0 3) (x1 : Int32) (sg : qSt) : qS yX3_worst cX3_worst 5 (some .int) 5 115 b K [.ref (b + k0), .int x1] sg (fX3_worst k0 x1 sg) := by
  refine qS_of (own := RX3) rfl (by decide) hK.1 (by simp [Value.category]) (Nat.le_of_ble_eq_true rfl) (fun z _ ty h => by cases h; exact vp_nar_int _) ?_
  show qJ RX3 cX3_worst 5 5 115 false (fun _ _ => True) b K 0 [some (.ref (b + k0)), some (.int x1), none, none, none] [] sg (fX3_worst k0 x1 sg)
  unfold fX3_worst
  refine q_iload_n (pc := 0) dX3_worst_0 rfl ?_
  refine q_if_lt (pc := 1) 9 dX3_worst_1 (by decide) ?_ ?_
  · refine q_bipush (pc := 9) (-2) dX3_worst_9 (by decide) ?_
    exact q_ireturn (pc := 11) dX3_worst_11
  refine q_iload_n (pc := 4) dX3_worst_4 rfl ?_
  refine q_iconst (pc := 5) 3 dX3_worst_5 (by decide) ?_
  refine q_icmp_le (pc := 6) 12 dX3_worst_6 (by decide) ?_ ?_
  · refine q_aload_n (pc := 12) dX3_worst_12 rfl ?_
    refine q_callVi (pc := 13) [] dX3_worst_13 lm_X3_111 yX3_countMissed_ok yX3_countMissed_in h0 (by decide) rfl (sX3_countMissed hK h0 sg) rfl rfl (Nat.le_of_ble_eq_true rfl) ⟨by decide, by decide⟩ (fun r1 s2 => ?_)
    refine q_if_le (pc := 16) 22 dX3_worst_16 (by decide) ?_ ?_
    · refine q_aload_n (pc := 22) dX3_worst_22 rfl ?_
      refine q_callVi (pc := 23) [] dX3_worst_23 lm_X3_115 yX3_worstPlace_ok yX3_worstPlace_in h0 (by decide) rfl (sX3_worstPlace hK h0 s2) rfl rfl (Nat.le_of_ble_eq_true rfl) ⟨by decide, by decide⟩ (fun r3 s4 => ?_)
      refine q_istore_n (pc := 26) dX3_worst_26 (by decide) ?_
      refine q_iload_n (pc := 27) dX3_worst_27 rfl ?_
      refine q_bipush (pc := 28) 10 dX3_worst_28 (by decide) ?_
      refine q_idivc (pc := 30) dX3_worst_30 (by decide) ?_
      refine q_istore_n (pc := 31) dX3_worst_31 (by decide) ?_
      refine q_iload_n (pc := 32) dX3_worst_32 rfl ?_
      refine q_bipush (pc := 33) 10 dX3_worst_33 (by decide) ?_
      refine q_iremc (pc := 35) dX3_worst_35 (by decide) ?_
      refine q_istore (pc := 36) dX3_worst_36 (by decide) ?_
      refine q_iload_n (pc := 38) dX3_worst_38 rfl ?_
      refine q_iconst (pc := 39) 2 dX3_worst_39 (by decide) ?_
      refine q_icmp_ne (pc := 40) 45 dX3_worst_40 (by decide) ?_ ?_
      · refine q_iload_n (pc := 45) dX3_worst_45 rfl ?_
        refine q_iconst (pc := 46) 3 dX3_worst_46 (by decide) ?_
        refine q_icmp_ne (pc := 47) 53 dX3_worst_47 (by decide) ?_ ?_
        · refine q_aload_n (pc := 53) dX3_worst_53 rfl ?_
          refine q_iload_n (pc := 54) dX3_worst_54 rfl ?_
          refine q_iload (pc := 55) dX3_worst_55 rfl ?_
          refine q_callVi (pc := 57) [.int ((r3 / 10)), .int ((r3 - r3 / 10 * 10))] dX3_worst_57 lm_X3_104 yX3_wayTo_ok yX3_wayTo_in h0 (by decide) rfl (sX3_wayTo hK h0 (r3 / 10) (r3 - r3 / 10 * 10) s4) rfl rfl (Nat.le_of_ble_eq_true rfl) ⟨by decide, by decide⟩ (fun r5 s6 => ?_)
          refine q_aload_n (pc := 60) dX3_worst_60 rfl ?_
          refine qg_3_0 (pc := 61) dX3_worst_61 h0 lf_X3_9 ?_
          refine q_iload (pc := 64) dX3_worst_64 rfl ?_
          refine q_imul (pc := 66) dX3_worst_66 ?_
          refine q_iload_n (pc := 67) dX3_worst_67 rfl ?_
          refine q_callSi (pc := 68) [.int r5, .int (((s6 k0 0) * (r3 - r3 / 10 * 10))), .int x1] dX3_worst_68 lm_X3_107 yX3_lowest_ok yX3_lowest_in (sX3_lowest hK r5 ((s6 k0 0) * (r3 - r3 / 10 * 10)) x1 s6) rfl rfl (Nat.le_of_ble_eq_true rfl) ⟨by decide, by decide⟩ (fun r7 s8 => ?_)
          exact q_ireturn (pc := 71) dX3_worst_71
        refine q_iload (pc := 50) dX3_worst_50 rfl ?_
        exact q_ireturn (pc := 52) dX3_worst_52
      refine q_iload_n (pc := 43) dX3_worst_43 rfl ?_
      exact q_ireturn (pc := 44) dX3_worst_44
    refine q_bipush (pc := 19) (-3) dX3_worst_19 (by decide) ?_
    exact q_ireturn (pc := 21) dX3_worst_21
  refine q_bipush (pc := 9) (-2) dX3_worst_9 (by decide) ?_
  exact q_ireturn (pc := 11) dX3_worst_11
-- LineSearch.mean()I
def fX3_mean_27 (k0 : Nat) (c14 : Int32 → Int32 → qSt → qR) : Nat → Int32 → Int32 → Int32 → qSt → qR
  | 0, _, _, _, _ => none
  | n + 1, x1, x2, x3, sg =>
    if (sg (k0 + 1) 1) < x3 then
      c14 x1 ((x2 + 1)) sg
    else
    qb (fX0_shareAt (k0 + 1) x2 x3 sg) fun r1 s2 =>
    qb (fX3_wayTo k0 x2 x3 s2) fun r3 s4 =>
    fX3_mean_27 k0 c14 n ((x1 + (r1 * r3))) x2 ((x3 + 1)) s4
set_option maxRecDepth 20000 in
set_option maxHeartbeats 4000000 in
theorem tX3_mean_27 {b : Nat} {K : List Nat} (hK : qOk K) {k0 : Nat} {c14 : Int32 → Int32 → qSt → qR} (h0 : qIn K k0 3) (hc14 : ∀ (x1 x2 : Int32) (sg : qSt), qJ RX3 cX3_mean 4 4 89 false (fun _ _ => True) b K 14 [some (.ref (b + k0)), some (.int x1), some (.int x2), none] [] sg (c14 x1 x2 sg)) : ∀ (n : Nat) (x1 x2 x3 : Int32) (sg : qSt), qJ RX3 cX3_mean 4 4 89 false (fun _ _ => True) b K 27 [some (.ref (b + k0)), some (.int x1), some (.int x2), some (.int x3)] [] sg (fX3_mean_27 k0 c14 n x1 x2 x3 sg) := by
  intro n
  induction n with
  | zero => intro x1 x2 x3 sg; exact qJ_none
  | succ n ih =>
    intro x1 x2 x3 sg
    unfold fX3_mean_27
    refine q_iload_n (pc := 27) dX3_mean_27 rfl ?_
    refine q_aload_n (pc := 28) dX3_mean_28 rfl ?_
    refine qg_3_2 (pc := 29) dX3_mean_29 h0 lf_X3_19 ?_
    refine qg_0_1 (pc := 32) dX3_mean_32 (qch_3_2 hK h0) lf_X3_121 ?_
    refine q_icmp_gt (pc := 35) 63 dX3_mean_35 (by decide) ?_ ?_
    · refine q_iinc (pc := 63) 1 dX3_mean_63 rfl (by decide) (by decide) ?_
      refine q_goto (pc := 66) 14 dX3_mean_66 (by decide) ?_
      refine qJ_weak [some (.ref (b + k0)), some (.int x1), some (.int ((x2 + 1))), none] ⟨rfl, rfl, rfl, trivial⟩ ?_
      exact hc14 x1 ((x2 + 1)) sg
    refine q_iload_n (pc := 38) dX3_mean_38 rfl ?_
    refine q_aload_n (pc := 39) dX3_mean_39 rfl ?_
    refine qg_3_2 (pc := 40) dX3_mean_40 h0 lf_X3_19 ?_
    refine q_iload_n (pc := 43) dX3_mean_43 rfl ?_
    refine q_iload_n (pc := 44) dX3_mean_44 rfl ?_
    refine q_callVi (pc := 45) [.int x2, .int x3] dX3_mean_45 lm_X3_70 yX0_shareAt_ok yX0_shareAt_in (qch_3_2 hK h0) (by decide) rfl (sX0_shareAt hK (qch_3_2 hK h0) x2 x3 sg) rfl rfl (Nat.le_of_ble_eq_true rfl) ⟨by decide, by decide⟩ (fun r1 s2 => ?_)
    refine q_aload_n (pc := 48) dX3_mean_48 rfl ?_
    refine q_iload_n (pc := 49) dX3_mean_49 rfl ?_
    refine q_iload_n (pc := 50) dX3_mean_50 rfl ?_
    refine q_callVi (pc := 51) [.int x2, .int x3] dX3_mean_51 lm_X3_104 yX3_wayTo_ok yX3_wayTo_in h0 (by decide) rfl (sX3_wayTo hK h0 x2 x3 s2) rfl rfl (Nat.le_of_ble_eq_true rfl) ⟨by decide, by decide⟩ (fun r3 s4 => ?_)
    refine q_imul (pc := 54) dX3_mean_54 ?_
    refine q_iadd (pc := 55) dX3_mean_55 ?_
    refine q_istore_n (pc := 56) dX3_mean_56 (by decide) ?_
    refine q_iinc (pc := 57) 1 dX3_mean_57 rfl (by decide) (by decide) ?_
    refine q_goto (pc := 60) 27 dX3_mean_60 (by decide) ?_
    exact ih ((x1 + (r1 * r3))) x2 ((x3 + 1)) s4
def fX3_mean_14 (k0 : Nat) : Nat → Int32 → Int32 → qSt → qR
  | 0, _, _, _ => none
  | n + 1, x1, x2, sg =>
    if (sg (k0 + 1) 0) ≤ x2 then
      some (x1, sg)
    else
    fX3_mean_27 k0 (fun z1 z2 sg => fX3_mean_14 k0 n z1 z2 sg) qfu x1 x2 1 sg
set_option maxRecDepth 20000 in
set_option maxHeartbeats 4000000 in
theorem tX3_mean_14 {b : Nat} {K : List Nat} (hK : qOk K) {k0 : Nat} (h0 : qIn K k0 3) : ∀ (n : Nat) (x1 x2 : Int32) (sg : qSt), qJ RX3 cX3_mean 4 4 89 false (fun _ _ => True) b K 14 [some (.ref (b + k0)), some (.int x1), some (.int x2), none] [] sg (fX3_mean_14 k0 n x1 x2 sg) := by
  intro n
  induction n with
  | zero => intro x1 x2 sg; exact qJ_none
  | succ n ih =>
    intro x1 x2 sg
    unfold fX3_mean_14
    refine q_iload_n (pc := 14) dX3_mean_14 rfl ?_
    refine q_aload_n (pc := 15) dX3_mean_15 rfl ?_
    refine qg_3_2 (pc := 16) dX3_mean_16 h0 lf_X3_19 ?_
    refine qg_0_0 (pc := 19) dX3_mean_19 (qch_3_2 hK h0) lf_X3_118 ?_
    refine q_icmp_ge (pc := 22) 69 dX3_mean_22 (by decide) ?_ ?_
    · refine q_iload_n (pc := 69) dX3_mean_69 rfl ?_
      exact q_ireturn (pc := 70) dX3_mean_70
    refine q_iconst (pc := 25) 1 dX3_mean_25 (by decide) ?_
    refine q_istore_n (pc := 26) dX3_mean_26 (by decide) ?_
    exact tX3_mean_27 hK h0 (fun z1 z2 sg => ih z1 z2 sg) qfu x1 x2 1 sg
def fX3_mean (k0 : Nat) (sg : qSt) : qR :=
  qb (fX3_countMissed k0 sg) fun r1 s2 =>
  if r1 ≤ 0 then
    fX3_mean_14 k0 qfu 0 0 s2
  else
  some ((-3), s2)
set_option maxRecDepth 20000 in
set_option maxHeartbeats 4000000 in
theorem sX3_mean {b : Nat} {K : List Nat} (hK : qOk K) {k0 : Nat} (h0 : qIn K k0 3) (sg : qSt) : qS yX3_mean cX3_mean 4 (some .int) 4 89 b K [.ref (b + k0)] sg (fX3_mean k0 sg) := by
  refine qS_of (own := RX3) rfl (by decide) hK.1 (by simp [Value.category]) (Nat.le_of_ble_eq_true rfl) (fun z _ ty h => by cases h; exact vp_nar_int _) ?_
  show qJ RX3 cX3_mean 4 4 89 false (fun _ _ => True) b K 0 [some (.ref (b + k0)), none, none, none] [] sg (fX3_mean k0 sg)
  unfold fX3_mean
  refine q_aload_n (pc := 0) dX3_mean_0 rfl ?_
  refine q_callVi (pc := 1) [] dX3_mean_1 lm_X3_111 yX3_countMissed_ok yX3_countMissed_in h0 (by decide) rfl (sX3_countMissed hK h0 sg) rfl rfl (Nat.le_of_ble_eq_true rfl) ⟨by decide, by decide⟩ (fun r1 s2 => ?_)
  refine q_if_le (pc := 4) 10 dX3_mean_4 (by decide) ?_ ?_
  · refine q_iconst (pc := 10) 0 dX3_mean_10 (by decide) ?_
    refine q_istore_n (pc := 11) dX3_mean_11 (by decide) ?_
    refine q_iconst (pc := 12) 0 dX3_mean_12 (by decide) ?_
    refine q_istore_n (pc := 13) dX3_mean_13 (by decide) ?_
    exact tX3_mean_14 hK h0 qfu 0 0 s2
  refine q_bipush (pc := 7) (-3) dX3_mean_7 (by decide) ?_
  exact q_ireturn (pc := 9) dX3_mean_9
-- LineSearch.missed(I)I
def fX3_missed_44 (k0 : Nat) (c14 : Int32 → Int32 → qSt → qR) : Nat → Int32 → Int32 → Int32 → qSt → qR
  | 0, _, _, _, _ => none
  | n + 1, x2, x3, x4, sg =>
    if (sg (k0 + 1) 1) < x4 then
      c14 x2 ((x3 + 1)) sg
    else
    if x2 = 0 then
      some (((10 * x3) + x4), sg)
    else
    fX3_missed_44 k0 c14 n ((x2 + (-1))) x3 ((x4 + 1)) sg
set_option maxRecDepth 20000 in
set_option maxHeartbeats 4000000 in
theorem tX3_missed_44 {b : Nat} {K : List Nat} (hK : qOk K) {k0 : Nat} {c14 : Int32 → Int32 → qSt → qR} (h0 : qIn K k0 3) (hc14 : ∀ (x2 x3 : Int32) (sg : qSt), qJ RX3 cX3_missed 5 4 88 false (fun _ _ => True) b K 14 [some (.ref (b + k0)), none, some (.int x2), some (.int x3), none] [] sg (c14 x2 x3 sg)) : ∀ (n : Nat) (x2 x3 x4 : Int32) (sg : qSt), qJ RX3 cX3_missed 5 4 88 false (fun _ _ => True) b K 44 [some (.ref (b + k0)), none, some (.int x2), some (.int x3), some (.int x4)] [] sg (fX3_missed_44 k0 c14 n x2 x3 x4 sg) := by
  intro n
  induction n with
  | zero => intro x2 x3 x4 sg; exact qJ_none
  | succ n ih =>
    intro x2 x3 x4 sg
    unfold fX3_missed_44
    refine q_iload (pc := 44) dX3_missed_44 rfl ?_
    refine q_aload_n (pc := 46) dX3_missed_46 rfl ?_
    refine qg_3_2 (pc := 47) dX3_missed_47 h0 lf_X3_19 ?_
    refine qg_0_1 (pc := 50) dX3_missed_50 (qch_3_2 hK h0) lf_X3_121 ?_
    refine q_icmp_gt (pc := 53) 77 dX3_missed_53 (by decide) ?_ ?_
    · refine q_iinc (pc := 77) 1 dX3_missed_77 rfl (by decide) (by decide) ?_
      refine q_goto (pc := 80) 14 dX3_missed_80 (by decide) ?_
      refine qJ_weak [some (.ref (b + k0)), none, some (.int x2), some (.int ((x3 + 1))), none] ⟨rfl, rfl, rfl, trivial⟩ ?_
      exact hc14 x2 ((x3 + 1)) sg
    refine q_iload_n (pc := 56) dX3_missed_56 rfl ?_
    refine q_if_ne (pc := 57) 68 dX3_missed_57 (by decide) ?_ ?_
    · refine q_iinc (pc := 68) (-1) dX3_missed_68 rfl (by decide) (by decide) ?_
      refine q_iinc (pc := 71) 1 dX3_missed_71 rfl (by decide) (by decide) ?_
      refine q_goto (pc := 74) 44 dX3_missed_74 (by decide) ?_
      exact ih ((x2 + (-1))) x3 ((x4 + 1)) sg
    refine q_bipush (pc := 60) 10 dX3_missed_60 (by decide) ?_
    refine q_iload_n (pc := 62) dX3_missed_62 rfl ?_
    refine q_imul (pc := 63) dX3_missed_63 ?_
    refine q_iload (pc := 64) dX3_missed_64 rfl ?_
    refine q_iadd (pc := 66) dX3_missed_66 ?_
    exact q_ireturn (pc := 67) dX3_missed_67
def fX3_missed_14 (k0 : Nat) : Nat → Int32 → Int32 → qSt → qR
  | 0, _, _, _ => none
  | n + 1, x2, x3, sg =>
    if (sg (k0 + 1) 0) ≤ x3 then
      some ((-6), sg)
    else
    qb (fX2_farthest (k0 + 3) x3 (sg (k0 + 3) 2) sg) fun r1 s2 =>
    fX3_missed_44 k0 (fun z2 z3 sg => fX3_missed_14 k0 n z2 z3 sg) qfu x2 x3 ((r1 + 1)) s2
set_option maxRecDepth 20000 in
set_option maxHeartbeats 4000000 in
theorem tX3_missed_14 {b : Nat} {K : List Nat} (hK : qOk K) {k0 : Nat} (h0 : qIn K k0 3) : ∀ (n : Nat) (x2 x3 : Int32) (sg : qSt), qJ RX3 cX3_missed 5 4 88 false (fun _ _ => True) b K 14 [some (.ref (b + k0)), none, some (.int x2), some (.int x3), none] [] sg (fX3_missed_14 k0 n x2 x3 sg) := by
  intro n
  induction n with
  | zero => intro x2 x3 sg; exact qJ_none
  | succ n ih =>
    intro x2 x3 sg
    unfold fX3_missed_14
    refine q_iload_n (pc := 14) dX3_missed_14 rfl ?_
    refine q_aload_n (pc := 15) dX3_missed_15 rfl ?_
    refine qg_3_2 (pc := 16) dX3_missed_16 h0 lf_X3_19 ?_
    refine qg_0_0 (pc := 19) dX3_missed_19 (qch_3_2 hK h0) lf_X3_118 ?_
    refine q_icmp_ge (pc := 22) 83 dX3_missed_22 (by decide) ?_ ?_
    · refine q_bipush (pc := 83) (-6) dX3_missed_83 (by decide) ?_
      exact q_ireturn (pc := 85) dX3_missed_85
    refine q_aload_n (pc := 25) dX3_missed_25 rfl ?_
    refine qg_3_3 (pc := 26) dX3_missed_26 h0 lf_X3_26 ?_
    refine q_iload_n (pc := 29) dX3_missed_29 rfl ?_
    refine q_aload_n (pc := 30) dX3_missed_30 rfl ?_
    refine qg_3_3 (pc := 31) dX3_missed_31 h0 lf_X3_26 ?_
    refine qg_2_2 (pc := 34) dX3_missed_34 (qch_3_3 hK h0) lf_X3_78 ?_
    refine q_callVi (pc := 37) [.int x3, .int ((sg (k0 + 3) 2))] dX3_missed_37 lm_X3_124 yX2_farthest_ok yX2_farthest_in (qch_3_3 hK h0) (by decide) rfl (sX2_farthest hK (qch_3_3 hK h0) x3 (sg (k0 + 3) 2) sg) rfl rfl (Nat.le_of_ble_eq_true rfl) ⟨by decide, by decide⟩ (fun r1 s2 => ?_)
    refine q_iconst (pc := 40) 1 dX3_missed_40 (by decide) ?_
    refine q_iadd (pc := 41) dX3_missed_41 ?_
    refine q_istore (pc := 42) dX3_missed_42 (by decide) ?_
    exact tX3_missed_44 hK h0 (fun z2 z3 sg => ih z2 z3 sg) qfu x2 x3 ((r1 + 1)) s2
def fX3_missed (k0 : Nat) (x1 : Int32) (sg : qSt) : qR :=
  if x1 = (-1) then
    qb (fX3_countMissed k0 sg) fun r1 s2 =>
    some (r1, s2)
  else
  fX3_missed_14 k0 qfu x1 0 sg
set_option maxRecDepth 20000 in
set_option maxHeartbeats 4000000 in
theorem sX3_missed {b : Nat} {K : List Nat} (hK : qOk K) {k0 : Nat} (h0 : qIn K k0 3) (x1 : Int32) (sg : qSt) : qS yX3_missed cX3_missed 5 (some .int) 4 88 b K [.ref (b + k0), .int x1] sg (fX3_missed k0 x1 sg) := by
  refine qS_of (own := RX3) rfl (by decide) hK.1 (by simp [Value.category]) (Nat.le_of_ble_eq_true rfl) (fun z _ ty h => by cases h; exact vp_nar_int _) ?_
  show qJ RX3 cX3_missed 5 4 88 false (fun _ _ => True) b K 0 [some (.ref (b + k0)), some (.int x1), none, none, none] [] sg (fX3_missed k0 x1 sg)
  unfold fX3_missed
  refine q_iload_n (pc := 0) dX3_missed_0 rfl ?_
  refine q_iconst (pc := 1) (-1) dX3_missed_1 (by decide) ?_
  refine q_icmp_ne (pc := 2) 10 dX3_missed_2 (by decide) ?_ ?_
  · refine q_iload_n (pc := 10) dX3_missed_10 rfl ?_
    refine q_istore_n (pc := 11) dX3_missed_11 (by decide) ?_
    refine q_iconst (pc := 12) 0 dX3_missed_12 (by decide) ?_
    refine q_istore_n (pc := 13) dX3_missed_13 (by decide) ?_
    refine qJ_weak [some (.ref (b + k0)), none, some (.int x1), some (.int 0), none] ⟨rfl, rfl, rfl, trivial⟩ ?_
    exact tX3_missed_14 hK h0 qfu x1 0 sg
  refine q_aload_n (pc := 5) dX3_missed_5 rfl ?_
  refine q_callVi (pc := 6) [] dX3_missed_6 lm_X3_111 yX3_countMissed_ok yX3_countMissed_in h0 (by decide) rfl (sX3_countMissed hK h0 sg) rfl rfl (Nat.le_of_ble_eq_true rfl) ⟨by decide, by decide⟩ (fun r1 s2 => ?_)
  exact q_ireturn (pc := 9) dX3_missed_9
-- LineSearch.finds(I)I
def fX3_finds (k0 : Nat) (x1 : Int32) (sg : qSt) : qR :=
  qb (fX2_has (k0 + 3) x1 sg) fun r1 s2 =>
  if r1 = 0 then
    some ((-1), s2)
  else
  qb (fX2_rayOf (k0 + 3) x1 s2) fun r3 s4 =>
  qb (fX2_farthest (k0 + 3) r3 x1 s4) fun r5 s6 =>
  qb (fX2_stepsOf (k0 + 3) x1 s6) fun r7 s8 =>
  if r7 ≤ r5 then
    some ((-6), s8)
  else
  some ((((10 * r3) + r5) + 1), s8)
set_option maxRecDepth 20000 in
set_option maxHeartbeats 4000000 in
theorem sX3_finds {b : Nat} {K : List Nat} (hK : qOk K) {k0 : Nat} (h0 : qIn K k0 3) (x1 : Int32) (sg : qSt) : qS yX3_finds cX3_finds 4 (some .int) 3 66 b K [.ref (b + k0), .int x1] sg (fX3_finds k0 x1 sg) := by
  refine qS_of (own := RX3) rfl (by decide) hK.1 (by simp [Value.category]) (Nat.le_of_ble_eq_true rfl) (fun z _ ty h => by cases h; exact vp_nar_int _) ?_
  show qJ RX3 cX3_finds 4 3 66 false (fun _ _ => True) b K 0 [some (.ref (b + k0)), some (.int x1), none, none] [] sg (fX3_finds k0 x1 sg)
  unfold fX3_finds
  refine q_aload_n (pc := 0) dX3_finds_0 rfl ?_
  refine qg_3_3 (pc := 1) dX3_finds_1 h0 lf_X3_26 ?_
  refine q_iload_n (pc := 4) dX3_finds_4 rfl ?_
  refine q_callVi (pc := 5) [.int x1] dX3_finds_5 lm_X3_84 yX2_has_ok yX2_has_in (qch_3_3 hK h0) (by decide) rfl (sX2_has hK (qch_3_3 hK h0) x1 sg) rfl rfl (Nat.le_of_ble_eq_true rfl) ⟨by decide, by decide⟩ (fun r1 s2 => ?_)
  refine q_if_ne (pc := 8) 13 dX3_finds_8 (by decide) ?_ ?_
  · refine q_aload_n (pc := 13) dX3_finds_13 rfl ?_
    refine qg_3_3 (pc := 14) dX3_finds_14 h0 lf_X3_26 ?_
    refine q_iload_n (pc := 17) dX3_finds_17 rfl ?_
    refine q_callVi (pc := 18) [.int x1] dX3_finds_18 lm_X3_87 yX2_rayOf_ok yX2_rayOf_in (qch_3_3 hK h0) (by decide) rfl (sX2_rayOf hK (qch_3_3 hK h0) x1 s2) rfl rfl (Nat.le_of_ble_eq_true rfl) ⟨by decide, by decide⟩ (fun r3 s4 => ?_)
    refine q_istore_n (pc := 21) dX3_finds_21 (by decide) ?_
    refine q_aload_n (pc := 22) dX3_finds_22 rfl ?_
    refine qg_3_3 (pc := 23) dX3_finds_23 h0 lf_X3_26 ?_
    refine q_iload_n (pc := 26) dX3_finds_26 rfl ?_
    refine q_iload_n (pc := 27) dX3_finds_27 rfl ?_
    refine q_callVi (pc := 28) [.int r3, .int x1] dX3_finds_28 lm_X3_124 yX2_farthest_ok yX2_farthest_in (qch_3_3 hK h0) (by decide) rfl (sX2_farthest hK (qch_3_3 hK h0) r3 x1 s4) rfl rfl (Nat.le_of_ble_eq_true rfl) ⟨by decide, by decide⟩ (fun r5 s6 => ?_)
    refine q_istore_n (pc := 31) dX3_finds_31 (by decide) ?_
    refine q_aload_n (pc := 32) dX3_finds_32 rfl ?_
    refine qg_3_3 (pc := 33) dX3_finds_33 h0 lf_X3_26 ?_
    refine q_iload_n (pc := 36) dX3_finds_36 rfl ?_
    refine q_callVi (pc := 37) [.int x1] dX3_finds_37 lm_X3_91 yX2_stepsOf_ok yX2_stepsOf_in (qch_3_3 hK h0) (by decide) rfl (sX2_stepsOf hK (qch_3_3 hK h0) x1 s6) rfl rfl (Nat.le_of_ble_eq_true rfl) ⟨by decide, by decide⟩ (fun r7 s8 => ?_)
    refine q_iload_n (pc := 40) dX3_finds_40 rfl ?_
    refine q_icmp_le (pc := 41) 55 dX3_finds_41 (by decide) ?_ ?_
    · refine q_bipush (pc := 55) (-6) dX3_finds_55 (by decide) ?_
      exact q_ireturn (pc := 57) dX3_finds_57
    refine q_bipush (pc := 44) 10 dX3_finds_44 (by decide) ?_
    refine q_iload_n (pc := 46) dX3_finds_46 rfl ?_
    refine q_imul (pc := 47) dX3_finds_47 ?_
    refine q_iload_n (pc := 48) dX3_finds_48 rfl ?_
    refine q_iadd (pc := 49) dX3_finds_49 ?_
    refine q_iconst (pc := 50) 1 dX3_finds_50 (by decide) ?_
    refine q_iadd (pc := 51) dX3_finds_51 ?_
    refine q_goto (pc := 52) 57 dX3_finds_52 (by decide) ?_
    exact q_ireturn (pc := 57) dX3_finds_57
  refine q_iconst (pc := 11) (-1) dX3_finds_11 (by decide) ?_
  exact q_ireturn (pc := 12) dX3_finds_12
-- LineSearch.findMean()V
def fX3_findMean (k0 : Nat) (sg : qSt) : qR :=
  if (sg k0 7) = 0 then
    qb (fX1_planMean (k0 + 6) (k0 + 1) (k0 + 12) sg) fun r1 s2 =>
    some (0, qset (qset s2 k0 9 r1) k0 7 1)
  else
  some (0, sg)
set_option maxRecDepth 20000 in
set_option maxHeartbeats 4000000 in
theorem sX3_findMean {b : Nat} {K : List Nat} (hK : qOk K) {k0 : Nat} (h0 : qIn K k0 3) (sg : qSt) : qS yX3_findMean cX3_findMean 1 none 5 123 b K [.ref (b + k0)] sg (fX3_findMean k0 sg) := by
  refine qS_of (own := RX3) rfl (by decide) hK.1 (by simp [Value.category]) (Nat.le_of_ble_eq_true rfl) (fun z _ ty h => by cases h) ?_
  show qJ RX3 cX3_findMean 1 5 123 true (fun _ _ => True) b K 0 [some (.ref (b + k0))] [] sg (fX3_findMean k0 sg)
  unfold fX3_findMean
  refine q_aload_n (pc := 0) dX3_findMean_0 rfl ?_
  refine qg_3_7 (pc := 1) dX3_findMean_1 h0 lf_X3_43 ?_
  refine q_if_ne (pc := 4) 31 dX3_findMean_4 (by decide) ?_ ?_
  · exact q_return (pc := 31) dX3_findMean_31
  refine q_aload_n (pc := 7) dX3_findMean_7 rfl ?_
  refine q_aload_n (pc := 8) dX3_findMean_8 rfl ?_
  refine qg_3_4 (pc := 9) dX3_findMean_9 h0 lf_X3_33 ?_
  refine q_aload_n (pc := 12) dX3_findMean_12 rfl ?_
  refine qg_3_2 (pc := 13) dX3_findMean_13 h0 lf_X3_19 ?_
  refine q_aload_n (pc := 16) dX3_findMean_16 rfl ?_
  refine qg_3_5 (pc := 17) dX3_findMean_17 h0 lf_X3_37 ?_
  refine q_callVi (pc := 20) [.ref (b + ((k0 + 1))), .ref (b + ((k0 + 12)))] dX3_findMean_20 lm_X3_161 yX1_planMean_ok yX1_planMean_in (qch_3_4 hK h0) (by decide) rfl (sX1_planMean hK (qch_3_4 hK h0) (qch_3_2 hK h0) (qch_3_5 hK h0) sg) rfl rfl (Nat.le_of_ble_eq_true rfl) ⟨by decide, by decide⟩ (fun r1 s2 => ?_)
  refine qp_3_9 (pc := 23) dX3_findMean_23 h0 lf_X3_50 ?_
  refine q_aload_n (pc := 26) dX3_findMean_26 rfl ?_
  refine q_iconst (pc := 27) 1 dX3_findMean_27 (by decide) ?_
  refine qp_3_7 (pc := 28) dX3_findMean_28 h0 lf_X3_43 (by decide) (by decide) ?_
  exact q_return (pc := 31) dX3_findMean_31
-- LineSearch.leastMean()I
def fX3_leastMean (k0 : Nat) (sg : qSt) : qR :=
  qb (fX3_findMean k0 sg) fun r1 s2 =>
  qb (fX0_sharedSteps (k0 + 1) s2) fun r3 s4 =>
  qb (fX3_wholeTrips k0 (s4 k0 9) s4) fun r5 s6 =>
  some ((((s2 k0 0) * r3) + r5), s6)
set_option maxRecDepth 20000 in
set_option maxHeartbeats 4000000 in
theorem sX3_leastMean {b : Nat} {K : List Nat} (hK : qOk K) {k0 : Nat} (h0 : qIn K k0 3) (sg : qSt) : qS yX3_leastMean cX3_leastMean 1 (some .int) 6 143 b K [.ref (b + k0)] sg (fX3_leastMean k0 sg) := by
  refine qS_of (own := RX3) rfl (by decide) hK.1 (by simp [Value.category]) (Nat.le_of_ble_eq_true rfl) (fun z _ ty h => by cases h; exact vp_nar_int _) ?_
  show qJ RX3 cX3_leastMean 1 6 143 false (fun _ _ => True) b K 0 [some (.ref (b + k0))] [] sg (fX3_leastMean k0 sg)
  unfold fX3_leastMean
  refine q_aload_n (pc := 0) dX3_leastMean_0 rfl ?_
  refine q_callVv (pc := 1) [] dX3_leastMean_1 lm_X3_127 yX3_findMean_ok yX3_findMean_in h0 (by decide) rfl (sX3_findMean hK h0 sg) rfl rfl (Nat.le_of_ble_eq_true rfl) ⟨by decide, by decide⟩ (fun r1 s2 => ?_)
  refine q_aload_n (pc := 4) dX3_leastMean_4 rfl ?_
  refine qg_3_0 (pc := 5) dX3_leastMean_5 h0 lf_X3_9 ?_
  refine q_aload_n (pc := 8) dX3_leastMean_8 rfl ?_
  refine qg_3_2 (pc := 9) dX3_leastMean_9 h0 lf_X3_19 ?_
  refine q_callVi (pc := 12) [] dX3_leastMean_12 lm_X3_130 yX0_sharedSteps_ok yX0_sharedSteps_in (qch_3_2 hK h0) (by decide) rfl (sX0_sharedSteps hK (qch_3_2 hK h0) s2) rfl rfl (Nat.le_of_ble_eq_true rfl) ⟨by decide, by decide⟩ (fun r3 s4 => ?_)
  refine q_imul (pc := 15) dX3_leastMean_15 ?_
  refine q_aload_n (pc := 16) dX3_leastMean_16 rfl ?_
  refine q_aload_n (pc := 17) dX3_leastMean_17 rfl ?_
  refine qg_3_9 (pc := 18) dX3_leastMean_18 h0 lf_X3_50 ?_
  refine q_callVi (pc := 21) [.int ((s4 k0 9))] dX3_leastMean_21 lm_X3_97 yX3_wholeTrips_ok yX3_wholeTrips_in h0 (by decide) rfl (sX3_wholeTrips hK h0 (s4 k0 9) s4) rfl rfl (Nat.le_of_ble_eq_true rfl) ⟨by decide, by decide⟩ (fun r5 s6 => ?_)
  refine q_iadd (pc := 24) dX3_leastMean_24 ?_
  exact q_ireturn (pc := 25) dX3_leastMean_25
-- LineSearch.placeOf(LLineSearch$Plan;I)I
def fX3_placeOf (k0 : Nat) (x1 : Int32) (sg : qSt) : qR :=
  qb (fX2_has k0 x1 sg) fun r1 s2 =>
  if r1 = 0 then
    some ((-6), s2)
  else
  qb (fX2_rayOf k0 x1 s2) fun r3 s4 =>
  qb (fX2_stepsOf k0 x1 s4) fun r5 s6 =>
  some (((10 * r3) + r5), s6)
set_option maxRecDepth 20000 in
set_option maxHeartbeats 4000000 in
theorem sX3_placeOf {b : Nat} {K : List Nat} (hK : qOk K) {k0 : Nat} (h0 : qIn K k0 2) (x1 : Int32) (sg : qSt) : qS yX3_placeOf cX3_placeOf 2 (some .int) 2 42 b K [.ref (b + k0), .int x1] sg (fX3_placeOf k0 x1 sg) := by
  refine qS_of (own := RX3) rfl (by decide) hK.1 (by simp [Value.category]) (Nat.le_of_ble_eq_true rfl) (fun z _ ty h => by cases h; exact vp_nar_int _) ?_
  show qJ RX3 cX3_placeOf 2 2 42 false (fun _ _ => True) b K 0 [some (.ref (b + k0)), some (.int x1)] [] sg (fX3_placeOf k0 x1 sg)
  unfold fX3_placeOf
  refine q_aload_n (pc := 0) dX3_placeOf_0 rfl ?_
  refine q_iload_n (pc := 1) dX3_placeOf_1 rfl ?_
  refine q_callVi (pc := 2) [.int x1] dX3_placeOf_2 lm_X3_84 yX2_has_ok yX2_has_in h0 (by decide) rfl (sX2_has hK h0 x1 sg) rfl rfl (Nat.le_of_ble_eq_true rfl) ⟨by decide, by decide⟩ (fun r1 s2 => ?_)
  refine q_if_eq (pc := 5) 25 dX3_placeOf_5 (by decide) ?_ ?_
  · refine q_bipush (pc := 25) (-6) dX3_placeOf_25 (by decide) ?_
    exact q_ireturn (pc := 27) dX3_placeOf_27
  refine q_bipush (pc := 8) 10 dX3_placeOf_8 (by decide) ?_
  refine q_aload_n (pc := 10) dX3_placeOf_10 rfl ?_
  refine q_iload_n (pc := 11) dX3_placeOf_11 rfl ?_
  refine q_callVi (pc := 12) [.int x1] dX3_placeOf_12 lm_X3_87 yX2_rayOf_ok yX2_rayOf_in h0 (by decide) rfl (sX2_rayOf hK h0 x1 s2) rfl rfl (Nat.le_of_ble_eq_true rfl) ⟨by decide, by decide⟩ (fun r3 s4 => ?_)
  refine q_imul (pc := 15) dX3_placeOf_15 ?_
  refine q_aload_n (pc := 16) dX3_placeOf_16 rfl ?_
  refine q_iload_n (pc := 17) dX3_placeOf_17 rfl ?_
  refine q_callVi (pc := 18) [.int x1] dX3_placeOf_18 lm_X3_91 yX2_stepsOf_ok yX2_stepsOf_in h0 (by decide) rfl (sX2_stepsOf hK h0 x1 s4) rfl rfl (Nat.le_of_ble_eq_true rfl) ⟨by decide, by decide⟩ (fun r5 s6 => ?_)
  refine q_iadd (pc := 21) dX3_placeOf_21 ?_
  refine q_goto (pc := 22) 27 dX3_placeOf_22 (by decide) ?_
  exact q_ireturn (pc := 27) dX3_placeOf_27
-- LineSearch.meanTrip(I)I
def fX3_meanTrip (k0 : Nat) (x1 : Int32) (sg : qSt) : qR :=
  qb (fX3_findMean k0 sg) fun r1 s2 =>
  qb (fX3_placeOf (k0 + 12) x1 s2) fun r3 s4 =>
  some (r3, s4)
set_option maxRecDepth 20000 in
set_option maxHeartbeats 4000000 in
theorem sX3_meanTrip {b : Nat} {K : List Nat} (hK : qOk K) {k0 : Nat} (h0 : qIn K k0 3) (x1 : Int32) (sg : qSt) : qS yX3_meanTrip cX3_meanTrip 2 (some .int) 6 143 b K [.ref (b + k0), .int x1] sg (fX3_meanTrip k0 x1 sg) := by
  refine qS_of (own := RX3) rfl (by decide) hK.1 (by simp [Value.category]) (Nat.le_of_ble_eq_true rfl) (fun z _ ty h => by cases h; exact vp_nar_int _) ?_
  show qJ RX3 cX3_meanTrip 2 6 143 false (fun _ _ => True) b K 0 [some (.ref (b + k0)), some (.int x1)] [] sg (fX3_meanTrip k0 x1 sg)
  unfold fX3_meanTrip
  refine q_aload_n (pc := 0) dX3_meanTrip_0 rfl ?_
  refine q_callVv (pc := 1) [] dX3_meanTrip_1 lm_X3_127 yX3_findMean_ok yX3_findMean_in h0 (by decide) rfl (sX3_findMean hK h0 sg) rfl rfl (Nat.le_of_ble_eq_true rfl) ⟨by decide, by decide⟩ (fun r1 s2 => ?_)
  refine q_aload_n (pc := 4) dX3_meanTrip_4 rfl ?_
  refine qg_3_5 (pc := 5) dX3_meanTrip_5 h0 lf_X3_37 ?_
  refine q_iload_n (pc := 8) dX3_meanTrip_8 rfl ?_
  refine q_callSi (pc := 9) [.ref (b + ((k0 + 12))), .int x1] dX3_meanTrip_9 lm_X3_133 yX3_placeOf_ok yX3_placeOf_in (sX3_placeOf hK (qch_3_5 hK h0) x1 s2) rfl rfl (Nat.le_of_ble_eq_true rfl) ⟨by decide, by decide⟩ (fun r3 s4 => ?_)
  exact q_ireturn (pc := 12) dX3_meanTrip_12
-- LineSearch.findWorst()V
def fX3_findWorst (k0 : Nat) (sg : qSt) : qR :=
  if (sg k0 8) = 0 then
    qb (fX1_planWorst (k0 + 6) (k0 + 1) (k0 + 15) sg) fun r1 s2 =>
    some (0, qset (qset s2 k0 10 r1) k0 8 1)
  else
  some (0, sg)
set_option maxRecDepth 20000 in
set_option maxHeartbeats 4000000 in
theorem sX3_findWorst {b : Nat} {K : List Nat} (hK : qOk K) {k0 : Nat} (h0 : qIn K k0 3) (sg : qSt) : qS yX3_findWorst cX3_findWorst 1 none 5 124 b K [.ref (b + k0)] sg (fX3_findWorst k0 sg) := by
  refine qS_of (own := RX3) rfl (by decide) hK.1 (by simp [Value.category]) (Nat.le_of_ble_eq_true rfl) (fun z _ ty h => by cases h) ?_
  show qJ RX3 cX3_findWorst 1 5 124 true (fun _ _ => True) b K 0 [some (.ref (b + k0))] [] sg (fX3_findWorst k0 sg)
  unfold fX3_findWorst
  refine q_aload_n (pc := 0) dX3_findWorst_0 rfl ?_
  refine qg_3_8 (pc := 1) dX3_findWorst_1 h0 lf_X3_47 ?_
  refine q_if_ne (pc := 4) 31 dX3_findWorst_4 (by decide) ?_ ?_
  · exact q_return (pc := 31) dX3_findWorst_31
  refine q_aload_n (pc := 7) dX3_findWorst_7 rfl ?_
  refine q_aload_n (pc := 8) dX3_findWorst_8 rfl ?_
  refine qg_3_4 (pc := 9) dX3_findWorst_9 h0 lf_X3_33 ?_
  refine q_aload_n (pc := 12) dX3_findWorst_12 rfl ?_
  refine qg_3_2 (pc := 13) dX3_findWorst_13 h0 lf_X3_19 ?_
  refine q_aload_n (pc := 16) dX3_findWorst_16 rfl ?_
  refine qg_3_6 (pc := 17) dX3_findWorst_17 h0 lf_X3_40 ?_
  refine q_callVi (pc := 20) [.ref (b + ((k0 + 1))), .ref (b + ((k0 + 15)))] dX3_findWorst_20 lm_X3_165 yX1_planWorst_ok yX1_planWorst_in (qch_3_4 hK h0) (by decide) rfl (sX1_planWorst hK (qch_3_4 hK h0) (qch_3_2 hK h0) (qch_3_6 hK h0) sg) rfl rfl (Nat.le_of_ble_eq_true rfl) ⟨by decide, by decide⟩ (fun r1 s2 => ?_)
  refine qp_3_10 (pc := 23) dX3_findWorst_23 h0 lf_X3_53 ?_
  refine q_aload_n (pc := 26) dX3_findWorst_26 rfl ?_
  refine q_iconst (pc := 27) 1 dX3_findWorst_27 (by decide) ?_
  refine qp_3_8 (pc := 28) dX3_findWorst_28 h0 lf_X3_47 (by decide) (by decide) ?_
  exact q_return (pc := 31) dX3_findWorst_31
-- LineSearch.worstUpper()I
def fX3_worstUpper (k0 : Nat) (sg : qSt) : qR :=
  qb (fX3_wholeTrips k0 (sg k0 10) sg) fun r1 s2 =>
  some ((((sg k0 0) * 840) + r1), s2)
set_option maxRecDepth 20000 in
set_option maxHeartbeats 4000000 in
theorem sX3_worstUpper {b : Nat} {K : List Nat} (hK : qOk K) {k0 : Nat} (h0 : qIn K k0 3) (sg : qSt) : qS yX3_worstUpper cX3_worstUpper 1 (some .int) 1 21 b K [.ref (b + k0)] sg (fX3_worstUpper k0 sg) := by
  refine qS_of (own := RX3) rfl (by decide) hK.1 (by simp [Value.category]) (Nat.le_of_ble_eq_true rfl) (fun z _ ty h => by cases h; exact vp_nar_int _) ?_
  show qJ RX3 cX3_worstUpper 1 1 21 false (fun _ _ => True) b K 0 [some (.ref (b + k0))] [] sg (fX3_worstUpper k0 sg)
  unfold fX3_worstUpper
  refine q_aload_n (pc := 0) dX3_worstUpper_0 rfl ?_
  refine qg_3_0 (pc := 1) dX3_worstUpper_1 h0 lf_X3_9 ?_
  refine q_sipush (pc := 4) 840 dX3_worstUpper_4 (by decide) ?_
  refine q_imul (pc := 7) dX3_worstUpper_7 ?_
  refine q_aload_n (pc := 8) dX3_worstUpper_8 rfl ?_
  refine q_aload_n (pc := 9) dX3_worstUpper_9 rfl ?_
  refine qg_3_10 (pc := 10) dX3_worstUpper_10 h0 lf_X3_53 ?_
  refine q_callVi (pc := 13) [.int ((sg k0 10))] dX3_worstUpper_13 lm_X3_97 yX3_wholeTrips_ok yX3_wholeTrips_in h0 (by decide) rfl (sX3_wholeTrips hK h0 (sg k0 10) sg) rfl rfl (Nat.le_of_ble_eq_true rfl) ⟨by decide, by decide⟩ (fun r1 s2 => ?_)
  refine q_iadd (pc := 16) dX3_worstUpper_16 ?_
  exact q_ireturn (pc := 17) dX3_worstUpper_17
-- LineSearch.leastWorst(I)I
def fX3_leastWorst (k0 : Nat) (x1 : Int32) (sg : qSt) : qR :=
  if x1 < 0 then
    some ((-2), sg)
  else
  if x1 ≤ 1 then
    qb (fX3_findWorst k0 sg) fun r1 s2 =>
    qb (fX3_worstUpper k0 s2) fun r3 s4 =>
    qb (fX3_lowest r3 ((s4 k0 0) * 840) x1 s4) fun r5 s6 =>
    some (r5, s6)
  else
  some ((-2), sg)
set_option maxRecDepth 20000 in
set_option maxHeartbeats 4000000 in
theorem sX3_leastWorst {b : Nat} {K : List Nat} (hK : qOk K) {k0 : Nat} (h0 : qIn K k0 3) (x1 : Int32) (sg : qSt) : qS yX3_leastWorst cX3_leastWorst 2 (some .int) 6 144 b K [.ref (b + k0), .int x1] sg (fX3_leastWorst k0 x1 sg) := by
  refine qS_of (own := RX3) rfl (by decide) hK.1 (by simp [Value.category]) (Nat.le_of_ble_eq_true rfl) (fun z _ ty h => by cases h; exact vp_nar_int _) ?_
  show qJ RX3 cX3_leastWorst 2 6 144 false (fun _ _ => True) b K 0 [some (.ref (b + k0)), some (.int x1)] [] sg (fX3_leastWorst k0 x1 sg)
  unfold fX3_leastWorst
  refine q_iload_n (pc := 0) dX3_leastWorst_0 rfl ?_
  refine q_if_lt (pc := 1) 9 dX3_leastWorst_1 (by decide) ?_ ?_
  · refine q_bipush (pc := 9) (-2) dX3_leastWorst_9 (by decide) ?_
    exact q_ireturn (pc := 11) dX3_leastWorst_11
  refine q_iload_n (pc := 4) dX3_leastWorst_4 rfl ?_
  refine q_iconst (pc := 5) 1 dX3_leastWorst_5 (by decide) ?_
  refine q_icmp_le (pc := 6) 12 dX3_leastWorst_6 (by decide) ?_ ?_
  · refine q_aload_n (pc := 12) dX3_leastWorst_12 rfl ?_
    refine q_callVv (pc := 13) [] dX3_leastWorst_13 lm_X3_137 yX3_findWorst_ok yX3_findWorst_in h0 (by decide) rfl (sX3_findWorst hK h0 sg) rfl rfl (Nat.le_of_ble_eq_true rfl) ⟨by decide, by decide⟩ (fun r1 s2 => ?_)
    refine q_aload_n (pc := 16) dX3_leastWorst_16 rfl ?_
    refine q_callVi (pc := 17) [] dX3_leastWorst_17 lm_X3_140 yX3_worstUpper_ok yX3_worstUpper_in h0 (by decide) rfl (sX3_worstUpper hK h0 s2) rfl rfl (Nat.le_of_ble_eq_true rfl) ⟨by decide, by decide⟩ (fun r3 s4 => ?_)
    refine q_aload_n (pc := 20) dX3_leastWorst_20 rfl ?_
    refine qg_3_0 (pc := 21) dX3_leastWorst_21 h0 lf_X3_9 ?_
    refine q_sipush (pc := 24) 840 dX3_leastWorst_24 (by decide) ?_
    refine q_imul (pc := 27) dX3_leastWorst_27 ?_
    refine q_iload_n (pc := 28) dX3_leastWorst_28 rfl ?_
    refine q_callSi (pc := 29) [.int r3, .int (((s4 k0 0) * 840)), .int x1] dX3_leastWorst_29 lm_X3_107 yX3_lowest_ok yX3_lowest_in (sX3_lowest hK r3 ((s4 k0 0) * 840) x1 s4) rfl rfl (Nat.le_of_ble_eq_true rfl) ⟨by decide, by decide⟩ (fun r5 s6 => ?_)
    exact q_ireturn (pc := 32) dX3_leastWorst_32
  refine q_bipush (pc := 9) (-2) dX3_leastWorst_9 (by decide) ?_
  exact q_ireturn (pc := 11) dX3_leastWorst_11
-- LineSearch.worstTrip(I)I
def fX3_worstTrip (k0 : Nat) (x1 : Int32) (sg : qSt) : qR :=
  qb (fX3_findWorst k0 sg) fun r1 s2 =>
  qb (fX3_placeOf (k0 + 15) x1 s2) fun r3 s4 =>
  some (r3, s4)
set_option maxRecDepth 20000 in
set_option maxHeartbeats 4000000 in
theorem sX3_worstTrip {b : Nat} {K : List Nat} (hK : qOk K) {k0 : Nat} (h0 : qIn K k0 3) (x1 : Int32) (sg : qSt) : qS yX3_worstTrip cX3_worstTrip 2 (some .int) 6 144 b K [.ref (b + k0), .int x1] sg (fX3_worstTrip k0 x1 sg) := by
  refine qS_of (own := RX3) rfl (by decide) hK.1 (by simp [Value.category]) (Nat.le_of_ble_eq_true rfl) (fun z _ ty h => by cases h; exact vp_nar_int _) ?_
  show qJ RX3 cX3_worstTrip 2 6 144 false (fun _ _ => True) b K 0 [some (.ref (b + k0)), some (.int x1)] [] sg (fX3_worstTrip k0 x1 sg)
  unfold fX3_worstTrip
  refine q_aload_n (pc := 0) dX3_worstTrip_0 rfl ?_
  refine q_callVv (pc := 1) [] dX3_worstTrip_1 lm_X3_137 yX3_findWorst_ok yX3_findWorst_in h0 (by decide) rfl (sX3_findWorst hK h0 sg) rfl rfl (Nat.le_of_ble_eq_true rfl) ⟨by decide, by decide⟩ (fun r1 s2 => ?_)
  refine q_aload_n (pc := 4) dX3_worstTrip_4 rfl ?_
  refine qg_3_6 (pc := 5) dX3_worstTrip_5 h0 lf_X3_40 ?_
  refine q_iload_n (pc := 8) dX3_worstTrip_8 rfl ?_
  refine q_callSi (pc := 9) [.ref (b + ((k0 + 15))), .int x1] dX3_worstTrip_9 lm_X3_133 yX3_placeOf_ok yX3_placeOf_in (sX3_placeOf hK (qch_3_6 hK h0) x1 s2) rfl rfl (Nat.le_of_ble_eq_true rfl) ⟨by decide, by decide⟩ (fun r3 s4 => ?_)
  exact q_ireturn (pc := 12) dX3_worstTrip_12
-- LineSearch.within(II)I
def fX3_within (k0 : Nat) (x1 x2 : Int32) (sg : qSt) : qR :=
  if x1 < 1 then
    some ((-2), sg)
  else
  if 10000 < x1 then
    some ((-2), sg)
  else
  if x2 < 1 then
    some ((-2), sg)
  else
  if x2 ≤ 10000 then
    qb (fX3_findWorst k0 sg) fun r1 s2 =>
    qb (fX3_worstUpper k0 s2) fun r3 s4 =>
    if 0 < (lg_cmp ((r3).toInt64 * (x2).toInt64) ((x1).toInt64 * (((s4 k0 0) * 840)).toInt64)) then
      some (0, s4)
    else
    some (1, s4)
  else
  some ((-2), sg)
set_option maxRecDepth 20000 in
set_option maxHeartbeats 4000000 in
theorem sX3_within {b : Nat} {K : List Nat} (hK : qOk K) {k0 : Nat} (h0 : qIn K k0 3) (x1 x2 : Int32) (sg : qSt) : qS yX3_within cX3_within 3 (some .int) 6 144 b K [.ref (b + k0), .int x1, .int x2] sg (fX3_within k0 x1 x2 sg) := by
  refine qS_of (own := RX3) rfl (by decide) hK.1 (by simp [Value.category]) (Nat.le_of_ble_eq_true rfl) (fun z _ ty h => by cases h; exact vp_nar_int _) ?_
  show qJ RX3 cX3_within 3 6 144 false (fun _ _ => True) b K 0 [some (.ref (b + k0)), some (.int x1), some (.int x2)] [] sg (fX3_within k0 x1 x2 sg)
  unfold fX3_within
  refine q_iload_n (pc := 0) dX3_within_0 rfl ?_
  refine q_iconst (pc := 1) 1 dX3_within_1 (by decide) ?_
  refine q_icmp_lt (pc := 2) 24 dX3_within_2 (by decide) ?_ ?_
  · refine q_bipush (pc := 24) (-2) dX3_within_24 (by decide) ?_
    exact q_ireturn (pc := 26) dX3_within_26
  refine q_iload_n (pc := 5) dX3_within_5 rfl ?_
  refine q_sipush (pc := 6) 10000 dX3_within_6 (by decide) ?_
  refine q_icmp_gt (pc := 9) 24 dX3_within_9 (by decide) ?_ ?_
  · refine q_bipush (pc := 24) (-2) dX3_within_24 (by decide) ?_
    exact q_ireturn (pc := 26) dX3_within_26
  refine q_iload_n (pc := 12) dX3_within_12 rfl ?_
  refine q_iconst (pc := 13) 1 dX3_within_13 (by decide) ?_
  refine q_icmp_lt (pc := 14) 24 dX3_within_14 (by decide) ?_ ?_
  · refine q_bipush (pc := 24) (-2) dX3_within_24 (by decide) ?_
    exact q_ireturn (pc := 26) dX3_within_26
  refine q_iload_n (pc := 17) dX3_within_17 rfl ?_
  refine q_sipush (pc := 18) 10000 dX3_within_18 (by decide) ?_
  refine q_icmp_le (pc := 21) 27 dX3_within_21 (by decide) ?_ ?_
  · refine q_aload_n (pc := 27) dX3_within_27 rfl ?_
    refine q_callVv (pc := 28) [] dX3_within_28 lm_X3_137 yX3_findWorst_ok yX3_findWorst_in h0 (by decide) rfl (sX3_findWorst hK h0 sg) rfl rfl (Nat.le_of_ble_eq_true rfl) ⟨by decide, by decide⟩ (fun r1 s2 => ?_)
    refine q_aload_n (pc := 31) dX3_within_31 rfl ?_
    refine q_callVi (pc := 32) [] dX3_within_32 lm_X3_140 yX3_worstUpper_ok yX3_worstUpper_in h0 (by decide) rfl (sX3_worstUpper hK h0 s2) rfl rfl (Nat.le_of_ble_eq_true rfl) ⟨by decide, by decide⟩ (fun r3 s4 => ?_)
    refine q_i2l (pc := 35) dX3_within_35 ?_
    refine q_iload_n (pc := 36) dX3_within_36 rfl ?_
    refine q_i2l (pc := 37) dX3_within_37 ?_
    refine q_lmul (pc := 38) dX3_within_38 ?_
    refine q_iload_n (pc := 39) dX3_within_39 rfl ?_
    refine q_i2l (pc := 40) dX3_within_40 ?_
    refine q_aload_n (pc := 41) dX3_within_41 rfl ?_
    refine qg_3_0 (pc := 42) dX3_within_42 h0 lf_X3_9 ?_
    refine q_sipush (pc := 45) 840 dX3_within_45 (by decide) ?_
    refine q_imul (pc := 48) dX3_within_48 ?_
    refine q_i2l (pc := 49) dX3_within_49 ?_
    refine q_lmul (pc := 50) dX3_within_50 ?_
    refine q_lcmp (pc := 51) dX3_within_51 ?_
    refine q_if_gt (pc := 52) 59 dX3_within_52 (by decide) ?_ ?_
    · refine q_iconst (pc := 59) 0 dX3_within_59 (by decide) ?_
      exact q_ireturn (pc := 60) dX3_within_60
    refine q_iconst (pc := 55) 1 dX3_within_55 (by decide) ?_
    refine q_goto (pc := 56) 60 dX3_within_56 (by decide) ?_
    exact q_ireturn (pc := 60) dX3_within_60
  refine q_bipush (pc := 24) (-2) dX3_within_24 (by decide) ?_
  exact q_ireturn (pc := 26) dX3_within_26
-- LineSearch.take(I)I
def fX3_take (k0 : Nat) (x1 : Int32) (sg : qSt) : qR :=
  if x1 < 0 then
    some ((-2), sg)
  else
  if x1 ≤ 1 then
    if x1 = 0 then
      qb (fX3_findMean k0 sg) fun r5 s6 =>
      qb (fX2_copy (k0 + 3) (k0 + 12) s6) fun r7 s8 =>
      some ((s8 (k0 + 3) 2), s8)
    else
    qb (fX3_findWorst k0 sg) fun r1 s2 =>
    qb (fX2_copy (k0 + 3) (k0 + 15) s2) fun r3 s4 =>
    some ((s4 (k0 + 3) 2), s4)
  else
  some ((-2), sg)
set_option maxRecDepth 20000 in
set_option maxHeartbeats 4000000 in
theorem sX3_take {b : Nat} {K : List Nat} (hK : qOk K) {k0 : Nat} (h0 : qIn K k0 3) (x1 : Int32) (sg : qSt) : qS yX3_take cX3_take 2 (some .int) 6 144 b K [.ref (b + k0), .int x1] sg (fX3_take k0 x1 sg) := by
  refine qS_of (own := RX3) rfl (by decide) hK.1 (by simp [Value.category]) (Nat.le_of_ble_eq_true rfl) (fun z _ ty h => by cases h; exact vp_nar_int _) ?_
  show qJ RX3 cX3_take 2 6 144 false (fun _ _ => True) b K 0 [some (.ref (b + k0)), some (.int x1)] [] sg (fX3_take k0 x1 sg)
  unfold fX3_take
  refine q_iload_n (pc := 0) dX3_take_0 rfl ?_
  refine q_if_lt (pc := 1) 9 dX3_take_1 (by decide) ?_ ?_
  · refine q_bipush (pc := 9) (-2) dX3_take_9 (by decide) ?_
    exact q_ireturn (pc := 11) dX3_take_11
  refine q_iload_n (pc := 4) dX3_take_4 rfl ?_
  refine q_iconst (pc := 5) 1 dX3_take_5 (by decide) ?_
  refine q_icmp_le (pc := 6) 12 dX3_take_6 (by decide) ?_ ?_
  · refine q_iload_n (pc := 12) dX3_take_12 rfl ?_
    refine q_if_ne (pc := 13) 34 dX3_take_13 (by decide) ?_ ?_
    · refine q_aload_n (pc := 34) dX3_take_34 rfl ?_
      refine q_callVv (pc := 35) [] dX3_take_35 lm_X3_137 yX3_findWorst_ok yX3_findWorst_in h0 (by decide) rfl (sX3_findWorst hK h0 sg) rfl rfl (Nat.le_of_ble_eq_true rfl) ⟨by decide, by decide⟩ (fun r1 s2 => ?_)
      refine q_aload_n (pc := 38) dX3_take_38 rfl ?_
      refine qg_3_3 (pc := 39) dX3_take_39 h0 lf_X3_26 ?_
      refine q_aload_n (pc := 42) dX3_take_42 rfl ?_
      refine qg_3_6 (pc := 43) dX3_take_43 h0 lf_X3_40 ?_
      refine q_callVv (pc := 46) [.ref (b + ((k0 + 15)))] dX3_take_46 lm_X3_143 yX2_copy_ok yX2_copy_in (qch_3_3 hK h0) (by decide) rfl (sX2_copy hK (qch_3_3 hK h0) (qch_3_6 hK h0) s2) rfl rfl (Nat.le_of_ble_eq_true rfl) ⟨by decide, by decide⟩ (fun r3 s4 => ?_)
      refine q_aload_n (pc := 49) dX3_take_49 rfl ?_
      refine qg_3_3 (pc := 50) dX3_take_50 h0 lf_X3_26 ?_
      refine qg_2_2 (pc := 53) dX3_take_53 (qch_3_3 hK h0) lf_X3_78 ?_
      exact q_ireturn (pc := 56) dX3_take_56
    refine q_aload_n (pc := 16) dX3_take_16 rfl ?_
    refine q_callVv (pc := 17) [] dX3_take_17 lm_X3_127 yX3_findMean_ok yX3_findMean_in h0 (by decide) rfl (sX3_findMean hK h0 sg) rfl rfl (Nat.le_of_ble_eq_true rfl) ⟨by decide, by decide⟩ (fun r5 s6 => ?_)
    refine q_aload_n (pc := 20) dX3_take_20 rfl ?_
    refine qg_3_3 (pc := 21) dX3_take_21 h0 lf_X3_26 ?_
    refine q_aload_n (pc := 24) dX3_take_24 rfl ?_
    refine qg_3_5 (pc := 25) dX3_take_25 h0 lf_X3_37 ?_
    refine q_callVv (pc := 28) [.ref (b + ((k0 + 12)))] dX3_take_28 lm_X3_143 yX2_copy_ok yX2_copy_in (qch_3_3 hK h0) (by decide) rfl (sX2_copy hK (qch_3_3 hK h0) (qch_3_5 hK h0) s6) rfl rfl (Nat.le_of_ble_eq_true rfl) ⟨by decide, by decide⟩ (fun r7 s8 => ?_)
    refine q_goto (pc := 31) 49 dX3_take_31 (by decide) ?_
    refine q_aload_n (pc := 49) dX3_take_49 rfl ?_
    refine qg_3_3 (pc := 50) dX3_take_50 h0 lf_X3_26 ?_
    refine qg_2_2 (pc := 53) dX3_take_53 (qch_3_3 hK h0) lf_X3_78 ?_
    exact q_ireturn (pc := 56) dX3_take_56
  refine q_bipush (pc := 9) (-2) dX3_take_9 (by decide) ?_
  exact q_ireturn (pc := 11) dX3_take_11
-- LineSearch.tripThatMeets(II)I
def fX3_tripThatMeets (k0 : Nat) (x1 x2 : Int32) (sg : qSt) : qR :=
  qb (fX2_firstTo (k0 + 3) x1 x2 0 sg) fun r1 s2 =>
  qb (fX2_firstTo (k0 + 3) x1 x2 1 s2) fun r3 s4 =>
  if 0 ≤ r1 then
    if 0 ≤ r3 then
      qb (fX2_stepsAhead (k0 + 3) r3 1 s4) fun r5 s6 =>
      qb (fX2_stepsAhead (k0 + 3) r1 0 s6) fun r7 s8 =>
      if r7 ≤ r5 then
        some (r1, s8)
      else
      some (r3, s8)
    else
    some (r1, s4)
  else
  some (r3, s4)
set_option maxRecDepth 20000 in
set_option maxHeartbeats 4000000 in
theorem sX3_tripThatMeets {b : Nat} {K : List Nat} (hK : qOk K) {k0 : Nat} (h0 : qIn K k0 3) (x1 x2 : Int32) (sg : qSt) : qS yX3_tripThatMeets cX3_tripThatMeets 5 (some .int) 3 66 b K [.ref (b + k0), .int x1, .int x2] sg (fX3_tripThatMeets k0 x1 x2 sg) := by
  refine qS_of (own := RX3) rfl (by decide) hK.1 (by simp [Value.category]) (Nat.le_of_ble_eq_true rfl) (fun z _ ty h => by cases h; exact vp_nar_int _) ?_
  show qJ RX3 cX3_tripThatMeets 5 3 66 false (fun _ _ => True) b K 0 [some (.ref (b + k0)), some (.int x1), some (.int x2), none, none] [] sg (fX3_tripThatMeets k0 x1 x2 sg)
  unfold fX3_tripThatMeets
  refine q_aload_n (pc := 0) dX3_tripThatMeets_0 rfl ?_
  refine qg_3_3 (pc := 1) dX3_tripThatMeets_1 h0 lf_X3_26 ?_
  refine q_iload_n (pc := 4) dX3_tripThatMeets_4 rfl ?_
  refine q_iload_n (pc := 5) dX3_tripThatMeets_5 rfl ?_
  refine q_iconst (pc := 6) 0 dX3_tripThatMeets_6 (by decide) ?_
  refine q_callVi (pc := 7) [.int x1, .int x2, .int 0] dX3_tripThatMeets_7 lm_X3_158 yX2_firstTo_ok yX2_firstTo_in (qch_3_3 hK h0) (by decide) rfl (sX2_firstTo hK (qch_3_3 hK h0) x1 x2 0 sg) rfl rfl (Nat.le_of_ble_eq_true rfl) ⟨by decide, by decide⟩ (fun r1 s2 => ?_)
  refine q_istore_n (pc := 10) dX3_tripThatMeets_10 (by decide) ?_
  refine q_aload_n (pc := 11) dX3_tripThatMeets_11 rfl ?_
  refine qg_3_3 (pc := 12) dX3_tripThatMeets_12 h0 lf_X3_26 ?_
  refine q_iload_n (pc := 15) dX3_tripThatMeets_15 rfl ?_
  refine q_iload_n (pc := 16) dX3_tripThatMeets_16 rfl ?_
  refine q_iconst (pc := 17) 1 dX3_tripThatMeets_17 (by decide) ?_
  refine q_callVi (pc := 18) [.int x1, .int x2, .int 1] dX3_tripThatMeets_18 lm_X3_158 yX2_firstTo_ok yX2_firstTo_in (qch_3_3 hK h0) (by decide) rfl (sX2_firstTo hK (qch_3_3 hK h0) x1 x2 1 s2) rfl rfl (Nat.le_of_ble_eq_true rfl) ⟨by decide, by decide⟩ (fun r3 s4 => ?_)
  refine q_istore (pc := 21) dX3_tripThatMeets_21 (by decide) ?_
  refine q_iload_n (pc := 23) dX3_tripThatMeets_23 rfl ?_
  refine q_if_ge (pc := 24) 30 dX3_tripThatMeets_24 (by decide) ?_ ?_
  · refine q_iload (pc := 30) dX3_tripThatMeets_30 rfl ?_
    refine q_if_ge (pc := 32) 37 dX3_tripThatMeets_32 (by decide) ?_ ?_
    · refine q_aload_n (pc := 37) dX3_tripThatMeets_37 rfl ?_
      refine qg_3_3 (pc := 38) dX3_tripThatMeets_38 h0 lf_X3_26 ?_
      refine q_iload (pc := 41) dX3_tripThatMeets_41 rfl ?_
      refine q_iconst (pc := 43) 1 dX3_tripThatMeets_43 (by decide) ?_
      refine q_callVi (pc := 44) [.int r3, .int 1] dX3_tripThatMeets_44 lm_X3_94 yX2_stepsAhead_ok yX2_stepsAhead_in (qch_3_3 hK h0) (by decide) rfl (sX2_stepsAhead hK (qch_3_3 hK h0) r3 1 s4) rfl rfl (Nat.le_of_ble_eq_true rfl) ⟨by decide, by decide⟩ (fun r5 s6 => ?_)
      refine q_aload_n (pc := 47) dX3_tripThatMeets_47 rfl ?_
      refine qg_3_3 (pc := 48) dX3_tripThatMeets_48 h0 lf_X3_26 ?_
      refine q_iload_n (pc := 51) dX3_tripThatMeets_51 rfl ?_
      refine q_iconst (pc := 52) 0 dX3_tripThatMeets_52 (by decide) ?_
      refine q_callVi (pc := 53) [.int r1, .int 0] dX3_tripThatMeets_53 lm_X3_94 yX2_stepsAhead_ok yX2_stepsAhead_in (qch_3_3 hK h0) (by decide) rfl (sX2_stepsAhead hK (qch_3_3 hK h0) r1 0 s6) rfl rfl (Nat.le_of_ble_eq_true rfl) ⟨by decide, by decide⟩ (fun r7 s8 => ?_)
      refine q_icmp_ge (pc := 56) 64 dX3_tripThatMeets_56 (by decide) ?_ ?_
      · refine q_iload_n (pc := 64) dX3_tripThatMeets_64 rfl ?_
        exact q_ireturn (pc := 65) dX3_tripThatMeets_65
      refine q_iload (pc := 59) dX3_tripThatMeets_59 rfl ?_
      refine q_goto (pc := 61) 65 dX3_tripThatMeets_61 (by decide) ?_
      exact q_ireturn (pc := 65) dX3_tripThatMeets_65
    refine q_iload_n (pc := 35) dX3_tripThatMeets_35 rfl ?_
    exact q_ireturn (pc := 36) dX3_tripThatMeets_36
  refine q_iload (pc := 27) dX3_tripThatMeets_27 rfl ?_
  exact q_ireturn (pc := 29) dX3_tripThatMeets_29
-- LineSearch.both(III)I
def fX3_both (k0 : Nat) (x1 x2 x3 : Int32) (sg : qSt) : qR :=
  qb (fX0_has (k0 + 1) x1 x2 sg) fun r1 s2 =>
  if r1 = 0 then
    some ((-1), s2)
  else
  if x3 < 0 then
    some ((-2), s2)
  else
  if x3 ≤ 4 then
    qb (fX3_tripThatMeets k0 x1 x2 s2) fun r3 s4 =>
    qb (fX2_has (k0 + 3) r3 s4) fun r5 s6 =>
    if r5 = 0 then
      some ((-6), s6)
    else
    qb (fX2_stepsAhead (k0 + 3) r3 (r3 - r3 / 2 * 2) s6) fun r7 s8 =>
    qb (fX3_wholeTrips k0 r7 s8) fun r9 s10 =>
    if x3 = 0 then
      some ((r9 + ((s10 k0 0) * x2)), s10)
    else
    if x3 = 1 then
      qb (fX2_stepsOf (k0 + 3) r3 s10) fun r11 s12 =>
      qb (fX3_wholeTrips k0 (r7 + r11) s12) fun r13 s14 =>
      some (r13, s14)
    else
    if x3 = 2 then
      some ((r3 - r3 / 2 * 2), s10)
    else
    qb (fX3_lowest (r9 + ((s10 k0 0) * x2)) ((s10 k0 0) * x2) (x3 - 3) s10) fun r15 s16 =>
    some (r15, s16)
  else
  some ((-2), s2)
set_option maxRecDepth 20000 in
set_option maxHeartbeats 4000000 in
theorem sX3_both {b : Nat} {K : List Nat} (hK : qOk K) {k0 : Nat} (h0 : qIn K k0 3) (x1 x2 x3 : Int32) (sg : qSt) : qS yX3_both cX3_both 8 (some .int) 4 90 b K [.ref (b + k0), .int x1, .int x2, .int x3] sg (fX3_both k0 x1 x2 x3 sg) := by
  refine qS_of (own := RX3) rfl (by decide) hK.1 (by simp [Value.category]) (Nat.le_of_ble_eq_true rfl) (fun z _ ty h => by cases h; exact vp_nar_int _) ?_
  show qJ RX3 cX3_both 8 4 90 false (fun _ _ => True) b K 0 [some (.ref (b + k0)), some (.int x1), some (.int x2), some (.int x3), none, none, none, none] [] sg (fX3_both k0 x1 x2 x3 sg)
  unfold fX3_both
  refine q_aload_n (pc := 0) dX3_both_0 rfl ?_
  refine qg_3_2 (pc := 1) dX3_both_1 h0 lf_X3_19 ?_
  refine q_iload_n (pc := 4) dX3_both_4 rfl ?_
  refine q_iload_n (pc := 5) dX3_both_5 rfl ?_
  refine q_callVi (pc := 6) [.int x1, .int x2] dX3_both_6 lm_X3_67 yX0_has_ok yX0_has_in (qch_3_2 hK h0) (by decide) rfl (sX0_has hK (qch_3_2 hK h0) x1 x2 sg) rfl rfl (Nat.le_of_ble_eq_true rfl) ⟨by decide, by decide⟩ (fun r1 s2 => ?_)
  refine q_if_ne (pc := 9) 14 dX3_both_9 (by decide) ?_ ?_
  · refine q_iload_n (pc := 14) dX3_both_14 rfl ?_
    refine q_if_lt (pc := 15) 23 dX3_both_15 (by decide) ?_ ?_
    · refine q_bipush (pc := 23) (-2) dX3_both_23 (by decide) ?_
      exact q_ireturn (pc := 25) dX3_both_25
    refine q_iload_n (pc := 18) dX3_both_18 rfl ?_
    refine q_iconst (pc := 19) 4 dX3_both_19 (by decide) ?_
    refine q_icmp_le (pc := 20) 26 dX3_both_20 (by decide) ?_ ?_
    · refine q_aload_n (pc := 26) dX3_both_26 rfl ?_
      refine q_iload_n (pc := 27) dX3_both_27 rfl ?_
      refine q_iload_n (pc := 28) dX3_both_28 rfl ?_
      refine q_callVi (pc := 29) [.int x1, .int x2] dX3_both_29 lm_X3_147 yX3_tripThatMeets_ok yX3_tripThatMeets_in h0 (by decide) rfl (sX3_tripThatMeets hK h0 x1 x2 s2) rfl rfl (Nat.le_of_ble_eq_true rfl) ⟨by decide, by decide⟩ (fun r3 s4 => ?_)
      refine q_istore (pc := 32) dX3_both_32 (by decide) ?_
      refine q_aload_n (pc := 34) dX3_both_34 rfl ?_
      refine qg_3_3 (pc := 35) dX3_both_35 h0 lf_X3_26 ?_
      refine q_iload (pc := 38) dX3_both_38 rfl ?_
      refine q_callVi (pc := 40) [.int r3] dX3_both_40 lm_X3_84 yX2_has_ok yX2_has_in (qch_3_3 hK h0) (by decide) rfl (sX2_has hK (qch_3_3 hK h0) r3 s4) rfl rfl (Nat.le_of_ble_eq_true rfl) ⟨by decide, by decide⟩ (fun r5 s6 => ?_)
      refine q_if_ne (pc := 43) 49 dX3_both_43 (by decide) ?_ ?_
      · refine q_iload (pc := 49) dX3_both_49 rfl ?_
        refine q_iconst (pc := 51) 2 dX3_both_51 (by decide) ?_
        refine q_iremc (pc := 52) dX3_both_52 (by decide) ?_
        refine q_istore (pc := 53) dX3_both_53 (by decide) ?_
        refine q_aload_n (pc := 55) dX3_both_55 rfl ?_
        refine qg_3_3 (pc := 56) dX3_both_56 h0 lf_X3_26 ?_
        refine q_iload (pc := 59) dX3_both_59 rfl ?_
        refine q_iload (pc := 61) dX3_both_61 rfl ?_
        refine q_callVi (pc := 63) [.int r3, .int ((r3 - r3 / 2 * 2))] dX3_both_63 lm_X3_94 yX2_stepsAhead_ok yX2_stepsAhead_in (qch_3_3 hK h0) (by decide) rfl (sX2_stepsAhead hK (qch_3_3 hK h0) r3 (r3 - r3 / 2 * 2) s6) rfl rfl (Nat.le_of_ble_eq_true rfl) ⟨by decide, by decide⟩ (fun r7 s8 => ?_)
        refine q_istore (pc := 66) dX3_both_66 (by decide) ?_
        refine q_aload_n (pc := 68) dX3_both_68 rfl ?_
        refine q_iload (pc := 69) dX3_both_69 rfl ?_
        refine q_callVi (pc := 71) [.int r7] dX3_both_71 lm_X3_97 yX3_wholeTrips_ok yX3_wholeTrips_in h0 (by decide) rfl (sX3_wholeTrips hK h0 r7 s8) rfl rfl (Nat.le_of_ble_eq_true rfl) ⟨by decide, by decide⟩ (fun r9 s10 => ?_)
        refine q_aload_n (pc := 74) dX3_both_74 rfl ?_
        refine qg_3_0 (pc := 75) dX3_both_75 h0 lf_X3_9 ?_
        refine q_iload_n (pc := 78) dX3_both_78 rfl ?_
        refine q_imul (pc := 79) dX3_both_79 ?_
        refine q_iadd (pc := 80) dX3_both_80 ?_
        refine q_istore (pc := 81) dX3_both_81 (by decide) ?_
        refine q_iload_n (pc := 83) dX3_both_83 rfl ?_
        refine q_sel (fun hx84_0 => ?_) (fun hx84_0 => ?_)
        · refine q_tabIn (pc := 84) 112 dX3_both_84 (by rw [hx84_0]; decide) (by rw [hx84_0]; decide) (by rw [hx84_0]; rfl) (by decide) ?_
          refine q_iload (pc := 112) dX3_both_112 rfl ?_
          exact q_ireturn (pc := 114) dX3_both_114
        refine q_sel (fun hx84_1 => ?_) (fun hx84_1 => ?_)
        · refine q_tabIn (pc := 84) 115 dX3_both_84 (by rw [hx84_1]; decide) (by rw [hx84_1]; decide) (by rw [hx84_1]; rfl) (by decide) ?_
          refine q_aload_n (pc := 115) dX3_both_115 rfl ?_
          refine q_iload (pc := 116) dX3_both_116 rfl ?_
          refine q_aload_n (pc := 118) dX3_both_118 rfl ?_
          refine qg_3_3 (pc := 119) dX3_both_119 h0 lf_X3_26 ?_
          refine q_iload (pc := 122) dX3_both_122 rfl ?_
          refine q_callVi (pc := 124) [.int r3] dX3_both_124 lm_X3_91 yX2_stepsOf_ok yX2_stepsOf_in (qch_3_3 hK h0) (by decide) rfl (sX2_stepsOf hK (qch_3_3 hK h0) r3 s10) rfl rfl (Nat.le_of_ble_eq_true rfl) ⟨by decide, by decide⟩ (fun r11 s12 => ?_)
          refine q_iadd (pc := 127) dX3_both_127 ?_
          refine q_callVi (pc := 128) [.int ((r7 + r11))] dX3_both_128 lm_X3_97 yX3_wholeTrips_ok yX3_wholeTrips_in h0 (by decide) rfl (sX3_wholeTrips hK h0 (r7 + r11) s12) rfl rfl (Nat.le_of_ble_eq_true rfl) ⟨by decide, by decide⟩ (fun r13 s14 => ?_)
          exact q_ireturn (pc := 131) dX3_both_131
        refine q_sel (fun hx84_2 => ?_) (fun hx84_2 => ?_)
        · refine q_tabIn (pc := 84) 132 dX3_both_84 (by rw [hx84_2]; decide) (by rw [hx84_2]; decide) (by rw [hx84_2]; rfl) (by decide) ?_
          refine q_iload (pc := 132) dX3_both_132 rfl ?_
          exact q_ireturn (pc := 134) dX3_both_134
        refine q_tabOut (pc := 84) 135 dX3_both_84 (by have := qne 0 0 (by decide) hx84_0; have := qne 1 1 (by decide) hx84_1; have := qne 2 2 (by decide) hx84_2; omega) (by decide) ?_
        refine q_iload (pc := 135) dX3_both_135 rfl ?_
        refine q_aload_n (pc := 137) dX3_both_137 rfl ?_
        refine qg_3_0 (pc := 138) dX3_both_138 h0 lf_X3_9 ?_
        refine q_iload_n (pc := 141) dX3_both_141 rfl ?_
        refine q_imul (pc := 142) dX3_both_142 ?_
        refine q_iload_n (pc := 143) dX3_both_143 rfl ?_
        refine q_iconst (pc := 144) 3 dX3_both_144 (by decide) ?_
        refine q_isub (pc := 145) dX3_both_145 ?_
        refine q_callSi (pc := 146) [.int ((r9 + ((s10 k0 0) * x2))), .int (((s10 k0 0) * x2)), .int ((x3 - 3))] dX3_both_146 lm_X3_107 yX3_lowest_ok yX3_lowest_in (sX3_lowest hK (r9 + ((s10 k0 0) * x2)) ((s10 k0 0) * x2) (x3 - 3) s10) rfl rfl (Nat.le_of_ble_eq_true rfl) ⟨by decide, by decide⟩ (fun r15 s16 => ?_)
        exact q_ireturn (pc := 149) dX3_both_149
      refine q_bipush (pc := 46) (-6) dX3_both_46 (by decide) ?_
      exact q_ireturn (pc := 48) dX3_both_48
    refine q_bipush (pc := 23) (-2) dX3_both_23 (by decide) ?_
    exact q_ireturn (pc := 25) dX3_both_25
  refine q_iconst (pc := 12) (-1) dX3_both_12 (by decide) ?_
  exact q_ireturn (pc := 13) dX3_both_13
-- LineSearch.end()I
def fX3_end (k0 : Nat) (sg : qSt) : qR :=
  qb (fX2_stepsAhead (k0 + 3) (sg (k0 + 3) 2) 0 sg) fun r1 s2 =>
  qb (fX2_stepsAhead (k0 + 3) (sg (k0 + 3) 2) 1 s2) fun r3 s4 =>
  qb (fX3_wholeTrips k0 (if r1 < r3 then r3 else r1) s4) fun r5 s6 =>
  some (r5, s6)
set_option maxRecDepth 20000 in
set_option maxHeartbeats 4000000 in
theorem sX3_end {b : Nat} {K : List Nat} (hK : qOk K) {k0 : Nat} (h0 : qIn K k0 3) (sg : qSt) : qS yX3_end cX3_end 2 (some .int) 3 66 b K [.ref (b + k0)] sg (fX3_end k0 sg) := by
  refine qS_of (own := RX3) rfl (by decide) hK.1 (by simp [Value.category]) (Nat.le_of_ble_eq_true rfl) (fun z _ ty h => by cases h; exact vp_nar_int _) ?_
  show qJ RX3 cX3_end 2 3 66 false (fun _ _ => True) b K 0 [some (.ref (b + k0)), none] [] sg (fX3_end k0 sg)
  unfold fX3_end
  refine q_aload_n (pc := 0) dX3_end_0 rfl ?_
  refine qg_3_3 (pc := 1) dX3_end_1 h0 lf_X3_26 ?_
  refine qg_2_2 (pc := 4) dX3_end_4 (qch_3_3 hK h0) lf_X3_78 ?_
  refine q_istore_n (pc := 7) dX3_end_7 (by decide) ?_
  refine q_aload_n (pc := 8) dX3_end_8 rfl ?_
  refine q_aload_n (pc := 9) dX3_end_9 rfl ?_
  refine qg_3_3 (pc := 10) dX3_end_10 h0 lf_X3_26 ?_
  refine q_iload_n (pc := 13) dX3_end_13 rfl ?_
  refine q_iconst (pc := 14) 0 dX3_end_14 (by decide) ?_
  refine q_callVi (pc := 15) [.int ((sg (k0 + 3) 2)), .int 0] dX3_end_15 lm_X3_94 yX2_stepsAhead_ok yX2_stepsAhead_in (qch_3_3 hK h0) (by decide) rfl (sX2_stepsAhead hK (qch_3_3 hK h0) (sg (k0 + 3) 2) 0 sg) rfl rfl (Nat.le_of_ble_eq_true rfl) ⟨by decide, by decide⟩ (fun r1 s2 => ?_)
  refine q_aload_n (pc := 18) dX3_end_18 rfl ?_
  refine qg_3_3 (pc := 19) dX3_end_19 h0 lf_X3_26 ?_
  refine q_iload_n (pc := 22) dX3_end_22 rfl ?_
  refine q_iconst (pc := 23) 1 dX3_end_23 (by decide) ?_
  refine q_callVi (pc := 24) [.int ((sg (k0 + 3) 2)), .int 1] dX3_end_24 lm_X3_94 yX2_stepsAhead_ok yX2_stepsAhead_in (qch_3_3 hK h0) (by decide) rfl (sX2_stepsAhead hK (qch_3_3 hK h0) (sg (k0 + 3) 2) 1 s2) rfl rfl (Nat.le_of_ble_eq_true rfl) ⟨by decide, by decide⟩ (fun r3 s4 => ?_)
  refine q_mmax (pc := 27) dX3_end_27 lm_X3_150 qM_max1 qM_i qM_max3 (by decide) (Nat.le_of_ble_eq_true rfl) ?_
  refine q_callVi (pc := 30) [.int ((if r1 < r3 then r3 else r1))] dX3_end_30 lm_X3_97 yX3_wholeTrips_ok yX3_wholeTrips_in h0 (by decide) rfl (sX3_wholeTrips hK h0 (if r1 < r3 then r3 else r1) s4) rfl rfl (Nat.le_of_ble_eq_true rfl) ⟨by decide, by decide⟩ (fun r5 s6 => ?_)
  exact q_ireturn (pc := 33) dX3_end_33
-- LineSearch.told(I)I
def fX3_told (k0 : Nat) (x1 : Int32) (sg : qSt) : qR :=
  if x1 = 0 then
    some ((sg (k0 + 1) 0), sg)
  else
  if x1 = 1 then
    some ((sg (k0 + 1) 1), sg)
  else
  if x1 = 2 then
    some ((sg k0 0), sg)
  else
  if x1 = 3 then
    some ((sg k0 1), sg)
  else
  if x1 = 4 then
    some ((sg (k0 + 3) 2), sg)
  else
  if x1 = 5 then
    qb (fX0_allShares (k0 + 1) sg) fun r1 s2 =>
    some (r1, s2)
  else
  if x1 = 6 then
    qb (fX2_stepsAhead (k0 + 3) (sg (k0 + 3) 2) (-1) sg) fun r3 s4 =>
    qb (fX3_wholeTrips k0 r3 s4) fun r5 s6 =>
    some (r5, s6)
  else
  some ((-2), sg)
set_option maxRecDepth 20000 in
set_option maxHeartbeats 4000000 in
theorem sX3_told {b : Nat} {K : List Nat} (hK : qOk K) {k0 : Nat} (h0 : qIn K k0 3) (x1 : Int32) (sg : qSt) : qS yX3_told cX3_told 2 (some .int) 3 67 b K [.ref (b + k0), .int x1] sg (fX3_told k0 x1 sg) := by
  refine qS_of (own := RX3) rfl (by decide) hK.1 (by simp [Value.category]) (Nat.le_of_ble_eq_true rfl) (fun z _ ty h => by cases h; exact vp_nar_int _) ?_
  show qJ RX3 cX3_told 2 3 67 false (fun _ _ => True) b K 0 [some (.ref (b + k0)), some (.int x1)] [] sg (fX3_told k0 x1 sg)
  unfold fX3_told
  refine q_iload_n (pc := 0) dX3_told_0 rfl ?_
  refine q_sel (fun hx1_0 => ?_) (fun hx1_0 => ?_)
  · refine q_tabIn (pc := 1) 44 dX3_told_1 (by rw [hx1_0]; decide) (by rw [hx1_0]; decide) (by rw [hx1_0]; rfl) (by decide) ?_
    refine q_aload_n (pc := 44) dX3_told_44 rfl ?_
    refine qg_3_2 (pc := 45) dX3_told_45 h0 lf_X3_19 ?_
    refine qg_0_0 (pc := 48) dX3_told_48 (qch_3_2 hK h0) lf_X3_118 ?_
    exact q_ireturn (pc := 51) dX3_told_51
  refine q_sel (fun hx1_1 => ?_) (fun hx1_1 => ?_)
  · refine q_tabIn (pc := 1) 52 dX3_told_1 (by rw [hx1_1]; decide) (by rw [hx1_1]; decide) (by rw [hx1_1]; rfl) (by decide) ?_
    refine q_aload_n (pc := 52) dX3_told_52 rfl ?_
    refine qg_3_2 (pc := 53) dX3_told_53 h0 lf_X3_19 ?_
    refine qg_0_1 (pc := 56) dX3_told_56 (qch_3_2 hK h0) lf_X3_121 ?_
    exact q_ireturn (pc := 59) dX3_told_59
  refine q_sel (fun hx1_2 => ?_) (fun hx1_2 => ?_)
  · refine q_tabIn (pc := 1) 60 dX3_told_1 (by rw [hx1_2]; decide) (by rw [hx1_2]; decide) (by rw [hx1_2]; rfl) (by decide) ?_
    refine q_aload_n (pc := 60) dX3_told_60 rfl ?_
    refine qg_3_0 (pc := 61) dX3_told_61 h0 lf_X3_9 ?_
    exact q_ireturn (pc := 64) dX3_told_64
  refine q_sel (fun hx1_3 => ?_) (fun hx1_3 => ?_)
  · refine q_tabIn (pc := 1) 65 dX3_told_1 (by rw [hx1_3]; decide) (by rw [hx1_3]; decide) (by rw [hx1_3]; rfl) (by decide) ?_
    refine q_aload_n (pc := 65) dX3_told_65 rfl ?_
    refine qg_3_1 (pc := 66) dX3_told_66 h0 lf_X3_13 ?_
    exact q_ireturn (pc := 69) dX3_told_69
  refine q_sel (fun hx1_4 => ?_) (fun hx1_4 => ?_)
  · refine q_tabIn (pc := 1) 70 dX3_told_1 (by rw [hx1_4]; decide) (by rw [hx1_4]; decide) (by rw [hx1_4]; rfl) (by decide) ?_
    refine q_aload_n (pc := 70) dX3_told_70 rfl ?_
    refine qg_3_3 (pc := 71) dX3_told_71 h0 lf_X3_26 ?_
    refine qg_2_2 (pc := 74) dX3_told_74 (qch_3_3 hK h0) lf_X3_78 ?_
    exact q_ireturn (pc := 77) dX3_told_77
  refine q_sel (fun hx1_5 => ?_) (fun hx1_5 => ?_)
  · refine q_tabIn (pc := 1) 78 dX3_told_1 (by rw [hx1_5]; decide) (by rw [hx1_5]; decide) (by rw [hx1_5]; rfl) (by decide) ?_
    refine q_aload_n (pc := 78) dX3_told_78 rfl ?_
    refine qg_3_2 (pc := 79) dX3_told_79 h0 lf_X3_19 ?_
    refine q_callVi (pc := 82) [] dX3_told_82 lm_X3_155 yX0_allShares_ok yX0_allShares_in (qch_3_2 hK h0) (by decide) rfl (sX0_allShares hK (qch_3_2 hK h0) sg) rfl rfl (Nat.le_of_ble_eq_true rfl) ⟨by decide, by decide⟩ (fun r1 s2 => ?_)
    exact q_ireturn (pc := 85) dX3_told_85
  refine q_sel (fun hx1_6 => ?_) (fun hx1_6 => ?_)
  · refine q_tabIn (pc := 1) 86 dX3_told_1 (by rw [hx1_6]; decide) (by rw [hx1_6]; decide) (by rw [hx1_6]; rfl) (by decide) ?_
    refine q_aload_n (pc := 86) dX3_told_86 rfl ?_
    refine q_aload_n (pc := 87) dX3_told_87 rfl ?_
    refine qg_3_3 (pc := 88) dX3_told_88 h0 lf_X3_26 ?_
    refine q_aload_n (pc := 91) dX3_told_91 rfl ?_
    refine qg_3_3 (pc := 92) dX3_told_92 h0 lf_X3_26 ?_
    refine qg_2_2 (pc := 95) dX3_told_95 (qch_3_3 hK h0) lf_X3_78 ?_
    refine q_iconst (pc := 98) (-1) dX3_told_98 (by decide) ?_
    refine q_callVi (pc := 99) [.int ((sg (k0 + 3) 2)), .int (-1)] dX3_told_99 lm_X3_94 yX2_stepsAhead_ok yX2_stepsAhead_in (qch_3_3 hK h0) (by decide) rfl (sX2_stepsAhead hK (qch_3_3 hK h0) (sg (k0 + 3) 2) (-1) sg) rfl rfl (Nat.le_of_ble_eq_true rfl) ⟨by decide, by decide⟩ (fun r3 s4 => ?_)
    refine q_callVi (pc := 102) [.int r3] dX3_told_102 lm_X3_97 yX3_wholeTrips_ok yX3_wholeTrips_in h0 (by decide) rfl (sX3_wholeTrips hK h0 r3 s4) rfl rfl (Nat.le_of_ble_eq_true rfl) ⟨by decide, by decide⟩ (fun r5 s6 => ?_)
    exact q_ireturn (pc := 105) dX3_told_105
  refine q_tabOut (pc := 1) 106 dX3_told_1 (by have := qne 0 0 (by decide) hx1_0; have := qne 1 1 (by decide) hx1_1; have := qne 2 2 (by decide) hx1_2; have := qne 3 3 (by decide) hx1_3; have := qne 4 4 (by decide) hx1_4; have := qne 5 5 (by decide) hx1_5; have := qne 6 6 (by decide) hx1_6; omega) (by decide) ?_
  refine q_bipush (pc := 106) (-2) dX3_told_106 (by decide) ?_
  exact q_ireturn (pc := 108) dX3_told_108
end
section
/-! ===== by program (gen.py): the walk of methods ===== -/
-- LineSearchModel.in(III)Z
def fX4_in_b (x0 x1 x2 : Int32) (sg : qSt) : qR :=
  if x0 < x1 then
    some (0, sg)
  else
  if x2 < x0 then
    some (0, sg)
  else
  some (1, sg)
def fX4_in (x0 x1 x2 : Int32) (sg : qSt) : qR := qz (fX4_in_b x0 x1 x2 sg)
set_option maxRecDepth 20000 in
set_option maxHeartbeats 4000000 in
theorem sX4_in {b : Nat} {K : List Nat} (hK : qOk K) (x0 x1 x2 : Int32) (sg : qSt) : qS yX4_in cX4_in 3 (some .boolean) 0 0 b K [.int x0, .int x1, .int x2] sg (fX4_in x0 x1 x2 sg) := by
  refine qS_of (own := RX4) rfl (by decide) hK.1 (by simp [Value.category]) (Nat.le_of_ble_eq_true rfl) (fun z hz ty h => by cases h; exact qz_bool hz) ?_
  show qJ RX4 cX4_in 3 0 0 false (fun _ _ => True) b K 0 [some (.int x0), some (.int x1), some (.int x2)] [] sg (fX4_in x0 x1 x2 sg)
  refine qJ_qz ?_
  unfold fX4_in_b
  refine q_iload_n (pc := 0) dX4_in_0 rfl ?_
  refine q_iload_n (pc := 1) dX4_in_1 rfl ?_
  refine q_icmp_lt (pc := 2) 14 dX4_in_2 (by decide) ?_ ?_
  · refine q_iconst (pc := 14) 0 dX4_in_14 (by decide) ?_
    exact q_ireturn (pc := 15) dX4_in_15
  refine q_iload_n (pc := 5) dX4_in_5 rfl ?_
  refine q_iload_n (pc := 6) dX4_in_6 rfl ?_
  refine q_icmp_gt (pc := 7) 14 dX4_in_7 (by decide) ?_ ?_
  · refine q_iconst (pc := 14) 0 dX4_in_14 (by decide) ?_
    exact q_ireturn (pc := 15) dX4_in_15
  refine q_iconst (pc := 10) 1 dX4_in_10 (by decide) ?_
  refine q_goto (pc := 11) 15 dX4_in_11 (by decide) ?_
  exact q_ireturn (pc := 15) dX4_in_15
-- LineSearchModel.begin()V
def fX4_begin_7 (k0 : Nat) : Nat → Int32 → qSt → qR
  | 0, _, _ => none
  | n + 1, x1, sg =>
    if 27 ≤ x1 then
      some (0, sg)
    else
    if qin x1 (qlen (k0 + 1)) then
    fX4_begin_7 k0 n ((x1 + 1)) (qset sg (k0 + 1) (Int32.toNatClampNeg x1) 1)
    else none
set_option maxRecDepth 20000 in
set_option maxHeartbeats 4000000 in
theorem tX4_begin_7 {b : Nat} {K : List Nat} (hK : qOk K) {k0 : Nat} (h0 : qIn K k0 4) : ∀ (n : Nat) (x1 : Int32) (sg : qSt), qJ RX4 cX4_begin 2 0 0 true (fun _ _ => True) b K 7 [some (.ref (b + k0)), some (.int x1)] [] sg (fX4_begin_7 k0 n x1 sg) := by
  intro n
  induction n with
  | zero => intro x1 sg; exact qJ_none
  | succ n ih =>
    intro x1 sg
    unfold fX4_begin_7
    refine q_iload_n (pc := 7) dX4_begin_7 rfl ?_
    refine q_bipush (pc := 8) 27 dX4_begin_8 (by decide) ?_
    refine q_icmp_ge (pc := 10) 26 dX4_begin_10 (by decide) ?_ ?_
    · exact q_return (pc := 26) dX4_begin_26
    refine q_aload_n (pc := 13) dX4_begin_13 rfl ?_
    refine qg_4_4 (pc := 14) dX4_begin_14 h0 lf_X4_22 ?_
    refine q_iload_n (pc := 17) dX4_begin_17 rfl ?_
    refine q_iconst (pc := 18) 1 dX4_begin_18 (by decide) ?_
    refine q_iast (pc := 19) dX4_begin_19 (qch_4_4 hK h0) ?_
    refine q_iinc (pc := 20) 1 dX4_begin_20 rfl (by decide) (by decide) ?_
    refine q_goto (pc := 23) 7 dX4_begin_23 (by decide) ?_
    exact ih ((x1 + 1)) (qset sg (k0 + 1) (Int32.toNatClampNeg x1) 1)
def fX4_begin (k0 : Nat) (sg : qSt) : qR :=
  fX4_begin_7 k0 qfu 0 (qset sg k0 5 0)
set_option maxRecDepth 20000 in
set_option maxHeartbeats 4000000 in
theorem sX4_begin {b : Nat} {K : List Nat} (hK : qOk K) {k0 : Nat} (h0 : qIn K k0 4) (sg : qSt) : qS yX4_begin cX4_begin 2 none 0 0 b K [.ref (b + k0)] sg (fX4_begin k0 sg) := by
  refine qS_of (own := RX4) rfl (by decide) hK.1 (by simp [Value.category]) (Nat.le_of_ble_eq_true rfl) (fun z _ ty h => by cases h) ?_
  show qJ RX4 cX4_begin 2 0 0 true (fun _ _ => True) b K 0 [some (.ref (b + k0)), none] [] sg (fX4_begin k0 sg)
  unfold fX4_begin
  refine q_aload_n (pc := 0) dX4_begin_0 rfl ?_
  refine q_iconst (pc := 1) 0 dX4_begin_1 (by decide) ?_
  refine qp_4_5 (pc := 2) dX4_begin_2 h0 lf_X4_44 ?_
  refine q_iconst (pc := 5) 0 dX4_begin_5 (by decide) ?_
  refine q_istore_n (pc := 6) dX4_begin_6 (by decide) ?_
  exact tX4_begin_7 hK h0 qfu 0 (qset sg k0 5 0)
-- LineSearchModel.isPlace(II)Z
def fX4_isPlace_b (k0 : Nat) (x1 x2 : Int32) (sg : qSt) : qR :=
  qb (fX4_in x1 0 ((sg k0 0) - 1) sg) fun r1 s2 =>
  if r1 = 0 then
    some (0, s2)
  else
  qb (fX4_in x2 1 (s2 k0 1) s2) fun r3 s4 =>
  if r3 = 0 then
    some (0, s4)
  else
  some (1, s4)
def fX4_isPlace (k0 : Nat) (x1 x2 : Int32) (sg : qSt) : qR := qz (fX4_isPlace_b k0 x1 x2 sg)
set_option maxRecDepth 20000 in
set_option maxHeartbeats 4000000 in
theorem sX4_isPlace {b : Nat} {K : List Nat} (hK : qOk K) {k0 : Nat} (h0 : qIn K k0 4) (x1 x2 : Int32) (sg : qSt) : qS yX4_isPlace cX4_isPlace 3 (some .boolean) 1 22 b K [.ref (b + k0), .int x1, .int x2] sg (fX4_isPlace k0 x1 x2 sg) := by
  refine qS_of (own := RX4) rfl (by decide) hK.1 (by simp [Value.category]) (Nat.le_of_ble_eq_true rfl) (fun z hz ty h => by cases h; exact qz_bool hz) ?_
  show qJ RX4 cX4_isPlace 3 1 22 false (fun _ _ => True) b K 0 [some (.ref (b + k0)), some (.int x1), some (.int x2)] [] sg (fX4_isPlace k0 x1 x2 sg)
  refine qJ_qz ?_
  unfold fX4_isPlace_b
  refine q_iload_n (pc := 0) dX4_isPlace_0 rfl ?_
  refine q_iconst (pc := 1) 0 dX4_isPlace_1 (by decide) ?_
  refine q_aload_n (pc := 2) dX4_isPlace_2 rfl ?_
  refine qg_4_0 (pc := 3) dX4_isPlace_3 h0 lf_X4_7 ?_
  refine q_iconst (pc := 6) 1 dX4_isPlace_6 (by decide) ?_
  refine q_isub (pc := 7) dX4_isPlace_7 ?_
  refine q_callSi (pc := 8) [.int x1, .int 0, .int (((sg k0 0) - 1))] dX4_isPlace_8 lm_X4_47 yX4_in_ok yX4_in_in (sX4_in hK x1 0 ((sg k0 0) - 1) sg) rfl rfl (Nat.le_of_ble_eq_true rfl) ⟨by decide, by decide⟩ (fun r1 s2 => ?_)
  refine q_if_eq (pc := 11) 30 dX4_isPlace_11 (by decide) ?_ ?_
  · refine q_iconst (pc := 30) 0 dX4_isPlace_30 (by decide) ?_
    exact q_ireturn (pc := 31) dX4_isPlace_31
  refine q_iload_n (pc := 14) dX4_isPlace_14 rfl ?_
  refine q_iconst (pc := 15) 1 dX4_isPlace_15 (by decide) ?_
  refine q_aload_n (pc := 16) dX4_isPlace_16 rfl ?_
  refine qg_4_1 (pc := 17) dX4_isPlace_17 h0 lf_X4_13 ?_
  refine q_callSi (pc := 20) [.int x2, .int 1, .int ((s2 k0 1))] dX4_isPlace_20 lm_X4_47 yX4_in_ok yX4_in_in (sX4_in hK x2 1 (s2 k0 1) s2) rfl rfl (Nat.le_of_ble_eq_true rfl) ⟨by decide, by decide⟩ (fun r3 s4 => ?_)
  refine q_if_eq (pc := 23) 30 dX4_isPlace_23 (by decide) ?_ ?_
  · refine q_iconst (pc := 30) 0 dX4_isPlace_30 (by decide) ?_
    exact q_ireturn (pc := 31) dX4_isPlace_31
  refine q_iconst (pc := 26) 1 dX4_isPlace_26 (by decide) ?_
  refine q_goto (pc := 27) 31 dX4_isPlace_27 (by decide) ?_
  exact q_ireturn (pc := 31) dX4_isPlace_31
-- LineSearchModel.rays(II)I
def fX4_rays (k0 : Nat) (x1 x2 : Int32) (sg : qSt) : qR :=
  qb (fX4_in x1 2 3 sg) fun r1 s2 =>
  if r1 = 0 then
    some ((-2), s2)
  else
  qb (fX4_in x2 1 8 s2) fun r3 s4 =>
  if r3 = 0 then
    some ((-2), s4)
  else
  qb (fX4_begin k0 (qset (qset s4 k0 0 x1) k0 1 x2)) fun r5 s6 =>
  some ((x1 * x2), s6)
set_option maxRecDepth 20000 in
set_option maxHeartbeats 4000000 in
theorem sX4_rays {b : Nat} {K : List Nat} (hK : qOk K) {k0 : Nat} (h0 : qIn K k0 4) (x1 x2 : Int32) (sg : qSt) : qS yX4_rays cX4_rays 3 (some .int) 1 22 b K [.ref (b + k0), .int x1, .int x2] sg (fX4_rays k0 x1 x2 sg) := by
  refine qS_of (own := RX4) rfl (by decide) hK.1 (by simp [Value.category]) (Nat.le_of_ble_eq_true rfl) (fun z _ ty h => by cases h; exact vp_nar_int _) ?_
  show qJ RX4 cX4_rays 3 1 22 false (fun _ _ => True) b K 0 [some (.ref (b + k0)), some (.int x1), some (.int x2)] [] sg (fX4_rays k0 x1 x2 sg)
  unfold fX4_rays
  refine q_iload_n (pc := 0) dX4_rays_0 rfl ?_
  refine q_iconst (pc := 1) 2 dX4_rays_1 (by decide) ?_
  refine q_iconst (pc := 2) 3 dX4_rays_2 (by decide) ?_
  refine q_callSi (pc := 3) [.int x1, .int 2, .int 3] dX4_rays_3 lm_X4_47 yX4_in_ok yX4_in_in (sX4_in hK x1 2 3 sg) rfl rfl (Nat.le_of_ble_eq_true rfl) ⟨by decide, by decide⟩ (fun r1 s2 => ?_)
  refine q_if_eq (pc := 6) 19 dX4_rays_6 (by decide) ?_ ?_
  · refine q_bipush (pc := 19) (-2) dX4_rays_19 (by decide) ?_
    exact q_ireturn (pc := 21) dX4_rays_21
  refine q_iload_n (pc := 9) dX4_rays_9 rfl ?_
  refine q_iconst (pc := 10) 1 dX4_rays_10 (by decide) ?_
  refine q_bipush (pc := 11) 8 dX4_rays_11 (by decide) ?_
  refine q_callSi (pc := 13) [.int x2, .int 1, .int 8] dX4_rays_13 lm_X4_47 yX4_in_ok yX4_in_in (sX4_in hK x2 1 8 s2) rfl rfl (Nat.le_of_ble_eq_true rfl) ⟨by decide, by decide⟩ (fun r3 s4 => ?_)
  refine q_if_ne (pc := 16) 22 dX4_rays_16 (by decide) ?_ ?_
  · refine q_aload_n (pc := 22) dX4_rays_22 rfl ?_
    refine q_iload_n (pc := 23) dX4_rays_23 rfl ?_
    refine qp_4_0 (pc := 24) dX4_rays_24 h0 lf_X4_7 ?_
    refine q_aload_n (pc := 27) dX4_rays_27 rfl ?_
    refine q_iload_n (pc := 28) dX4_rays_28 rfl ?_
    refine qp_4_1 (pc := 29) dX4_rays_29 h0 lf_X4_13 ?_
    refine q_aload_n (pc := 32) dX4_rays_32 rfl ?_
    refine q_callVv (pc := 33) [] dX4_rays_33 lm_X4_41 yX4_begin_ok yX4_begin_in h0 (by decide) rfl (sX4_begin hK h0 (qset (qset s4 k0 0 x1) k0 1 x2)) rfl rfl (Nat.le_of_ble_eq_true rfl) ⟨by decide, by decide⟩ (fun r5 s6 => ?_)
    refine q_iload_n (pc := 36) dX4_rays_36 rfl ?_
    refine q_iload_n (pc := 37) dX4_rays_37 rfl ?_
    refine q_imul (pc := 38) dX4_rays_38 ?_
    exact q_ireturn (pc := 39) dX4_rays_39
  refine q_bipush (pc := 19) (-2) dX4_rays_19 (by decide) ?_
  exact q_ireturn (pc := 21) dX4_rays_21
-- LineSearchModel.costs(II)I
def fX4_costs (k0 : Nat) (x1 x2 : Int32) (sg : qSt) : qR :=
  qb (fX4_in x1 1 9 sg) fun r1 s2 =>
  if r1 = 0 then
    some ((-2), s2)
  else
  qb (fX4_in x2 1 9 s2) fun r3 s4 =>
  if r3 = 0 then
    some ((-2), s4)
  else
  some (1, qset (qset s4 k0 2 x1) k0 3 x2)
set_option maxRecDepth 20000 in
set_option maxHeartbeats 4000000 in
theorem sX4_costs {b : Nat} {K : List Nat} (hK : qOk K) {k0 : Nat} (h0 : qIn K k0 4) (x1 x2 : Int32) (sg : qSt) : qS yX4_costs cX4_costs 3 (some .int) 1 22 b K [.ref (b + k0), .int x1, .int x2] sg (fX4_costs k0 x1 x2 sg) := by
  refine qS_of (own := RX4) rfl (by decide) hK.1 (by simp [Value.category]) (Nat.le_of_ble_eq_true rfl) (fun z _ ty h => by cases h; exact vp_nar_int _) ?_
  show qJ RX4 cX4_costs 3 1 22 false (fun _ _ => True) b K 0 [some (.ref (b + k0)), some (.int x1), some (.int x2)] [] sg (fX4_costs k0 x1 x2 sg)
  unfold fX4_costs
  refine q_iload_n (pc := 0) dX4_costs_0 rfl ?_
  refine q_iconst (pc := 1) 1 dX4_costs_1 (by decide) ?_
  refine q_bipush (pc := 2) 9 dX4_costs_2 (by decide) ?_
  refine q_callSi (pc := 4) [.int x1, .int 1, .int 9] dX4_costs_4 lm_X4_47 yX4_in_ok yX4_in_in (sX4_in hK x1 1 9 sg) rfl rfl (Nat.le_of_ble_eq_true rfl) ⟨by decide, by decide⟩ (fun r1 s2 => ?_)
  refine q_if_eq (pc := 7) 20 dX4_costs_7 (by decide) ?_ ?_
  · refine q_bipush (pc := 20) (-2) dX4_costs_20 (by decide) ?_
    exact q_ireturn (pc := 22) dX4_costs_22
  refine q_iload_n (pc := 10) dX4_costs_10 rfl ?_
  refine q_iconst (pc := 11) 1 dX4_costs_11 (by decide) ?_
  refine q_bipush (pc := 12) 9 dX4_costs_12 (by decide) ?_
  refine q_callSi (pc := 14) [.int x2, .int 1, .int 9] dX4_costs_14 lm_X4_47 yX4_in_ok yX4_in_in (sX4_in hK x2 1 9 s2) rfl rfl (Nat.le_of_ble_eq_true rfl) ⟨by decide, by decide⟩ (fun r3 s4 => ?_)
  refine q_if_ne (pc := 17) 23 dX4_costs_17 (by decide) ?_ ?_
  · refine q_aload_n (pc := 23) dX4_costs_23 rfl ?_
    refine q_iload_n (pc := 24) dX4_costs_24 rfl ?_
    refine qp_4_2 (pc := 25) dX4_costs_25 h0 lf_X4_16 ?_
    refine q_aload_n (pc := 28) dX4_costs_28 rfl ?_
    refine q_iload_n (pc := 29) dX4_costs_29 rfl ?_
    refine qp_4_3 (pc := 30) dX4_costs_30 h0 lf_X4_19 ?_
    refine q_iconst (pc := 33) 1 dX4_costs_33 (by decide) ?_
    exact q_ireturn (pc := 34) dX4_costs_34
  refine q_bipush (pc := 20) (-2) dX4_costs_20 (by decide) ?_
  exact q_ireturn (pc := 22) dX4_costs_22
-- LineSearchModel.share(III)I
def fX4_share (k0 : Nat) (x1 x2 x3 : Int32) (sg : qSt) : qR :=
  qb (fX4_isPlace k0 x1 x2 sg) fun r1 s2 =>
  if r1 = 0 then
    some ((-1), s2)
  else
  qb (fX4_in x3 0 100 s2) fun r3 s4 =>
  if r3 = 0 then
    some ((-2), s4)
  else
  if qin ((9 * x1) + x2) (qlen (k0 + 1)) then
  if qin ((9 * x1) + x2) (qlen (k0 + 1)) then
  some ((s4 (k0 + 1) (Int32.toNatClampNeg ((9 * x1) + x2))), qset s4 (k0 + 1) (Int32.toNatClampNeg ((9 * x1) + x2)) x3)
  else none
  else none
set_option maxRecDepth 20000 in
set_option maxHeartbeats 4000000 in
theorem sX4_share {b : Nat} {K : List Nat} (hK : qOk K) {k0 : Nat} (h0 : qIn K k0 4) (x1 x2 x3 : Int32) (sg : qSt) : qS yX4_share cX4_share 5 (some .int) 2 44 b K [.ref (b + k0), .int x1, .int x2, .int x3] sg (fX4_share k0 x1 x2 x3 sg) := by
  refine qS_of (own := RX4) rfl (by decide) hK.1 (by simp [Value.category]) (Nat.le_of_ble_eq_true rfl) (fun z _ ty h => by cases h; exact vp_nar_int _) ?_
  show qJ RX4 cX4_share 5 2 44 false (fun _ _ => True) b K 0 [some (.ref (b + k0)), some (.int x1), some (.int x2), some (.int x3), none] [] sg (fX4_share k0 x1 x2 x3 sg)
  unfold fX4_share
  refine q_aload_n (pc := 0) dX4_share_0 rfl ?_
  refine q_iload_n (pc := 1) dX4_share_1 rfl ?_
  refine q_iload_n (pc := 2) dX4_share_2 rfl ?_
  refine q_callVi (pc := 3) [.int x1, .int x2] dX4_share_3 lm_X4_51 yX4_isPlace_ok yX4_isPlace_in h0 (by decide) rfl (sX4_isPlace hK h0 x1 x2 sg) rfl rfl (Nat.le_of_ble_eq_true rfl) ⟨by decide, by decide⟩ (fun r1 s2 => ?_)
  refine q_if_ne (pc := 6) 11 dX4_share_6 (by decide) ?_ ?_
  · refine q_iload_n (pc := 11) dX4_share_11 rfl ?_
    refine q_iconst (pc := 12) 0 dX4_share_12 (by decide) ?_
    refine q_bipush (pc := 13) 100 dX4_share_13 (by decide) ?_
    refine q_callSi (pc := 15) [.int x3, .int 0, .int 100] dX4_share_15 lm_X4_47 yX4_in_ok yX4_in_in (sX4_in hK x3 0 100 s2) rfl rfl (Nat.le_of_ble_eq_true rfl) ⟨by decide, by decide⟩ (fun r3 s4 => ?_)
    refine q_if_ne (pc := 18) 24 dX4_share_18 (by decide) ?_ ?_
    · refine q_aload_n (pc := 24) dX4_share_24 rfl ?_
      refine qg_4_4 (pc := 25) dX4_share_25 h0 lf_X4_22 ?_
      refine q_bipush (pc := 28) 9 dX4_share_28 (by decide) ?_
      refine q_iload_n (pc := 30) dX4_share_30 rfl ?_
      refine q_imul (pc := 31) dX4_share_31 ?_
      refine q_iload_n (pc := 32) dX4_share_32 rfl ?_
      refine q_iadd (pc := 33) dX4_share_33 ?_
      refine q_iald (pc := 34) dX4_share_34 (qch_4_4 hK h0) ?_
      refine q_istore (pc := 35) dX4_share_35 (by decide) ?_
      refine q_aload_n (pc := 37) dX4_share_37 rfl ?_
      refine qg_4_4 (pc := 38) dX4_share_38 h0 lf_X4_22 ?_
      refine q_bipush (pc := 41) 9 dX4_share_41 (by decide) ?_
      refine q_iload_n (pc := 43) dX4_share_43 rfl ?_
      refine q_imul (pc := 44) dX4_share_44 ?_
      refine q_iload_n (pc := 45) dX4_share_45 rfl ?_
      refine q_iadd (pc := 46) dX4_share_46 ?_
      refine q_iload_n (pc := 47) dX4_share_47 rfl ?_
      refine q_iast (pc := 48) dX4_share_48 (qch_4_4 hK h0) ?_
      refine q_iload (pc := 49) dX4_share_49 rfl ?_
      exact q_ireturn (pc := 51) dX4_share_51
    refine q_bipush (pc := 21) (-2) dX4_share_21 (by decide) ?_
    exact q_ireturn (pc := 23) dX4_share_23
  refine q_iconst (pc := 9) (-1) dX4_share_9 (by decide) ?_
  exact q_ireturn (pc := 10) dX4_share_10
-- LineSearchModel.shareOf(II)I
def fX4_shareOf (k0 : Nat) (x1 x2 : Int32) (sg : qSt) : qR :=
  qb (fX4_isPlace k0 x1 x2 sg) fun r1 s2 =>
  if r1 = 0 then
    some ((-1), s2)
  else
  if qin ((9 * x1) + x2) (qlen (k0 + 1)) then
  some ((s2 (k0 + 1) (Int32.toNatClampNeg ((9 * x1) + x2))), s2)
  else none
set_option maxRecDepth 20000 in
set_option maxHeartbeats 4000000 in
theorem sX4_shareOf {b : Nat} {K : List Nat} (hK : qOk K) {k0 : Nat} (h0 : qIn K k0 4) (x1 x2 : Int32) (sg : qSt) : qS yX4_shareOf cX4_shareOf 3 (some .int) 2 44 b K [.ref (b + k0), .int x1, .int x2] sg (fX4_shareOf k0 x1 x2 sg) := by
  refine qS_of (own := RX4) rfl (by decide) hK.1 (by simp [Value.category]) (Nat.le_of_ble_eq_true rfl) (fun z _ ty h => by cases h; exact vp_nar_int _) ?_
  show qJ RX4 cX4_shareOf 3 2 44 false (fun _ _ => True) b K 0 [some (.ref (b + k0)), some (.int x1), some (.int x2)] [] sg (fX4_shareOf k0 x1 x2 sg)
  unfold fX4_shareOf
  refine q_aload_n (pc := 0) dX4_shareOf_0 rfl ?_
  refine q_iload_n (pc := 1) dX4_shareOf_1 rfl ?_
  refine q_iload_n (pc := 2) dX4_shareOf_2 rfl ?_
  refine q_callVi (pc := 3) [.int x1, .int x2] dX4_shareOf_3 lm_X4_51 yX4_isPlace_ok yX4_isPlace_in h0 (by decide) rfl (sX4_isPlace hK h0 x1 x2 sg) rfl rfl (Nat.le_of_ble_eq_true rfl) ⟨by decide, by decide⟩ (fun r1 s2 => ?_)
  refine q_if_eq (pc := 6) 23 dX4_shareOf_6 (by decide) ?_ ?_
  · refine q_iconst (pc := 23) (-1) dX4_shareOf_23 (by decide) ?_
    exact q_ireturn (pc := 24) dX4_shareOf_24
  refine q_aload_n (pc := 9) dX4_shareOf_9 rfl ?_
  refine qg_4_4 (pc := 10) dX4_shareOf_10 h0 lf_X4_22 ?_
  refine q_bipush (pc := 13) 9 dX4_shareOf_13 (by decide) ?_
  refine q_iload_n (pc := 15) dX4_shareOf_15 rfl ?_
  refine q_imul (pc := 16) dX4_shareOf_16 ?_
  refine q_iload_n (pc := 17) dX4_shareOf_17 rfl ?_
  refine q_iadd (pc := 18) dX4_shareOf_18 ?_
  refine q_iald (pc := 19) dX4_shareOf_19 (qch_4_4 hK h0) ?_
  refine q_goto (pc := 20) 24 dX4_shareOf_20 (by decide) ?_
  exact q_ireturn (pc := 24) dX4_shareOf_24
-- LineSearchModel.trip(II)I
def fX4_trip (k0 : Nat) (x1 x2 : Int32) (sg : qSt) : qR :=
  qb (fX4_isPlace k0 x1 x2 sg) fun r1 s2 =>
  if r1 = 0 then
    some ((-1), s2)
  else
  if (s2 k0 5) = 30 then
    some ((-4), s2)
  else
  if qin (s2 k0 5) (qlen (k0 + 2)) then
  if qin ((qset s2 (k0 + 2) (Int32.toNatClampNeg (s2 k0 5)) x1) k0 5) (qlen (k0 + 3)) then
  some ((((qset (qset (qset s2 (k0 + 2) (Int32.toNatClampNeg (s2 k0 5)) x1) (k0 + 3) (Int32.toNatClampNeg ((qset s2 (k0 + 2) (Int32.toNatClampNeg (s2 k0 5)) x1) k0 5)) x2) k0 5 (((qset (qset s2 (k0 + 2) (Int32.toNatClampNeg (s2 k0 5)) x1) (k0 + 3) (Int32.toNatClampNeg ((qset s2 (k0 + 2) (Int32.toNatClampNeg (s2 k0 5)) x1) k0 5)) x2) k0 5) + 1)) k0 5) - 1), qset (qset (qset s2 (k0 + 2) (Int32.toNatClampNeg (s2 k0 5)) x1) (k0 + 3) (Int32.toNatClampNeg ((qset s2 (k0 + 2) (Int32.toNatClampNeg (s2 k0 5)) x1) k0 5)) x2) k0 5 (((qset (qset s2 (k0 + 2) (Int32.toNatClampNeg (s2 k0 5)) x1) (k0 + 3) (Int32.toNatClampNeg ((qset s2 (k0 + 2) (Int32.toNatClampNeg (s2 k0 5)) x1) k0 5)) x2) k0 5) + 1))
  else none
  else none
set_option maxRecDepth 20000 in
set_option maxHeartbeats 4000000 in
theorem sX4_trip {b : Nat} {K : List Nat} (hK : qOk K) {k0 : Nat} (h0 : qIn K k0 4) (x1 x2 : Int32) (sg : qSt) : qS yX4_trip cX4_trip 3 (some .int) 2 44 b K [.ref (b + k0), .int x1, .int x2] sg (fX4_trip k0 x1 x2 sg) := by
  refine qS_of (own := RX4) rfl (by decide) hK.1 (by simp [Value.category]) (Nat.le_of_ble_eq_true rfl) (fun z _ ty h => by cases h; exact vp_nar_int _) ?_
  show qJ RX4 cX4_trip 3 2 44 false (fun _ _ => True) b K 0 [some (.ref (b + k0)), some (.int x1), some (.int x2)] [] sg (fX4_trip k0 x1 x2 sg)
  unfold fX4_trip
  refine q_aload_n (pc := 0) dX4_trip_0 rfl ?_
  refine q_iload_n (pc := 1) dX4_trip_1 rfl ?_
  refine q_iload_n (pc := 2) dX4_trip_2 rfl ?_
  refine q_callVi (pc := 3) [.int x1, .int x2] dX4_trip_3 lm_X4_51 yX4_isPlace_ok yX4_isPlace_in h0 (by decide) rfl (sX4_isPlace hK h0 x1 x2 sg) rfl rfl (Nat.le_of_ble_eq_true rfl) ⟨by decide, by decide⟩ (fun r1 s2 => ?_)
  refine q_if_ne (pc := 6) 11 dX4_trip_6 (by decide) ?_ ?_
  · refine q_aload_n (pc := 11) dX4_trip_11 rfl ?_
    refine qg_4_5 (pc := 12) dX4_trip_12 h0 lf_X4_44 ?_
    refine q_bipush (pc := 15) 30 dX4_trip_15 (by decide) ?_
    refine q_icmp_ne (pc := 17) 23 dX4_trip_17 (by decide) ?_ ?_
    · refine q_aload_n (pc := 23) dX4_trip_23 rfl ?_
      refine qg_4_6 (pc := 24) dX4_trip_24 h0 lf_X4_26 ?_
      refine q_aload_n (pc := 27) dX4_trip_27 rfl ?_
      refine qg_4_5 (pc := 28) dX4_trip_28 h0 lf_X4_44 ?_
      refine q_iload_n (pc := 31) dX4_trip_31 rfl ?_
      refine q_iast (pc := 32) dX4_trip_32 (qch_4_6 hK h0) ?_
      refine q_aload_n (pc := 33) dX4_trip_33 rfl ?_
      refine qg_4_7 (pc := 34) dX4_trip_34 h0 lf_X4_29 ?_
      refine q_aload_n (pc := 37) dX4_trip_37 rfl ?_
      refine qg_4_5 (pc := 38) dX4_trip_38 h0 lf_X4_44 ?_
      refine q_iload_n (pc := 41) dX4_trip_41 rfl ?_
      refine q_iast (pc := 42) dX4_trip_42 (qch_4_7 hK h0) ?_
      refine q_aload_n (pc := 43) dX4_trip_43 rfl ?_
      refine q_dup (pc := 44) dX4_trip_44 rfl ?_
      refine qg_4_5 (pc := 45) dX4_trip_45 h0 lf_X4_44 ?_
      refine q_iconst (pc := 48) 1 dX4_trip_48 (by decide) ?_
      refine q_iadd (pc := 49) dX4_trip_49 ?_
      refine qp_4_5 (pc := 50) dX4_trip_50 h0 lf_X4_44 ?_
      refine q_aload_n (pc := 53) dX4_trip_53 rfl ?_
      refine qg_4_5 (pc := 54) dX4_trip_54 h0 lf_X4_44 ?_
      refine q_iconst (pc := 57) 1 dX4_trip_57 (by decide) ?_
      refine q_isub (pc := 58) dX4_trip_58 ?_
      exact q_ireturn (pc := 59) dX4_trip_59
    refine q_bipush (pc := 20) (-4) dX4_trip_20 (by decide) ?_
    exact q_ireturn (pc := 22) dX4_trip_22
  refine q_iconst (pc := 9) (-1) dX4_trip_9 (by decide) ?_
  exact q_ireturn (pc := 10) dX4_trip_10
-- LineSearchModel.costAhead(I)I
def fX4_costAhead_4 (k0 : Nat) : Nat → Int32 → Int32 → Int32 → qSt → qR
  | 0, _, _, _, _ => none
  | n + 1, x1, x2, x3, sg =>
    if x1 ≤ x3 then
      some (x2, sg)
    else
    if qin x3 (qlen (k0 + 3)) then
    fX4_costAhead_4 k0 n x1 ((x2 + ((sg (k0 + 3) (Int32.toNatClampNeg x3)) * ((sg k0 2) + (sg k0 3))))) ((x3 + 1)) sg
    else none
set_option maxRecDepth 20000 in
set_option maxHeartbeats 4000000 in
theorem tX4_costAhead_4 {b : Nat} {K : List Nat} (hK : qOk K) {k0 : Nat} (h0 : qIn K k0 4) : ∀ (n : Nat) (x1 x2 x3 : Int32) (sg : qSt), qJ RX4 cX4_costAhead 4 0 0 false (fun _ _ => True) b K 4 [some (.ref (b + k0)), some (.int x1), some (.int x2), some (.int x3)] [] sg (fX4_costAhead_4 k0 n x1 x2 x3 sg) := by
  intro n
  induction n with
  | zero => intro x1 x2 x3 sg; exact qJ_none
  | succ n ih =>
    intro x1 x2 x3 sg
    unfold fX4_costAhead_4
    refine q_iload_n (pc := 4) dX4_costAhead_4 rfl ?_
    refine q_iload_n (pc := 5) dX4_costAhead_5 rfl ?_
    refine q_icmp_ge (pc := 6) 34 dX4_costAhead_6 (by decide) ?_ ?_
    · refine q_iload_n (pc := 34) dX4_costAhead_34 rfl ?_
      exact q_ireturn (pc := 35) dX4_costAhead_35
    refine q_iload_n (pc := 9) dX4_costAhead_9 rfl ?_
    refine q_aload_n (pc := 10) dX4_costAhead_10 rfl ?_
    refine qg_4_7 (pc := 11) dX4_costAhead_11 h0 lf_X4_29 ?_
    refine q_iload_n (pc := 14) dX4_costAhead_14 rfl ?_
    refine q_iald (pc := 15) dX4_costAhead_15 (qch_4_7 hK h0) ?_
    refine q_aload_n (pc := 16) dX4_costAhead_16 rfl ?_
    refine qg_4_2 (pc := 17) dX4_costAhead_17 h0 lf_X4_16 ?_
    refine q_aload_n (pc := 20) dX4_costAhead_20 rfl ?_
    refine qg_4_3 (pc := 21) dX4_costAhead_21 h0 lf_X4_19 ?_
    refine q_iadd (pc := 24) dX4_costAhead_24 ?_
    refine q_imul (pc := 25) dX4_costAhead_25 ?_
    refine q_iadd (pc := 26) dX4_costAhead_26 ?_
    refine q_istore_n (pc := 27) dX4_costAhead_27 (by decide) ?_
    refine q_iinc (pc := 28) 1 dX4_costAhead_28 rfl (by decide) (by decide) ?_
    refine q_goto (pc := 31) 4 dX4_costAhead_31 (by decide) ?_
    exact ih x1 ((x2 + ((sg (k0 + 3) (Int32.toNatClampNeg x3)) * ((sg k0 2) + (sg k0 3))))) ((x3 + 1)) sg
def fX4_costAhead (k0 : Nat) (x1 : Int32) (sg : qSt) : qR :=
  fX4_costAhead_4 k0 qfu x1 0 0 sg
set_option maxRecDepth 20000 in
set_option maxHeartbeats 4000000 in
theorem sX4_costAhead {b : Nat} {K : List Nat} (hK : qOk K) {k0 : Nat} (h0 : qIn K k0 4) (x1 : Int32) (sg : qSt) : qS yX4_costAhead cX4_costAhead 4 (some .int) 0 0 b K [.ref (b + k0), .int x1] sg (fX4_costAhead k0 x1 sg) := by
  refine qS_of (own := RX4) rfl (by decide) hK.1 (by simp [Value.category]) (Nat.le_of_ble_eq_true rfl) (fun z _ ty h => by cases h; exact vp_nar_int _) ?_
  show qJ RX4 cX4_costAhead 4 0 0 false (fun _ _ => True) b K 0 [some (.ref (b + k0)), some (.int x1), none, none] [] sg (fX4_costAhead k0 x1 sg)
  unfold fX4_costAhead
  refine q_iconst (pc := 0) 0 dX4_costAhead_0 (by decide) ?_
  refine q_istore_n (pc := 1) dX4_costAhead_1 (by decide) ?_
  refine q_iconst (pc := 2) 0 dX4_costAhead_2 (by decide) ?_
  refine q_istore_n (pc := 3) dX4_costAhead_3 (by decide) ?_
  exact tX4_costAhead_4 hK h0 qfu x1 0 0 sg
-- LineSearchModel.tripOf(II)I
def fX4_tripOf (k0 : Nat) (x1 x2 : Int32) (sg : qSt) : qR :=
  qb (fX4_in x1 0 ((sg k0 5) - 1) sg) fun r1 s2 =>
  if r1 = 0 then
    some ((-1), s2)
  else
  if x2 = 0 then
    if qin x1 (qlen (k0 + 2)) then
    some ((s2 (k0 + 2) (Int32.toNatClampNeg x1)), s2)
    else none
  else
  if x2 = 1 then
    if qin x1 (qlen (k0 + 3)) then
    some ((s2 (k0 + 3) (Int32.toNatClampNeg x1)), s2)
    else none
  else
  if x2 = 2 then
    qb (fX4_costAhead k0 x1 s2) fun r3 s4 =>
    some (r3, s4)
  else
  some ((-2), s2)
set_option maxRecDepth 20000 in
set_option maxHeartbeats 4000000 in
theorem sX4_tripOf {b : Nat} {K : List Nat} (hK : qOk K) {k0 : Nat} (h0 : qIn K k0 4) (x1 x2 : Int32) (sg : qSt) : qS yX4_tripOf cX4_tripOf 3 (some .int) 1 23 b K [.ref (b + k0), .int x1, .int x2] sg (fX4_tripOf k0 x1 x2 sg) := by
  refine qS_of (own := RX4) rfl (by decide) hK.1 (by simp [Value.category]) (Nat.le_of_ble_eq_true rfl) (fun z _ ty h => by cases h; exact vp_nar_int _) ?_
  show qJ RX4 cX4_tripOf 3 1 23 false (fun _ _ => True) b K 0 [some (.ref (b + k0)), some (.int x1), some (.int x2)] [] sg (fX4_tripOf k0 x1 x2 sg)
  unfold fX4_tripOf
  refine q_iload_n (pc := 0) dX4_tripOf_0 rfl ?_
  refine q_iconst (pc := 1) 0 dX4_tripOf_1 (by decide) ?_
  refine q_aload_n (pc := 2) dX4_tripOf_2 rfl ?_
  refine qg_4_5 (pc := 3) dX4_tripOf_3 h0 lf_X4_44 ?_
  refine q_iconst (pc := 6) 1 dX4_tripOf_6 (by decide) ?_
  refine q_isub (pc := 7) dX4_tripOf_7 ?_
  refine q_callSi (pc := 8) [.int x1, .int 0, .int (((sg k0 5) - 1))] dX4_tripOf_8 lm_X4_47 yX4_in_ok yX4_in_in (sX4_in hK x1 0 ((sg k0 5) - 1) sg) rfl rfl (Nat.le_of_ble_eq_true rfl) ⟨by decide, by decide⟩ (fun r1 s2 => ?_)
  refine q_if_ne (pc := 11) 16 dX4_tripOf_11 (by decide) ?_ ?_
  · refine q_iload_n (pc := 16) dX4_tripOf_16 rfl ?_
    refine q_if_ne (pc := 17) 29 dX4_tripOf_17 (by decide) ?_ ?_
    · refine q_iload_n (pc := 29) dX4_tripOf_29 rfl ?_
      refine q_iconst (pc := 30) 1 dX4_tripOf_30 (by decide) ?_
      refine q_icmp_ne (pc := 31) 43 dX4_tripOf_31 (by decide) ?_ ?_
      · refine q_iload_n (pc := 43) dX4_tripOf_43 rfl ?_
        refine q_iconst (pc := 44) 2 dX4_tripOf_44 (by decide) ?_
        refine q_icmp_ne (pc := 45) 56 dX4_tripOf_45 (by decide) ?_ ?_
        · refine q_bipush (pc := 56) (-2) dX4_tripOf_56 (by decide) ?_
          exact q_ireturn (pc := 58) dX4_tripOf_58
        refine q_aload_n (pc := 48) dX4_tripOf_48 rfl ?_
        refine q_iload_n (pc := 49) dX4_tripOf_49 rfl ?_
        refine q_callVi (pc := 50) [.int x1] dX4_tripOf_50 lm_X4_55 yX4_costAhead_ok yX4_costAhead_in h0 (by decide) rfl (sX4_costAhead hK h0 x1 s2) rfl rfl (Nat.le_of_ble_eq_true rfl) ⟨by decide, by decide⟩ (fun r3 s4 => ?_)
        refine q_goto (pc := 53) 58 dX4_tripOf_53 (by decide) ?_
        exact q_ireturn (pc := 58) dX4_tripOf_58
      refine q_aload_n (pc := 34) dX4_tripOf_34 rfl ?_
      refine qg_4_7 (pc := 35) dX4_tripOf_35 h0 lf_X4_29 ?_
      refine q_iload_n (pc := 38) dX4_tripOf_38 rfl ?_
      refine q_iald (pc := 39) dX4_tripOf_39 (qch_4_7 hK h0) ?_
      refine q_goto (pc := 40) 58 dX4_tripOf_40 (by decide) ?_
      exact q_ireturn (pc := 58) dX4_tripOf_58
    refine q_aload_n (pc := 20) dX4_tripOf_20 rfl ?_
    refine qg_4_6 (pc := 21) dX4_tripOf_21 h0 lf_X4_26 ?_
    refine q_iload_n (pc := 24) dX4_tripOf_24 rfl ?_
    refine q_iald (pc := 25) dX4_tripOf_25 (qch_4_6 hK h0) ?_
    refine q_goto (pc := 26) 58 dX4_tripOf_26 (by decide) ?_
    exact q_ireturn (pc := 58) dX4_tripOf_58
  refine q_iconst (pc := 14) (-1) dX4_tripOf_14 (by decide) ?_
  exact q_ireturn (pc := 15) dX4_tripOf_15
-- LineSearchModel.drop()I
def fX4_drop (k0 : Nat) (sg : qSt) : qR :=
  if (sg k0 5) = 0 then
    some ((-1), sg)
  else
  some (((qset sg k0 5 ((sg k0 5) - 1)) k0 5), qset sg k0 5 ((sg k0 5) - 1))
set_option maxRecDepth 20000 in
set_option maxHeartbeats 4000000 in
theorem sX4_drop {b : Nat} {K : List Nat} (hK : qOk K) {k0 : Nat} (h0 : qIn K k0 4) (sg : qSt) : qS yX4_drop cX4_drop 1 (some .int) 0 0 b K [.ref (b + k0)] sg (fX4_drop k0 sg) := by
  refine qS_of (own := RX4) rfl (by decide) hK.1 (by simp [Value.category]) (Nat.le_of_ble_eq_true rfl) (fun z _ ty h => by cases h; exact vp_nar_int _) ?_
  show qJ RX4 cX4_drop 1 0 0 false (fun _ _ => True) b K 0 [some (.ref (b + k0))] [] sg (fX4_drop k0 sg)
  unfold fX4_drop
  refine q_aload_n (pc := 0) dX4_drop_0 rfl ?_
  refine qg_4_5 (pc := 1) dX4_drop_1 h0 lf_X4_44 ?_
  refine q_if_ne (pc := 4) 9 dX4_drop_4 (by decide) ?_ ?_
  · refine q_aload_n (pc := 9) dX4_drop_9 rfl ?_
    refine q_dup (pc := 10) dX4_drop_10 rfl ?_
    refine qg_4_5 (pc := 11) dX4_drop_11 h0 lf_X4_44 ?_
    refine q_iconst (pc := 14) 1 dX4_drop_14 (by decide) ?_
    refine q_isub (pc := 15) dX4_drop_15 ?_
    refine qp_4_5 (pc := 16) dX4_drop_16 h0 lf_X4_44 ?_
    refine q_aload_n (pc := 19) dX4_drop_19 rfl ?_
    refine qg_4_5 (pc := 20) dX4_drop_20 h0 lf_X4_44 ?_
    exact q_ireturn (pc := 23) dX4_drop_23
  refine q_iconst (pc := 7) (-1) dX4_drop_7 (by decide) ?_
  exact q_ireturn (pc := 8) dX4_drop_8
-- LineSearchModel.clear()I
def fX4_clear (k0 : Nat) (sg : qSt) : qR :=
  some ((sg k0 5), qset sg k0 5 0)
set_option maxRecDepth 20000 in
set_option maxHeartbeats 4000000 in
theorem sX4_clear {b : Nat} {K : List Nat} (hK : qOk K) {k0 : Nat} (h0 : qIn K k0 4) (sg : qSt) : qS yX4_clear cX4_clear 2 (some .int) 0 0 b K [.ref (b + k0)] sg (fX4_clear k0 sg) := by
  refine qS_of (own := RX4) rfl (by decide) hK.1 (by simp [Value.category]) (Nat.le_of_ble_eq_true rfl) (fun z _ ty h => by cases h; exact vp_nar_int _) ?_
  show qJ RX4 cX4_clear 2 0 0 false (fun _ _ => True) b K 0 [some (.ref (b + k0)), none] [] sg (fX4_clear k0 sg)
  unfold fX4_clear
  refine q_aload_n (pc := 0) dX4_clear_0 rfl ?_
  refine qg_4_5 (pc := 1) dX4_clear_1 h0 lf_X4_44 ?_
  refine q_istore_n (pc := 4) dX4_clear_4 (by decide) ?_
  refine q_aload_n (pc := 5) dX4_clear_5 rfl ?_
  refine q_iconst (pc := 6) 0 dX4_clear_6 (by decide) ?_
  refine qp_4_5 (pc := 7) dX4_clear_7 h0 lf_X4_44 ?_
  refine q_iload_n (pc := 10) dX4_clear_10 rfl ?_
  exact q_ireturn (pc := 11) dX4_clear_11
-- LineSearchModel.comes(II)I
def fX4_comes_2 (k0 : Nat) : Nat → Int32 → Int32 → Int32 → qSt → qR
  | 0, _, _, _, _ => none
  | n + 1, x1, x2, x3, sg =>
    if (sg k0 5) ≤ x3 then
      some ((-6), sg)
    else
    if qin x3 (qlen (k0 + 2)) then
    if (sg (k0 + 2) (Int32.toNatClampNeg x3)) = x1 then
      if qin x3 (qlen (k0 + 3)) then
      if (sg (k0 + 3) (Int32.toNatClampNeg x3)) < x2 then
        fX4_comes_2 k0 n x1 x2 ((x3 + 1)) sg
      else
      some (x3, sg)
      else none
    else
    fX4_comes_2 k0 n x1 x2 ((x3 + 1)) sg
    else none
set_option maxRecDepth 20000 in
set_option maxHeartbeats 4000000 in
theorem tX4_comes_2 {b : Nat} {K : List Nat} (hK : qOk K) {k0 : Nat} (h0 : qIn K k0 4) : ∀ (n : Nat) (x1 x2 x3 : Int32) (sg : qSt), qJ RX4 cX4_comes 4 0 0 false (fun _ _ => True) b K 2 [some (.ref (b + k0)), some (.int x1), some (.int x2), some (.int x3)] [] sg (fX4_comes_2 k0 n x1 x2 x3 sg) := by
  intro n
  induction n with
  | zero => intro x1 x2 x3 sg; exact qJ_none
  | succ n ih =>
    intro x1 x2 x3 sg
    unfold fX4_comes_2
    refine q_iload_n (pc := 2) dX4_comes_2 rfl ?_
    refine q_aload_n (pc := 3) dX4_comes_3 rfl ?_
    refine qg_4_5 (pc := 4) dX4_comes_4 h0 lf_X4_44 ?_
    refine q_icmp_ge (pc := 7) 38 dX4_comes_7 (by decide) ?_ ?_
    · refine q_bipush (pc := 38) (-6) dX4_comes_38 (by decide) ?_
      exact q_ireturn (pc := 40) dX4_comes_40
    refine q_aload_n (pc := 10) dX4_comes_10 rfl ?_
    refine qg_4_6 (pc := 11) dX4_comes_11 h0 lf_X4_26 ?_
    refine q_iload_n (pc := 14) dX4_comes_14 rfl ?_
    refine q_iald (pc := 15) dX4_comes_15 (qch_4_6 hK h0) ?_
    refine q_iload_n (pc := 16) dX4_comes_16 rfl ?_
    refine q_icmp_ne (pc := 17) 32 dX4_comes_17 (by decide) ?_ ?_
    · refine q_iinc (pc := 32) 1 dX4_comes_32 rfl (by decide) (by decide) ?_
      refine q_goto (pc := 35) 2 dX4_comes_35 (by decide) ?_
      exact ih x1 x2 ((x3 + 1)) sg
    refine q_aload_n (pc := 20) dX4_comes_20 rfl ?_
    refine qg_4_7 (pc := 21) dX4_comes_21 h0 lf_X4_29 ?_
    refine q_iload_n (pc := 24) dX4_comes_24 rfl ?_
    refine q_iald (pc := 25) dX4_comes_25 (qch_4_7 hK h0) ?_
    refine q_iload_n (pc := 26) dX4_comes_26 rfl ?_
    refine q_icmp_lt (pc := 27) 32 dX4_comes_27 (by decide) ?_ ?_
    · refine q_iinc (pc := 32) 1 dX4_comes_32 rfl (by decide) (by decide) ?_
      refine q_goto (pc := 35) 2 dX4_comes_35 (by decide) ?_
      exact ih x1 x2 ((x3 + 1)) sg
    refine q_iload_n (pc := 30) dX4_comes_30 rfl ?_
    exact q_ireturn (pc := 31) dX4_comes_31
def fX4_comes (k0 : Nat) (x1 x2 : Int32) (sg : qSt) : qR :=
  fX4_comes_2 k0 qfu x1 x2 0 sg
set_option maxRecDepth 20000 in
set_option maxHeartbeats 4000000 in
theorem sX4_comes {b : Nat} {K : List Nat} (hK : qOk K) {k0 : Nat} (h0 : qIn K k0 4) (x1 x2 : Int32) (sg : qSt) : qS yX4_comes cX4_comes 4 (some .int) 0 0 b K [.ref (b + k0), .int x1, .int x2] sg (fX4_comes k0 x1 x2 sg) := by
  refine qS_of (own := RX4) rfl (by decide) hK.1 (by simp [Value.category]) (Nat.le_of_ble_eq_true rfl) (fun z _ ty h => by cases h; exact vp_nar_int _) ?_
  show qJ RX4 cX4_comes 4 0 0 false (fun _ _ => True) b K 0 [some (.ref (b + k0)), some (.int x1), some (.int x2), none] [] sg (fX4_comes k0 x1 x2 sg)
  unfold fX4_comes
  refine q_iconst (pc := 0) 0 dX4_comes_0 (by decide) ?_
  refine q_istore_n (pc := 1) dX4_comes_1 (by decide) ?_
  exact tX4_comes_2 hK h0 qfu x1 x2 0 sg
-- LineSearchModel.wayOf(II)I
def fX4_wayOf (k0 : Nat) (x1 x2 : Int32) (sg : qSt) : qR :=
  qb (fX4_comes k0 x1 x2 sg) fun r1 s2 =>
  if 0 ≤ r1 then
    qb (fX4_costAhead k0 r1 s2) fun r3 s4 =>
    some ((r3 + ((s4 k0 2) * x2)), s4)
  else
  some ((-6), s2)
set_option maxRecDepth 20000 in
set_option maxHeartbeats 4000000 in
theorem sX4_wayOf {b : Nat} {K : List Nat} (hK : qOk K) {k0 : Nat} (h0 : qIn K k0 4) (x1 x2 : Int32) (sg : qSt) : qS yX4_wayOf cX4_wayOf 4 (some .int) 1 23 b K [.ref (b + k0), .int x1, .int x2] sg (fX4_wayOf k0 x1 x2 sg) := by
  refine qS_of (own := RX4) rfl (by decide) hK.1 (by simp [Value.category]) (Nat.le_of_ble_eq_true rfl) (fun z _ ty h => by cases h; exact vp_nar_int _) ?_
  show qJ RX4 cX4_wayOf 4 1 23 false (fun _ _ => True) b K 0 [some (.ref (b + k0)), some (.int x1), some (.int x2), none] [] sg (fX4_wayOf k0 x1 x2 sg)
  unfold fX4_wayOf
  refine q_aload_n (pc := 0) dX4_wayOf_0 rfl ?_
  refine q_iload_n (pc := 1) dX4_wayOf_1 rfl ?_
  refine q_iload_n (pc := 2) dX4_wayOf_2 rfl ?_
  refine q_callVi (pc := 3) [.int x1, .int x2] dX4_wayOf_3 lm_X4_59 yX4_comes_ok yX4_comes_in h0 (by decide) rfl (sX4_comes hK h0 x1 x2 sg) rfl rfl (Nat.le_of_ble_eq_true rfl) ⟨by decide, by decide⟩ (fun r1 s2 => ?_)
  refine q_istore_n (pc := 6) dX4_wayOf_6 (by decide) ?_
  refine q_iload_n (pc := 7) dX4_wayOf_7 rfl ?_
  refine q_if_ge (pc := 8) 16 dX4_wayOf_8 (by decide) ?_ ?_
  · refine q_aload_n (pc := 16) dX4_wayOf_16 rfl ?_
    refine q_iload_n (pc := 17) dX4_wayOf_17 rfl ?_
    refine q_callVi (pc := 18) [.int r1] dX4_wayOf_18 lm_X4_55 yX4_costAhead_ok yX4_costAhead_in h0 (by decide) rfl (sX4_costAhead hK h0 r1 s2) rfl rfl (Nat.le_of_ble_eq_true rfl) ⟨by decide, by decide⟩ (fun r3 s4 => ?_)
    refine q_aload_n (pc := 21) dX4_wayOf_21 rfl ?_
    refine qg_4_2 (pc := 22) dX4_wayOf_22 h0 lf_X4_16 ?_
    refine q_iload_n (pc := 25) dX4_wayOf_25 rfl ?_
    refine q_imul (pc := 26) dX4_wayOf_26 ?_
    refine q_iadd (pc := 27) dX4_wayOf_27 ?_
    exact q_ireturn (pc := 28) dX4_wayOf_28
  refine q_bipush (pc := 11) (-6) dX4_wayOf_11 (by decide) ?_
  refine q_goto (pc := 13) 28 dX4_wayOf_13 (by decide) ?_
  exact q_ireturn (pc := 28) dX4_wayOf_28
-- LineSearchModel.way(II)I
def fX4_way (k0 : Nat) (x1 x2 : Int32) (sg : qSt) : qR :=
  qb (fX4_isPlace k0 x1 x2 sg) fun r1 s2 =>
  if r1 = 0 then
    some ((-1), s2)
  else
  qb (fX4_wayOf k0 x1 x2 s2) fun r3 s4 =>
  some (r3, s4)
set_option maxRecDepth 20000 in
set_option maxHeartbeats 4000000 in
theorem sX4_way {b : Nat} {K : List Nat} (hK : qOk K) {k0 : Nat} (h0 : qIn K k0 4) (x1 x2 : Int32) (sg : qSt) : qS yX4_way cX4_way 3 (some .int) 2 46 b K [.ref (b + k0), .int x1, .int x2] sg (fX4_way k0 x1 x2 sg) := by
  refine qS_of (own := RX4) rfl (by decide) hK.1 (by simp [Value.category]) (Nat.le_of_ble_eq_true rfl) (fun z _ ty h => by cases h; exact vp_nar_int _) ?_
  show qJ RX4 cX4_way 3 2 46 false (fun _ _ => True) b K 0 [some (.ref (b + k0)), some (.int x1), some (.int x2)] [] sg (fX4_way k0 x1 x2 sg)
  unfold fX4_way
  refine q_aload_n (pc := 0) dX4_way_0 rfl ?_
  refine q_iload_n (pc := 1) dX4_way_1 rfl ?_
  refine q_iload_n (pc := 2) dX4_way_2 rfl ?_
  refine q_callVi (pc := 3) [.int x1, .int x2] dX4_way_3 lm_X4_51 yX4_isPlace_ok yX4_isPlace_in h0 (by decide) rfl (sX4_isPlace hK h0 x1 x2 sg) rfl rfl (Nat.le_of_ble_eq_true rfl) ⟨by decide, by decide⟩ (fun r1 s2 => ?_)
  refine q_if_eq (pc := 6) 18 dX4_way_6 (by decide) ?_ ?_
  · refine q_iconst (pc := 18) (-1) dX4_way_18 (by decide) ?_
    exact q_ireturn (pc := 19) dX4_way_19
  refine q_aload_n (pc := 9) dX4_way_9 rfl ?_
  refine q_iload_n (pc := 10) dX4_way_10 rfl ?_
  refine q_iload_n (pc := 11) dX4_way_11 rfl ?_
  refine q_callVi (pc := 12) [.int x1, .int x2] dX4_way_12 lm_X4_63 yX4_wayOf_ok yX4_wayOf_in h0 (by decide) rfl (sX4_wayOf hK h0 x1 x2 s2) rfl rfl (Nat.le_of_ble_eq_true rfl) ⟨by decide, by decide⟩ (fun r3 s4 => ?_)
  refine q_goto (pc := 15) 19 dX4_way_15 (by decide) ?_
  exact q_ireturn (pc := 19) dX4_way_19
-- LineSearchModel.common(II)I
def fX4_common_4 : Nat → Int32 → Int32 → qSt → qR
  | 0, _, _, _ => none
  | n + 1, x2, x3, sg =>
    if x3 = 0 then
      some (x2, sg)
    else
    if x3 = 0 then none else
    fX4_common_4 n x3 ((x2 - x2 / x3 * x3)) sg
set_option maxRecDepth 20000 in
set_option maxHeartbeats 4000000 in
theorem tX4_common_4 {b : Nat} {K : List Nat} (hK : qOk K) : ∀ (n : Nat) (x2 x3 : Int32) (sg : qSt), qJ RX4 cX4_common 5 0 0 false (fun _ _ => True) b K 4 [none, none, some (.int x2), some (.int x3), none] [] sg (fX4_common_4 n x2 x3 sg) := by
  intro n
  induction n with
  | zero => intro x2 x3 sg; exact qJ_none
  | succ n ih =>
    intro x2 x3 sg
    unfold fX4_common_4
    refine q_iload_n (pc := 4) dX4_common_4 rfl ?_
    refine q_if_eq (pc := 5) 21 dX4_common_5 (by decide) ?_ ?_
    · refine q_iload_n (pc := 21) dX4_common_21 rfl ?_
      exact q_ireturn (pc := 22) dX4_common_22
    refine q_iload_n (pc := 8) dX4_common_8 rfl ?_
    refine q_iload_n (pc := 9) dX4_common_9 rfl ?_
    refine q_irem (pc := 10) dX4_common_10 ?_
    refine q_istore (pc := 11) dX4_common_11 (by decide) ?_
    refine q_iload_n (pc := 13) dX4_common_13 rfl ?_
    refine q_istore_n (pc := 14) dX4_common_14 (by decide) ?_
    refine q_iload (pc := 15) dX4_common_15 rfl ?_
    refine q_istore_n (pc := 17) dX4_common_17 (by decide) ?_
    refine q_goto (pc := 18) 4 dX4_common_18 (by decide) ?_
    refine qJ_weak [none, none, some (.int x3), some (.int ((x2 - x2 / x3 * x3))), none] ⟨rfl, rfl, trivial⟩ ?_
    exact ih x3 ((x2 - x2 / x3 * x3)) sg
def fX4_common (x0 x1 : Int32) (sg : qSt) : qR :=
  fX4_common_4 qfu x0 x1 sg
set_option maxRecDepth 20000 in
set_option maxHeartbeats 4000000 in
theorem sX4_common {b : Nat} {K : List Nat} (hK : qOk K) (x0 x1 : Int32) (sg : qSt) : qS yX4_common cX4_common 5 (some .int) 0 0 b K [.int x0, .int x1] sg (fX4_common x0 x1 sg) := by
  refine qS_of (own := RX4) rfl (by decide) hK.1 (by simp [Value.category]) (Nat.le_of_ble_eq_true rfl) (fun z _ ty h => by cases h; exact vp_nar_int _) ?_
  show qJ RX4 cX4_common 5 0 0 false (fun _ _ => True) b K 0 [some (.int x0), some (.int x1), none, none, none] [] sg (fX4_common x0 x1 sg)
  unfold fX4_common
  refine q_iload_n (pc := 0) dX4_common_0 rfl ?_
  refine q_istore_n (pc := 1) dX4_common_1 (by decide) ?_
  refine q_iload_n (pc := 2) dX4_common_2 rfl ?_
  refine q_istore_n (pc := 3) dX4_common_3 (by decide) ?_
  refine qJ_weak [none, none, some (.int x0), some (.int x1), none] ⟨rfl, rfl, trivial⟩ ?_
  exact tX4_common_4 hK qfu x0 x1 sg
-- LineSearchModel.term(III)I
def fX4_term_9 (x0 x1 y0 : Int32) (sg : qSt) : qR :=
    qb (fX4_common x0 x1 sg) fun r1 s2 =>
    if r1 = 0 then none else
    some ((y0 / r1), s2)
set_option maxRecDepth 20000 in
set_option maxHeartbeats 4000000 in
theorem tX4_term_9 {b : Nat} {K : List Nat} (hK : qOk K) : ∀ (x0 x1 y0 : Int32) (sg : qSt), qJ RX4 cX4_term 3 1 24 false (fun _ _ => True) b K 9 [some (.int x0), some (.int x1), none] [.int y0] sg (fX4_term_9 x0 x1 y0 sg) := by
  intro x0 x1 y0 sg
  unfold fX4_term_9
  refine q_iload_n (pc := 9) dX4_term_9 rfl ?_
  refine q_iload_n (pc := 10) dX4_term_10 rfl ?_
  refine q_callSi (pc := 11) [.int x0, .int x1] dX4_term_11 lm_X4_66 yX4_common_ok yX4_common_in (sX4_common hK x0 x1 sg) rfl rfl (Nat.le_of_ble_eq_true rfl) ⟨by decide, by decide⟩ (fun r1 s2 => ?_)
  refine q_idiv (pc := 14) dX4_term_14 ?_
  exact q_ireturn (pc := 15) dX4_term_15
def fX4_term (x0 x1 x2 : Int32) (sg : qSt) : qR :=
  if x2 = 0 then
    fX4_term_9 x0 x1 x0 sg
  else
  fX4_term_9 x0 x1 x1 sg
set_option maxRecDepth 20000 in
set_option maxHeartbeats 4000000 in
theorem sX4_term {b : Nat} {K : List Nat} (hK : qOk K) (x0 x1 x2 : Int32) (sg : qSt) : qS yX4_term cX4_term 3 (some .int) 1 24 b K [.int x0, .int x1, .int x2] sg (fX4_term x0 x1 x2 sg) := by
  refine qS_of (own := RX4) rfl (by decide) hK.1 (by simp [Value.category]) (Nat.le_of_ble_eq_true rfl) (fun z _ ty h => by cases h; exact vp_nar_int _) ?_
  show qJ RX4 cX4_term 3 1 24 false (fun _ _ => True) b K 0 [some (.int x0), some (.int x1), some (.int x2)] [] sg (fX4_term x0 x1 x2 sg)
  unfold fX4_term
  refine q_iload_n (pc := 0) dX4_term_0 rfl ?_
  refine q_if_ne (pc := 1) 8 dX4_term_1 (by decide) ?_ ?_
  · refine q_iload_n (pc := 8) dX4_term_8 rfl ?_
    refine qJ_weak [some (.int x0), some (.int x1), none] ⟨rfl, rfl, trivial⟩ ?_
    exact tX4_term_9 hK x0 x1 x1 sg
  refine q_iload_n (pc := 4) dX4_term_4 rfl ?_
  refine q_goto (pc := 5) 9 dX4_term_5 (by decide) ?_
  refine qJ_weak [some (.int x0), some (.int x1), none] ⟨rfl, rfl, trivial⟩ ?_
  exact tX4_term_9 hK x0 x1 x0 sg
-- LineSearchModel.late(III)I
def fX4_late (k0 : Nat) (x1 x2 x3 : Int32) (sg : qSt) : qR :=
  qb (fX4_isPlace k0 x1 x2 sg) fun r1 s2 =>
  if r1 = 0 then
    some ((-1), s2)
  else
  qb (fX4_in x3 0 1 s2) fun r3 s4 =>
  if r3 = 0 then
    some ((-2), s4)
  else
  qb (fX4_wayOf k0 x1 x2 s4) fun r5 s6 =>
  if 0 ≤ r5 then
    qb (fX4_term r5 ((s6 k0 2) * x2) x3 s6) fun r7 s8 =>
    some (r7, s8)
  else
  some ((-6), s6)
set_option maxRecDepth 20000 in
set_option maxHeartbeats 4000000 in
theorem sX4_late {b : Nat} {K : List Nat} (hK : qOk K) {k0 : Nat} (h0 : qIn K k0 4) (x1 x2 x3 : Int32) (sg : qSt) : qS yX4_late cX4_late 5 (some .int) 2 46 b K [.ref (b + k0), .int x1, .int x2, .int x3] sg (fX4_late k0 x1 x2 x3 sg) := by
  refine qS_of (own := RX4) rfl (by decide) hK.1 (by simp [Value.category]) (Nat.le_of_ble_eq_true rfl) (fun z _ ty h => by cases h; exact vp_nar_int _) ?_
  show qJ RX4 cX4_late 5 2 46 false (fun _ _ => True) b K 0 [some (.ref (b + k0)), some (.int x1), some (.int x2), some (.int x3), none] [] sg (fX4_late k0 x1 x2 x3 sg)
  unfold fX4_late
  refine q_aload_n (pc := 0) dX4_late_0 rfl ?_
  refine q_iload_n (pc := 1) dX4_late_1 rfl ?_
  refine q_iload_n (pc := 2) dX4_late_2 rfl ?_
  refine q_callVi (pc := 3) [.int x1, .int x2] dX4_late_3 lm_X4_51 yX4_isPlace_ok yX4_isPlace_in h0 (by decide) rfl (sX4_isPlace hK h0 x1 x2 sg) rfl rfl (Nat.le_of_ble_eq_true rfl) ⟨by decide, by decide⟩ (fun r1 s2 => ?_)
  refine q_if_ne (pc := 6) 11 dX4_late_6 (by decide) ?_ ?_
  · refine q_iload_n (pc := 11) dX4_late_11 rfl ?_
    refine q_iconst (pc := 12) 0 dX4_late_12 (by decide) ?_
    refine q_iconst (pc := 13) 1 dX4_late_13 (by decide) ?_
    refine q_callSi (pc := 14) [.int x3, .int 0, .int 1] dX4_late_14 lm_X4_47 yX4_in_ok yX4_in_in (sX4_in hK x3 0 1 s2) rfl rfl (Nat.le_of_ble_eq_true rfl) ⟨by decide, by decide⟩ (fun r3 s4 => ?_)
    refine q_if_ne (pc := 17) 23 dX4_late_17 (by decide) ?_ ?_
    · refine q_aload_n (pc := 23) dX4_late_23 rfl ?_
      refine q_iload_n (pc := 24) dX4_late_24 rfl ?_
      refine q_iload_n (pc := 25) dX4_late_25 rfl ?_
      refine q_callVi (pc := 26) [.int x1, .int x2] dX4_late_26 lm_X4_63 yX4_wayOf_ok yX4_wayOf_in h0 (by decide) rfl (sX4_wayOf hK h0 x1 x2 s4) rfl rfl (Nat.le_of_ble_eq_true rfl) ⟨by decide, by decide⟩ (fun r5 s6 => ?_)
      refine q_istore (pc := 29) dX4_late_29 (by decide) ?_
      refine q_iload (pc := 31) dX4_late_31 rfl ?_
      refine q_if_ge (pc := 33) 41 dX4_late_33 (by decide) ?_ ?_
      · refine q_iload (pc := 41) dX4_late_41 rfl ?_
        refine q_aload_n (pc := 43) dX4_late_43 rfl ?_
        refine qg_4_2 (pc := 44) dX4_late_44 h0 lf_X4_16 ?_
        refine q_iload_n (pc := 47) dX4_late_47 rfl ?_
        refine q_imul (pc := 48) dX4_late_48 ?_
        refine q_iload_n (pc := 49) dX4_late_49 rfl ?_
        refine q_callSi (pc := 50) [.int r5, .int (((s6 k0 2) * x2)), .int x3] dX4_late_50 lm_X4_69 yX4_term_ok yX4_term_in (sX4_term hK r5 ((s6 k0 2) * x2) x3 s6) rfl rfl (Nat.le_of_ble_eq_true rfl) ⟨by decide, by decide⟩ (fun r7 s8 => ?_)
        exact q_ireturn (pc := 53) dX4_late_53
      refine q_bipush (pc := 36) (-6) dX4_late_36 (by decide) ?_
      refine q_goto (pc := 38) 53 dX4_late_38 (by decide) ?_
      exact q_ireturn (pc := 53) dX4_late_53
    refine q_bipush (pc := 20) (-2) dX4_late_20 (by decide) ?_
    exact q_ireturn (pc := 22) dX4_late_22
  refine q_iconst (pc := 9) (-1) dX4_late_9 (by decide) ?_
  exact q_ireturn (pc := 10) dX4_late_10
-- LineSearchModel.missedAt(I)I
def fX4_missedAt_15 (k0 : Nat) (c4 : Int32 → Int32 → Int32 → qSt → qR) : Nat → Int32 → Int32 → Int32 → Int32 → qSt → qR
  | 0, _, _, _, _, _ => none
  | n + 1, x1, x2, x3, x4, sg =>
    if (sg k0 1) < x4 then
      c4 x1 x2 ((x3 + 1)) sg
    else
    qb (fX4_comes k0 x3 x4 sg) fun r1 s2 =>
    if 0 ≤ r1 then
      fX4_missedAt_15 k0 c4 n x1 x2 x3 ((x4 + 1)) s2
    else
    if x2 = x1 then
      some (((10 * x3) + x4), s2)
    else
    fX4_missedAt_15 k0 c4 n x1 ((x2 + 1)) x3 ((x4 + 1)) s2
set_option maxRecDepth 20000 in
set_option maxHeartbeats 4000000 in
theorem tX4_missedAt_15 {b : Nat} {K : List Nat} (hK : qOk K) {k0 : Nat} {c4 : Int32 → Int32 → Int32 → qSt → qR} (h0 : qIn K k0 4) (hc4 : ∀ (x1 x2 x3 : Int32) (sg : qSt), qJ RX4 cX4_missedAt 5 1 23 false (fun _ _ => True) b K 4 [some (.ref (b + k0)), some (.int x1), some (.int x2), some (.int x3), none] [] sg (c4 x1 x2 x3 sg)) : ∀ (n : Nat) (x1 x2 x3 x4 : Int32) (sg : qSt), qJ RX4 cX4_missedAt 5 1 23 false (fun _ _ => True) b K 15 [some (.ref (b + k0)), some (.int x1), some (.int x2), some (.int x3), some (.int x4)] [] sg (fX4_missedAt_15 k0 c4 n x1 x2 x3 x4 sg) := by
  intro n
  induction n with
  | zero => intro x1 x2 x3 x4 sg; exact qJ_none
  | succ n ih =>
    intro x1 x2 x3 x4 sg
    unfold fX4_missedAt_15
    refine q_iload (pc := 15) dX4_missedAt_15 rfl ?_
    refine q_aload_n (pc := 17) dX4_missedAt_17 rfl ?_
    refine qg_4_1 (pc := 18) dX4_missedAt_18 h0 lf_X4_13 ?_
    refine q_icmp_gt (pc := 21) 56 dX4_missedAt_21 (by decide) ?_ ?_
    · refine q_iinc (pc := 56) 1 dX4_missedAt_56 rfl (by decide) (by decide) ?_
      refine q_goto (pc := 59) 4 dX4_missedAt_59 (by decide) ?_
      refine qJ_weak [some (.ref (b + k0)), some (.int x1), some (.int x2), some (.int ((x3 + 1))), none] ⟨rfl, rfl, rfl, rfl, trivial⟩ ?_
      exact hc4 x1 x2 ((x3 + 1)) sg
    refine q_aload_n (pc := 24) dX4_missedAt_24 rfl ?_
    refine q_iload_n (pc := 25) dX4_missedAt_25 rfl ?_
    refine q_iload (pc := 26) dX4_missedAt_26 rfl ?_
    refine q_callVi (pc := 28) [.int x3, .int x4] dX4_missedAt_28 lm_X4_59 yX4_comes_ok yX4_comes_in h0 (by decide) rfl (sX4_comes hK h0 x3 x4 sg) rfl rfl (Nat.le_of_ble_eq_true rfl) ⟨by decide, by decide⟩ (fun r1 s2 => ?_)
    refine q_if_ge (pc := 31) 50 dX4_missedAt_31 (by decide) ?_ ?_
    · refine q_iinc (pc := 50) 1 dX4_missedAt_50 rfl (by decide) (by decide) ?_
      refine q_goto (pc := 53) 15 dX4_missedAt_53 (by decide) ?_
      exact ih x1 x2 x3 ((x4 + 1)) s2
    refine q_iload_n (pc := 34) dX4_missedAt_34 rfl ?_
    refine q_iload_n (pc := 35) dX4_missedAt_35 rfl ?_
    refine q_icmp_ne (pc := 36) 47 dX4_missedAt_36 (by decide) ?_ ?_
    · refine q_iinc (pc := 47) 1 dX4_missedAt_47 rfl (by decide) (by decide) ?_
      refine q_iinc (pc := 50) 1 dX4_missedAt_50 rfl (by decide) (by decide) ?_
      refine q_goto (pc := 53) 15 dX4_missedAt_53 (by decide) ?_
      exact ih x1 ((x2 + 1)) x3 ((x4 + 1)) s2
    refine q_bipush (pc := 39) 10 dX4_missedAt_39 (by decide) ?_
    refine q_iload_n (pc := 41) dX4_missedAt_41 rfl ?_
    refine q_imul (pc := 42) dX4_missedAt_42 ?_
    refine q_iload (pc := 43) dX4_missedAt_43 rfl ?_
    refine q_iadd (pc := 45) dX4_missedAt_45 ?_
    exact q_ireturn (pc := 46) dX4_missedAt_46
def fX4_missedAt_4 (k0 : Nat) : Nat → Int32 → Int32 → Int32 → qSt → qR
  | 0, _, _, _, _ => none
  | n + 1, x1, x2, x3, sg =>
    if (sg k0 0) ≤ x3 then
      if x1 = (-1) then
        some (x2, sg)
      else
      some ((-6), sg)
    else
    fX4_missedAt_15 k0 (fun z1 z2 z3 sg => fX4_missedAt_4 k0 n z1 z2 z3 sg) qfu x1 x2 x3 1 sg
set_option maxRecDepth 20000 in
set_option maxHeartbeats 4000000 in
theorem tX4_missedAt_4 {b : Nat} {K : List Nat} (hK : qOk K) {k0 : Nat} (h0 : qIn K k0 4) : ∀ (n : Nat) (x1 x2 x3 : Int32) (sg : qSt), qJ RX4 cX4_missedAt 5 1 23 false (fun _ _ => True) b K 4 [some (.ref (b + k0)), some (.int x1), some (.int x2), some (.int x3), none] [] sg (fX4_missedAt_4 k0 n x1 x2 x3 sg) := by
  intro n
  induction n with
  | zero => intro x1 x2 x3 sg; exact qJ_none
  | succ n ih =>
    intro x1 x2 x3 sg
    unfold fX4_missedAt_4
    refine q_iload_n (pc := 4) dX4_missedAt_4 rfl ?_
    refine q_aload_n (pc := 5) dX4_missedAt_5 rfl ?_
    refine qg_4_0 (pc := 6) dX4_missedAt_6 h0 lf_X4_7 ?_
    refine q_icmp_ge (pc := 9) 62 dX4_missedAt_9 (by decide) ?_ ?_
    · refine q_iload_n (pc := 62) dX4_missedAt_62 rfl ?_
      refine q_iconst (pc := 63) (-1) dX4_missedAt_63 (by decide) ?_
      refine q_icmp_ne (pc := 64) 71 dX4_missedAt_64 (by decide) ?_ ?_
      · refine q_bipush (pc := 71) (-6) dX4_missedAt_71 (by decide) ?_
        exact q_ireturn (pc := 73) dX4_missedAt_73
      refine q_iload_n (pc := 67) dX4_missedAt_67 rfl ?_
      refine q_goto (pc := 68) 73 dX4_missedAt_68 (by decide) ?_
      exact q_ireturn (pc := 73) dX4_missedAt_73
    refine q_iconst (pc := 12) 1 dX4_missedAt_12 (by decide) ?_
    refine q_istore (pc := 13) dX4_missedAt_13 (by decide) ?_
    exact tX4_missedAt_15 hK h0 (fun z1 z2 z3 sg => ih z1 z2 z3 sg) qfu x1 x2 x3 1 sg
def fX4_missedAt (k0 : Nat) (x1 : Int32) (sg : qSt) : qR :=
  fX4_missedAt_4 k0 qfu x1 0 0 sg
set_option maxRecDepth 20000 in
set_option maxHeartbeats 4000000 in
theorem sX4_missedAt {b : Nat} {K : List Nat} (hK : qOk K) {k0 : Nat} (h0 : qIn K k0 4) (x1 : Int32) (sg : qSt) : qS yX4_missedAt cX4_missedAt 5 (some .int) 1 23 b K [.ref (b + k0), .int x1] sg (fX4_missedAt k0 x1 sg) := by
  refine qS_of (own := RX4) rfl (by decide) hK.1 (by simp [Value.category]) (Nat.le_of_ble_eq_true rfl) (fun z _ ty h => by cases h; exact vp_nar_int _) ?_
  show qJ RX4 cX4_missedAt 5 1 23 false (fun _ _ => True) b K 0 [some (.ref (b + k0)), some (.int x1), none, none, none] [] sg (fX4_missedAt k0 x1 sg)
  unfold fX4_missedAt
  refine q_iconst (pc := 0) 0 dX4_missedAt_0 (by decide) ?_
  refine q_istore_n (pc := 1) dX4_missedAt_1 (by decide) ?_
  refine q_iconst (pc := 2) 0 dX4_missedAt_2 (by decide) ?_
  refine q_istore_n (pc := 3) dX4_missedAt_3 (by decide) ?_
  exact tX4_missedAt_4 hK h0 qfu x1 0 0 sg
-- LineSearchModel.worst(I)I
def fX4_worst_42 (k0 : Nat) (c30 : Int32 → Int32 → Int32 → Int32 → qSt → qR) : Nat → Int32 → Int32 → Int32 → Int32 → Int32 → qSt → qR
  | 0, _, _, _, _, _, _ => none
  | n + 1, x1, x2, x3, x4, x5, sg =>
    if (sg k0 1) < x5 then
      c30 x1 x2 x3 ((x4 + 1)) sg
    else
    qb (fX4_wayOf k0 x4 x5 sg) fun r1 s2 =>
    qb (fX4_wayOf k0 x2 x3 s2) fun r3 s4 =>
    if (r1 * x3) ≤ (r3 * x5) then
      fX4_worst_42 k0 c30 n x1 x2 x3 x4 ((x5 + 1)) s4
    else
    fX4_worst_42 k0 c30 n x1 x4 x5 x4 ((x5 + 1)) s4
set_option maxRecDepth 20000 in
set_option maxHeartbeats 4000000 in
theorem tX4_worst_42 {b : Nat} {K : List Nat} (hK : qOk K) {k0 : Nat} {c30 : Int32 → Int32 → Int32 → Int32 → qSt → qR} (h0 : qIn K k0 4) (hc30 : ∀ (x1 x2 x3 x4 : Int32) (sg : qSt), qJ RX4 cX4_worst 6 2 47 false (fun _ _ => True) b K 30 [some (.ref (b + k0)), some (.int x1), some (.int x2), some (.int x3), some (.int x4), none] [] sg (c30 x1 x2 x3 x4 sg)) : ∀ (n : Nat) (x1 x2 x3 x4 x5 : Int32) (sg : qSt), qJ RX4 cX4_worst 6 2 47 false (fun _ _ => True) b K 42 [some (.ref (b + k0)), some (.int x1), some (.int x2), some (.int x3), some (.int x4), some (.int x5)] [] sg (fX4_worst_42 k0 c30 n x1 x2 x3 x4 x5 sg) := by
  intro n
  induction n with
  | zero => intro x1 x2 x3 x4 x5 sg; exact qJ_none
  | succ n ih =>
    intro x1 x2 x3 x4 x5 sg
    unfold fX4_worst_42
    refine q_iload (pc := 42) dX4_worst_42 rfl ?_
    refine q_aload_n (pc := 44) dX4_worst_44 rfl ?_
    refine qg_4_1 (pc := 45) dX4_worst_45 h0 lf_X4_13 ?_
    refine q_icmp_gt (pc := 48) 85 dX4_worst_48 (by decide) ?_ ?_
    · refine q_iinc (pc := 85) 1 dX4_worst_85 rfl (by decide) (by decide) ?_
      refine q_goto (pc := 88) 30 dX4_worst_88 (by decide) ?_
      refine qJ_weak [some (.ref (b + k0)), some (.int x1), some (.int x2), some (.int x3), some (.int ((x4 + 1))), none] ⟨rfl, rfl, rfl, rfl, rfl, trivial⟩ ?_
      exact hc30 x1 x2 x3 ((x4 + 1)) sg
    refine q_aload_n (pc := 51) dX4_worst_51 rfl ?_
    refine q_iload (pc := 52) dX4_worst_52 rfl ?_
    refine q_iload (pc := 54) dX4_worst_54 rfl ?_
    refine q_callVi (pc := 56) [.int x4, .int x5] dX4_worst_56 lm_X4_63 yX4_wayOf_ok yX4_wayOf_in h0 (by decide) rfl (sX4_wayOf hK h0 x4 x5 sg) rfl rfl (Nat.le_of_ble_eq_true rfl) ⟨by decide, by decide⟩ (fun r1 s2 => ?_)
    refine q_iload_n (pc := 59) dX4_worst_59 rfl ?_
    refine q_imul (pc := 60) dX4_worst_60 ?_
    refine q_aload_n (pc := 61) dX4_worst_61 rfl ?_
    refine q_iload_n (pc := 62) dX4_worst_62 rfl ?_
    refine q_iload_n (pc := 63) dX4_worst_63 rfl ?_
    refine q_callVi (pc := 64) [.int x2, .int x3] dX4_worst_64 lm_X4_63 yX4_wayOf_ok yX4_wayOf_in h0 (by decide) rfl (sX4_wayOf hK h0 x2 x3 s2) rfl rfl (Nat.le_of_ble_eq_true rfl) ⟨by decide, by decide⟩ (fun r3 s4 => ?_)
    refine q_iload (pc := 67) dX4_worst_67 rfl ?_
    refine q_imul (pc := 69) dX4_worst_69 ?_
    refine q_icmp_le (pc := 70) 79 dX4_worst_70 (by decide) ?_ ?_
    · refine q_iinc (pc := 79) 1 dX4_worst_79 rfl (by decide) (by decide) ?_
      refine q_goto (pc := 82) 42 dX4_worst_82 (by decide) ?_
      exact ih x1 x2 x3 x4 ((x5 + 1)) s4
    refine q_iload (pc := 73) dX4_worst_73 rfl ?_
    refine q_istore_n (pc := 75) dX4_worst_75 (by decide) ?_
    refine q_iload (pc := 76) dX4_worst_76 rfl ?_
    refine q_istore_n (pc := 78) dX4_worst_78 (by decide) ?_
    refine q_iinc (pc := 79) 1 dX4_worst_79 rfl (by decide) (by decide) ?_
    refine q_goto (pc := 82) 42 dX4_worst_82 (by decide) ?_
    exact ih x1 x4 x5 x4 ((x5 + 1)) s4
def fX4_worst_30 (k0 : Nat) : Nat → Int32 → Int32 → Int32 → Int32 → qSt → qR
  | 0, _, _, _, _, _ => none
  | n + 1, x1, x2, x3, x4, sg =>
    if (sg k0 0) ≤ x4 then
      if x1 = 2 then
        some (x2, sg)
      else
      if x1 = 3 then
        some (x3, sg)
      else
      qb (fX4_wayOf k0 x2 x3 sg) fun r1 s2 =>
      qb (fX4_term r1 ((s2 k0 2) * x3) x1 s2) fun r3 s4 =>
      some (r3, s4)
    else
    fX4_worst_42 k0 (fun z1 z2 z3 z4 sg => fX4_worst_30 k0 n z1 z2 z3 z4 sg) qfu x1 x2 x3 x4 1 sg
set_option maxRecDepth 20000 in
set_option maxHeartbeats 4000000 in
theorem tX4_worst_30 {b : Nat} {K : List Nat} (hK : qOk K) {k0 : Nat} (h0 : qIn K k0 4) : ∀ (n : Nat) (x1 x2 x3 x4 : Int32) (sg : qSt), qJ RX4 cX4_worst 6 2 47 false (fun _ _ => True) b K 30 [some (.ref (b + k0)), some (.int x1), some (.int x2), some (.int x3), some (.int x4), none] [] sg (fX4_worst_30 k0 n x1 x2 x3 x4 sg) := by
  intro n
  induction n with
  | zero => intro x1 x2 x3 x4 sg; exact qJ_none
  | succ n ih =>
    intro x1 x2 x3 x4 sg
    unfold fX4_worst_30
    refine q_iload (pc := 30) dX4_worst_30 rfl ?_
    refine q_aload_n (pc := 32) dX4_worst_32 rfl ?_
    refine qg_4_0 (pc := 33) dX4_worst_33 h0 lf_X4_7 ?_
    refine q_icmp_ge (pc := 36) 91 dX4_worst_36 (by decide) ?_ ?_
    · refine q_iload_n (pc := 91) dX4_worst_91 rfl ?_
      refine q_iconst (pc := 92) 2 dX4_worst_92 (by decide) ?_
      refine q_icmp_ne (pc := 93) 100 dX4_worst_93 (by decide) ?_ ?_
      · refine q_iload_n (pc := 100) dX4_worst_100 rfl ?_
        refine q_iconst (pc := 101) 3 dX4_worst_101 (by decide) ?_
        refine q_icmp_ne (pc := 102) 109 dX4_worst_102 (by decide) ?_ ?_
        · refine q_aload_n (pc := 109) dX4_worst_109 rfl ?_
          refine q_iload_n (pc := 110) dX4_worst_110 rfl ?_
          refine q_iload_n (pc := 111) dX4_worst_111 rfl ?_
          refine q_callVi (pc := 112) [.int x2, .int x3] dX4_worst_112 lm_X4_63 yX4_wayOf_ok yX4_wayOf_in h0 (by decide) rfl (sX4_wayOf hK h0 x2 x3 sg) rfl rfl (Nat.le_of_ble_eq_true rfl) ⟨by decide, by decide⟩ (fun r1 s2 => ?_)
          refine q_aload_n (pc := 115) dX4_worst_115 rfl ?_
          refine qg_4_2 (pc := 116) dX4_worst_116 h0 lf_X4_16 ?_
          refine q_iload_n (pc := 119) dX4_worst_119 rfl ?_
          refine q_imul (pc := 120) dX4_worst_120 ?_
          refine q_iload_n (pc := 121) dX4_worst_121 rfl ?_
          refine q_callSi (pc := 122) [.int r1, .int (((s2 k0 2) * x3)), .int x1] dX4_worst_122 lm_X4_69 yX4_term_ok yX4_term_in (sX4_term hK r1 ((s2 k0 2) * x3) x1 s2) rfl rfl (Nat.le_of_ble_eq_true rfl) ⟨by decide, by decide⟩ (fun r3 s4 => ?_)
          exact q_ireturn (pc := 125) dX4_worst_125
        refine q_iload_n (pc := 105) dX4_worst_105 rfl ?_
        refine q_goto (pc := 106) 125 dX4_worst_106 (by decide) ?_
        exact q_ireturn (pc := 125) dX4_worst_125
      refine q_iload_n (pc := 96) dX4_worst_96 rfl ?_
      refine q_goto (pc := 97) 125 dX4_worst_97 (by decide) ?_
      exact q_ireturn (pc := 125) dX4_worst_125
    refine q_iconst (pc := 39) 1 dX4_worst_39 (by decide) ?_
    refine q_istore (pc := 40) dX4_worst_40 (by decide) ?_
    exact tX4_worst_42 hK h0 (fun z1 z2 z3 z4 sg => ih z1 z2 z3 z4 sg) qfu x1 x2 x3 x4 1 sg
def fX4_worst (k0 : Nat) (x1 : Int32) (sg : qSt) : qR :=
  qb (fX4_in x1 0 3 sg) fun r1 s2 =>
  if r1 = 0 then
    some ((-2), s2)
  else
  qb (fX4_missedAt k0 (-1) s2) fun r3 s4 =>
  if r3 ≤ 0 then
    fX4_worst_30 k0 qfu x1 0 1 0 s4
  else
  some ((-3), s4)
set_option maxRecDepth 20000 in
set_option maxHeartbeats 4000000 in
theorem sX4_worst {b : Nat} {K : List Nat} (hK : qOk K) {k0 : Nat} (h0 : qIn K k0 4) (x1 : Int32) (sg : qSt) : qS yX4_worst cX4_worst 6 (some .int) 2 47 b K [.ref (b + k0), .int x1] sg (fX4_worst k0 x1 sg) := by
  refine qS_of (own := RX4) rfl (by decide) hK.1 (by simp [Value.category]) (Nat.le_of_ble_eq_true rfl) (fun z _ ty h => by cases h; exact vp_nar_int _) ?_
  show qJ RX4 cX4_worst 6 2 47 false (fun _ _ => True) b K 0 [some (.ref (b + k0)), some (.int x1), none, none, none, none] [] sg (fX4_worst k0 x1 sg)
  unfold fX4_worst
  refine q_iload_n (pc := 0) dX4_worst_0 rfl ?_
  refine q_iconst (pc := 1) 0 dX4_worst_1 (by decide) ?_
  refine q_iconst (pc := 2) 3 dX4_worst_2 (by decide) ?_
  refine q_callSi (pc := 3) [.int x1, .int 0, .int 3] dX4_worst_3 lm_X4_47 yX4_in_ok yX4_in_in (sX4_in hK x1 0 3 sg) rfl rfl (Nat.le_of_ble_eq_true rfl) ⟨by decide, by decide⟩ (fun r1 s2 => ?_)
  refine q_if_ne (pc := 6) 12 dX4_worst_6 (by decide) ?_ ?_
  · refine q_aload_n (pc := 12) dX4_worst_12 rfl ?_
    refine q_iconst (pc := 13) (-1) dX4_worst_13 (by decide) ?_
    refine q_callVi (pc := 14) [.int (-1)] dX4_worst_14 lm_X4_73 yX4_missedAt_ok yX4_missedAt_in h0 (by decide) rfl (sX4_missedAt hK h0 (-1) s2) rfl rfl (Nat.le_of_ble_eq_true rfl) ⟨by decide, by decide⟩ (fun r3 s4 => ?_)
    refine q_if_le (pc := 17) 23 dX4_worst_17 (by decide) ?_ ?_
    · refine q_iconst (pc := 23) 0 dX4_worst_23 (by decide) ?_
      refine q_istore_n (pc := 24) dX4_worst_24 (by decide) ?_
      refine q_iconst (pc := 25) 1 dX4_worst_25 (by decide) ?_
      refine q_istore_n (pc := 26) dX4_worst_26 (by decide) ?_
      refine q_iconst (pc := 27) 0 dX4_worst_27 (by decide) ?_
      refine q_istore (pc := 28) dX4_worst_28 (by decide) ?_
      exact tX4_worst_30 hK h0 qfu x1 0 1 0 s4
    refine q_bipush (pc := 20) (-3) dX4_worst_20 (by decide) ?_
    exact q_ireturn (pc := 22) dX4_worst_22
  refine q_bipush (pc := 9) (-2) dX4_worst_9 (by decide) ?_
  exact q_ireturn (pc := 11) dX4_worst_11
-- LineSearchModel.mean()I
def fX4_mean_25 (k0 : Nat) (c15 : Int32 → Int32 → qSt → qR) : Nat → Int32 → Int32 → Int32 → qSt → qR
  | 0, _, _, _, _ => none
  | n + 1, x1, x2, x3, sg =>
    if (sg k0 1) < x3 then
      c15 x1 ((x2 + 1)) sg
    else
    if qin ((9 * x2) + x3) (qlen (k0 + 1)) then
    qb (fX4_wayOf k0 x2 x3 sg) fun r1 s2 =>
    fX4_mean_25 k0 c15 n ((x1 + ((sg (k0 + 1) (Int32.toNatClampNeg ((9 * x2) + x3))) * r1))) x2 ((x3 + 1)) s2
    else none
set_option maxRecDepth 20000 in
set_option maxHeartbeats 4000000 in
theorem tX4_mean_25 {b : Nat} {K : List Nat} (hK : qOk K) {k0 : Nat} {c15 : Int32 → Int32 → qSt → qR} (h0 : qIn K k0 4) (hc15 : ∀ (x1 x2 : Int32) (sg : qSt), qJ RX4 cX4_mean 4 2 47 false (fun _ _ => True) b K 15 [some (.ref (b + k0)), some (.int x1), some (.int x2), none] [] sg (c15 x1 x2 sg)) : ∀ (n : Nat) (x1 x2 x3 : Int32) (sg : qSt), qJ RX4 cX4_mean 4 2 47 false (fun _ _ => True) b K 25 [some (.ref (b + k0)), some (.int x1), some (.int x2), some (.int x3)] [] sg (fX4_mean_25 k0 c15 n x1 x2 x3 sg) := by
  intro n
  induction n with
  | zero => intro x1 x2 x3 sg; exact qJ_none
  | succ n ih =>
    intro x1 x2 x3 sg
    unfold fX4_mean_25
    refine q_iload_n (pc := 25) dX4_mean_25 rfl ?_
    refine q_aload_n (pc := 26) dX4_mean_26 rfl ?_
    refine qg_4_1 (pc := 27) dX4_mean_27 h0 lf_X4_13 ?_
    refine q_icmp_gt (pc := 30) 60 dX4_mean_30 (by decide) ?_ ?_
    · refine q_iinc (pc := 60) 1 dX4_mean_60 rfl (by decide) (by decide) ?_
      refine q_goto (pc := 63) 15 dX4_mean_63 (by decide) ?_
      refine qJ_weak [some (.ref (b + k0)), some (.int x1), some (.int ((x2 + 1))), none] ⟨rfl, rfl, rfl, trivial⟩ ?_
      exact hc15 x1 ((x2 + 1)) sg
    refine q_iload_n (pc := 33) dX4_mean_33 rfl ?_
    refine q_aload_n (pc := 34) dX4_mean_34 rfl ?_
    refine qg_4_4 (pc := 35) dX4_mean_35 h0 lf_X4_22 ?_
    refine q_bipush (pc := 38) 9 dX4_mean_38 (by decide) ?_
    refine q_iload_n (pc := 40) dX4_mean_40 rfl ?_
    refine q_imul (pc := 41) dX4_mean_41 ?_
    refine q_iload_n (pc := 42) dX4_mean_42 rfl ?_
    refine q_iadd (pc := 43) dX4_mean_43 ?_
    refine q_iald (pc := 44) dX4_mean_44 (qch_4_4 hK h0) ?_
    refine q_aload_n (pc := 45) dX4_mean_45 rfl ?_
    refine q_iload_n (pc := 46) dX4_mean_46 rfl ?_
    refine q_iload_n (pc := 47) dX4_mean_47 rfl ?_
    refine q_callVi (pc := 48) [.int x2, .int x3] dX4_mean_48 lm_X4_63 yX4_wayOf_ok yX4_wayOf_in h0 (by decide) rfl (sX4_wayOf hK h0 x2 x3 sg) rfl rfl (Nat.le_of_ble_eq_true rfl) ⟨by decide, by decide⟩ (fun r1 s2 => ?_)
    refine q_imul (pc := 51) dX4_mean_51 ?_
    refine q_iadd (pc := 52) dX4_mean_52 ?_
    refine q_istore_n (pc := 53) dX4_mean_53 (by decide) ?_
    refine q_iinc (pc := 54) 1 dX4_mean_54 rfl (by decide) (by decide) ?_
    refine q_goto (pc := 57) 25 dX4_mean_57 (by decide) ?_
    exact ih ((x1 + ((sg (k0 + 1) (Int32.toNatClampNeg ((9 * x2) + x3))) * r1))) x2 ((x3 + 1)) s2
def fX4_mean_15 (k0 : Nat) : Nat → Int32 → Int32 → qSt → qR
  | 0, _, _, _ => none
  | n + 1, x1, x2, sg =>
    if (sg k0 0) ≤ x2 then
      some (x1, sg)
    else
    fX4_mean_25 k0 (fun z1 z2 sg => fX4_mean_15 k0 n z1 z2 sg) qfu x1 x2 1 sg
set_option maxRecDepth 20000 in
set_option maxHeartbeats 4000000 in
theorem tX4_mean_15 {b : Nat} {K : List Nat} (hK : qOk K) {k0 : Nat} (h0 : qIn K k0 4) : ∀ (n : Nat) (x1 x2 : Int32) (sg : qSt), qJ RX4 cX4_mean 4 2 47 false (fun _ _ => True) b K 15 [some (.ref (b + k0)), some (.int x1), some (.int x2), none] [] sg (fX4_mean_15 k0 n x1 x2 sg) := by
  intro n
  induction n with
  | zero => intro x1 x2 sg; exact qJ_none
  | succ n ih =>
    intro x1 x2 sg
    unfold fX4_mean_15
    refine q_iload_n (pc := 15) dX4_mean_15 rfl ?_
    refine q_aload_n (pc := 16) dX4_mean_16 rfl ?_
    refine qg_4_0 (pc := 17) dX4_mean_17 h0 lf_X4_7 ?_
    refine q_icmp_ge (pc := 20) 66 dX4_mean_20 (by decide) ?_ ?_
    · refine q_iload_n (pc := 66) dX4_mean_66 rfl ?_
      exact q_ireturn (pc := 67) dX4_mean_67
    refine q_iconst (pc := 23) 1 dX4_mean_23 (by decide) ?_
    refine q_istore_n (pc := 24) dX4_mean_24 (by decide) ?_
    exact tX4_mean_25 hK h0 (fun z1 z2 sg => ih z1 z2 sg) qfu x1 x2 1 sg
def fX4_mean (k0 : Nat) (sg : qSt) : qR :=
  qb (fX4_missedAt k0 (-1) sg) fun r1 s2 =>
  if r1 ≤ 0 then
    fX4_mean_15 k0 qfu 0 0 s2
  else
  some ((-3), s2)
set_option maxRecDepth 20000 in
set_option maxHeartbeats 4000000 in
theorem sX4_mean {b : Nat} {K : List Nat} (hK : qOk K) {k0 : Nat} (h0 : qIn K k0 4) (sg : qSt) : qS yX4_mean cX4_mean 4 (some .int) 2 47 b K [.ref (b + k0)] sg (fX4_mean k0 sg) := by
  refine qS_of (own := RX4) rfl (by decide) hK.1 (by simp [Value.category]) (Nat.le_of_ble_eq_true rfl) (fun z _ ty h => by cases h; exact vp_nar_int _) ?_
  show qJ RX4 cX4_mean 4 2 47 false (fun _ _ => True) b K 0 [some (.ref (b + k0)), none, none, none] [] sg (fX4_mean k0 sg)
  unfold fX4_mean
  refine q_aload_n (pc := 0) dX4_mean_0 rfl ?_
  refine q_iconst (pc := 1) (-1) dX4_mean_1 (by decide) ?_
  refine q_callVi (pc := 2) [.int (-1)] dX4_mean_2 lm_X4_73 yX4_missedAt_ok yX4_missedAt_in h0 (by decide) rfl (sX4_missedAt hK h0 (-1) sg) rfl rfl (Nat.le_of_ble_eq_true rfl) ⟨by decide, by decide⟩ (fun r1 s2 => ?_)
  refine q_if_le (pc := 5) 11 dX4_mean_5 (by decide) ?_ ?_
  · refine q_iconst (pc := 11) 0 dX4_mean_11 (by decide) ?_
    refine q_istore_n (pc := 12) dX4_mean_12 (by decide) ?_
    refine q_iconst (pc := 13) 0 dX4_mean_13 (by decide) ?_
    refine q_istore_n (pc := 14) dX4_mean_14 (by decide) ?_
    exact tX4_mean_15 hK h0 qfu 0 0 s2
  refine q_bipush (pc := 8) (-3) dX4_mean_8 (by decide) ?_
  exact q_ireturn (pc := 10) dX4_mean_10
-- LineSearchModel.missed(I)I
def fX4_missed (k0 : Nat) (x1 : Int32) (sg : qSt) : qR :=
  qb (fX4_missedAt k0 x1 sg) fun r1 s2 =>
  some (r1, s2)
set_option maxRecDepth 20000 in
set_option maxHeartbeats 4000000 in
theorem sX4_missed {b : Nat} {K : List Nat} (hK : qOk K) {k0 : Nat} (h0 : qIn K k0 4) (x1 : Int32) (sg : qSt) : qS yX4_missed cX4_missed 2 (some .int) 2 47 b K [.ref (b + k0), .int x1] sg (fX4_missed k0 x1 sg) := by
  refine qS_of (own := RX4) rfl (by decide) hK.1 (by simp [Value.category]) (Nat.le_of_ble_eq_true rfl) (fun z _ ty h => by cases h; exact vp_nar_int _) ?_
  show qJ RX4 cX4_missed 2 2 47 false (fun _ _ => True) b K 0 [some (.ref (b + k0)), some (.int x1)] [] sg (fX4_missed k0 x1 sg)
  unfold fX4_missed
  refine q_aload_n (pc := 0) dX4_missed_0 rfl ?_
  refine q_iload_n (pc := 1) dX4_missed_1 rfl ?_
  refine q_callVi (pc := 2) [.int x1] dX4_missed_2 lm_X4_73 yX4_missedAt_ok yX4_missedAt_in h0 (by decide) rfl (sX4_missedAt hK h0 x1 sg) rfl rfl (Nat.le_of_ble_eq_true rfl) ⟨by decide, by decide⟩ (fun r1 s2 => ?_)
  exact q_ireturn (pc := 5) dX4_missed_5
-- LineSearchModel.finds(I)I
def fX4_finds_20 (k0 : Nat) : Nat → Int32 → Int32 → Int32 → qSt → qR
  | 0, _, _, _, _ => none
  | n + 1, x1, x2, x3, sg =>
    if x1 ≤ x3 then
      if qin x1 (qlen (k0 + 3)) then
      if (sg (k0 + 3) (Int32.toNatClampNeg x1)) ≤ x2 then
        some ((-6), sg)
      else
      if qin x1 (qlen (k0 + 2)) then
      some ((((10 * (sg (k0 + 2) (Int32.toNatClampNeg x1))) + x2) + 1), sg)
      else none
      else none
    else
    if qin x3 (qlen (k0 + 2)) then
    if qin x1 (qlen (k0 + 2)) then
    if (sg (k0 + 2) (Int32.toNatClampNeg x3)) = (sg (k0 + 2) (Int32.toNatClampNeg x1)) then
      if qin x3 (qlen (k0 + 3)) then
      if (sg (k0 + 3) (Int32.toNatClampNeg x3)) ≤ x2 then
        fX4_finds_20 k0 n x1 x2 ((x3 + 1)) sg
      else
      if qin x3 (qlen (k0 + 3)) then
      fX4_finds_20 k0 n x1 ((sg (k0 + 3) (Int32.toNatClampNeg x3))) ((x3 + 1)) sg
      else none
      else none
    else
    fX4_finds_20 k0 n x1 x2 ((x3 + 1)) sg
    else none
    else none
set_option maxRecDepth 20000 in
set_option maxHeartbeats 4000000 in
theorem tX4_finds_20 {b : Nat} {K : List Nat} (hK : qOk K) {k0 : Nat} (h0 : qIn K k0 4) : ∀ (n : Nat) (x1 x2 x3 : Int32) (sg : qSt), qJ RX4 cX4_finds 4 1 22 false (fun _ _ => True) b K 20 [some (.ref (b + k0)), some (.int x1), some (.int x2), some (.int x3)] [] sg (fX4_finds_20 k0 n x1 x2 x3 sg) := by
  intro n
  induction n with
  | zero => intro x1 x2 x3 sg; exact qJ_none
  | succ n ih =>
    intro x1 x2 x3 sg
    unfold fX4_finds_20
    refine q_iload_n (pc := 20) dX4_finds_20 rfl ?_
    refine q_iload_n (pc := 21) dX4_finds_21 rfl ?_
    refine q_icmp_ge (pc := 22) 67 dX4_finds_22 (by decide) ?_ ?_
    · refine q_aload_n (pc := 67) dX4_finds_67 rfl ?_
      refine qg_4_7 (pc := 68) dX4_finds_68 h0 lf_X4_29 ?_
      refine q_iload_n (pc := 71) dX4_finds_71 rfl ?_
      refine q_iald (pc := 72) dX4_finds_72 (qch_4_7 hK h0) ?_
      refine q_iload_n (pc := 73) dX4_finds_73 rfl ?_
      refine q_icmp_le (pc := 74) 93 dX4_finds_74 (by decide) ?_ ?_
      · refine q_bipush (pc := 93) (-6) dX4_finds_93 (by decide) ?_
        exact q_ireturn (pc := 95) dX4_finds_95
      refine q_bipush (pc := 77) 10 dX4_finds_77 (by decide) ?_
      refine q_aload_n (pc := 79) dX4_finds_79 rfl ?_
      refine qg_4_6 (pc := 80) dX4_finds_80 h0 lf_X4_26 ?_
      refine q_iload_n (pc := 83) dX4_finds_83 rfl ?_
      refine q_iald (pc := 84) dX4_finds_84 (qch_4_6 hK h0) ?_
      refine q_imul (pc := 85) dX4_finds_85 ?_
      refine q_iload_n (pc := 86) dX4_finds_86 rfl ?_
      refine q_iadd (pc := 87) dX4_finds_87 ?_
      refine q_iconst (pc := 88) 1 dX4_finds_88 (by decide) ?_
      refine q_iadd (pc := 89) dX4_finds_89 ?_
      refine q_goto (pc := 90) 95 dX4_finds_90 (by decide) ?_
      exact q_ireturn (pc := 95) dX4_finds_95
    refine q_aload_n (pc := 25) dX4_finds_25 rfl ?_
    refine qg_4_6 (pc := 26) dX4_finds_26 h0 lf_X4_26 ?_
    refine q_iload_n (pc := 29) dX4_finds_29 rfl ?_
    refine q_iald (pc := 30) dX4_finds_30 (qch_4_6 hK h0) ?_
    refine q_aload_n (pc := 31) dX4_finds_31 rfl ?_
    refine qg_4_6 (pc := 32) dX4_finds_32 h0 lf_X4_26 ?_
    refine q_iload_n (pc := 35) dX4_finds_35 rfl ?_
    refine q_iald (pc := 36) dX4_finds_36 (qch_4_6 hK h0) ?_
    refine q_icmp_ne (pc := 37) 59 dX4_finds_37 (by decide) ?_ ?_
    · refine q_iload_n (pc := 59) dX4_finds_59 rfl ?_
      refine q_istore_n (pc := 60) dX4_finds_60 (by decide) ?_
      refine q_iinc (pc := 61) 1 dX4_finds_61 rfl (by decide) (by decide) ?_
      refine q_goto (pc := 64) 20 dX4_finds_64 (by decide) ?_
      exact ih x1 x2 ((x3 + 1)) sg
    refine q_aload_n (pc := 40) dX4_finds_40 rfl ?_
    refine qg_4_7 (pc := 41) dX4_finds_41 h0 lf_X4_29 ?_
    refine q_iload_n (pc := 44) dX4_finds_44 rfl ?_
    refine q_iald (pc := 45) dX4_finds_45 (qch_4_7 hK h0) ?_
    refine q_iload_n (pc := 46) dX4_finds_46 rfl ?_
    refine q_icmp_le (pc := 47) 59 dX4_finds_47 (by decide) ?_ ?_
    · refine q_iload_n (pc := 59) dX4_finds_59 rfl ?_
      refine q_istore_n (pc := 60) dX4_finds_60 (by decide) ?_
      refine q_iinc (pc := 61) 1 dX4_finds_61 rfl (by decide) (by decide) ?_
      refine q_goto (pc := 64) 20 dX4_finds_64 (by decide) ?_
      exact ih x1 x2 ((x3 + 1)) sg
    refine q_aload_n (pc := 50) dX4_finds_50 rfl ?_
    refine qg_4_7 (pc := 51) dX4_finds_51 h0 lf_X4_29 ?_
    refine q_iload_n (pc := 54) dX4_finds_54 rfl ?_
    refine q_iald (pc := 55) dX4_finds_55 (qch_4_7 hK h0) ?_
    refine q_goto (pc := 56) 60 dX4_finds_56 (by decide) ?_
    refine q_istore_n (pc := 60) dX4_finds_60 (by decide) ?_
    refine q_iinc (pc := 61) 1 dX4_finds_61 rfl (by decide) (by decide) ?_
    refine q_goto (pc := 64) 20 dX4_finds_64 (by decide) ?_
    exact ih x1 ((sg (k0 + 3) (Int32.toNatClampNeg x3))) ((x3 + 1)) sg
def fX4_finds (k0 : Nat) (x1 : Int32) (sg : qSt) : qR :=
  qb (fX4_in x1 0 ((sg k0 5) - 1) sg) fun r1 s2 =>
  if r1 = 0 then
    some ((-1), s2)
  else
  fX4_finds_20 k0 qfu x1 0 0 s2
set_option maxRecDepth 20000 in
set_option maxHeartbeats 4000000 in
theorem sX4_finds {b : Nat} {K : List Nat} (hK : qOk K) {k0 : Nat} (h0 : qIn K k0 4) (x1 : Int32) (sg : qSt) : qS yX4_finds cX4_finds 4 (some .int) 1 22 b K [.ref (b + k0), .int x1] sg (fX4_finds k0 x1 sg) := by
  refine qS_of (own := RX4) rfl (by decide) hK.1 (by simp [Value.category]) (Nat.le_of_ble_eq_true rfl) (fun z _ ty h => by cases h; exact vp_nar_int _) ?_
  show qJ RX4 cX4_finds 4 1 22 false (fun _ _ => True) b K 0 [some (.ref (b + k0)), some (.int x1), none, none] [] sg (fX4_finds k0 x1 sg)
  unfold fX4_finds
  refine q_iload_n (pc := 0) dX4_finds_0 rfl ?_
  refine q_iconst (pc := 1) 0 dX4_finds_1 (by decide) ?_
  refine q_aload_n (pc := 2) dX4_finds_2 rfl ?_
  refine qg_4_5 (pc := 3) dX4_finds_3 h0 lf_X4_44 ?_
  refine q_iconst (pc := 6) 1 dX4_finds_6 (by decide) ?_
  refine q_isub (pc := 7) dX4_finds_7 ?_
  refine q_callSi (pc := 8) [.int x1, .int 0, .int (((sg k0 5) - 1))] dX4_finds_8 lm_X4_47 yX4_in_ok yX4_in_in (sX4_in hK x1 0 ((sg k0 5) - 1) sg) rfl rfl (Nat.le_of_ble_eq_true rfl) ⟨by decide, by decide⟩ (fun r1 s2 => ?_)
  refine q_if_ne (pc := 11) 16 dX4_finds_11 (by decide) ?_ ?_
  · refine q_iconst (pc := 16) 0 dX4_finds_16 (by decide) ?_
    refine q_istore_n (pc := 17) dX4_finds_17 (by decide) ?_
    refine q_iconst (pc := 18) 0 dX4_finds_18 (by decide) ?_
    refine q_istore_n (pc := 19) dX4_finds_19 (by decide) ?_
    exact tX4_finds_20 hK h0 qfu x1 0 0 s2
  refine q_iconst (pc := 14) (-1) dX4_finds_14 (by decide) ?_
  exact q_ireturn (pc := 15) dX4_finds_15
-- LineSearchModel.nines(I)I
def fX4_nines (x0 : Int32) (sg : qSt) : qR :=
  if x0 = 0 then
    some (1, sg)
  else
  if x0 = 1 then
    some (9, sg)
  else
  some (81, sg)
set_option maxRecDepth 20000 in
set_option maxHeartbeats 4000000 in
theorem sX4_nines {b : Nat} {K : List Nat} (hK : qOk K) (x0 : Int32) (sg : qSt) : qS yX4_nines cX4_nines 1 (some .int) 0 0 b K [.int x0] sg (fX4_nines x0 sg) := by
  refine qS_of (own := RX4) rfl (by decide) hK.1 (by simp [Value.category]) (Nat.le_of_ble_eq_true rfl) (fun z _ ty h => by cases h; exact vp_nar_int _) ?_
  show qJ RX4 cX4_nines 1 0 0 false (fun _ _ => True) b K 0 [some (.int x0)] [] sg (fX4_nines x0 sg)
  unfold fX4_nines
  refine q_iload_n (pc := 0) dX4_nines_0 rfl ?_
  refine q_if_ne (pc := 1) 8 dX4_nines_1 (by decide) ?_ ?_
  · refine q_iload_n (pc := 8) dX4_nines_8 rfl ?_
    refine q_iconst (pc := 9) 1 dX4_nines_9 (by decide) ?_
    refine q_icmp_ne (pc := 10) 18 dX4_nines_10 (by decide) ?_ ?_
    · refine q_bipush (pc := 18) 81 dX4_nines_18 (by decide) ?_
      exact q_ireturn (pc := 20) dX4_nines_20
    refine q_bipush (pc := 13) 9 dX4_nines_13 (by decide) ?_
    refine q_goto (pc := 15) 20 dX4_nines_15 (by decide) ?_
    exact q_ireturn (pc := 20) dX4_nines_20
  refine q_iconst (pc := 4) 1 dX4_nines_4 (by decide) ?_
  refine q_goto (pc := 5) 20 dX4_nines_5 (by decide) ?_
  exact q_ireturn (pc := 20) dX4_nines_20
-- LineSearchModel.gone(II)I
def fX4_gone (x0 x1 : Int32) (sg : qSt) : qR :=
  qb (fX4_nines x1 sg) fun r1 s2 =>
  if r1 = 0 then none else
  some (((x0 / r1) - (x0 / r1) / 9 * 9), s2)
set_option maxRecDepth 20000 in
set_option maxHeartbeats 4000000 in
theorem sX4_gone {b : Nat} {K : List Nat} (hK : qOk K) (x0 x1 : Int32) (sg : qSt) : qS yX4_gone cX4_gone 2 (some .int) 1 20 b K [.int x0, .int x1] sg (fX4_gone x0 x1 sg) := by
  refine qS_of (own := RX4) rfl (by decide) hK.1 (by simp [Value.category]) (Nat.le_of_ble_eq_true rfl) (fun z _ ty h => by cases h; exact vp_nar_int _) ?_
  show qJ RX4 cX4_gone 2 1 20 false (fun _ _ => True) b K 0 [some (.int x0), some (.int x1)] [] sg (fX4_gone x0 x1 sg)
  unfold fX4_gone
  refine q_iload_n (pc := 0) dX4_gone_0 rfl ?_
  refine q_iload_n (pc := 1) dX4_gone_1 rfl ?_
  refine q_callSi (pc := 2) [.int x1] dX4_gone_2 lm_X4_76 yX4_nines_ok yX4_nines_in (sX4_nines hK x1 sg) rfl rfl (Nat.le_of_ble_eq_true rfl) ⟨by decide, by decide⟩ (fun r1 s2 => ?_)
  refine q_idiv (pc := 5) dX4_gone_5 ?_
  refine q_bipush (pc := 6) 9 dX4_gone_6 (by decide) ?_
  refine q_iremc (pc := 8) dX4_gone_8 (by decide) ?_
  exact q_ireturn (pc := 9) dX4_gone_9
-- LineSearchModel.lastState()I
def fX4_lastState (k0 : Nat) (sg : qSt) : qR :=
  if (sg k0 0) = 3 then
    some ((((sg k0 1) + (9 * (sg k0 1))) + (81 * (sg k0 1))), sg)
  else
  some ((((sg k0 1) + (9 * (sg k0 1))) + 0), sg)
set_option maxRecDepth 20000 in
set_option maxHeartbeats 4000000 in
theorem sX4_lastState {b : Nat} {K : List Nat} (hK : qOk K) {k0 : Nat} (h0 : qIn K k0 4) (sg : qSt) : qS yX4_lastState cX4_lastState 1 (some .int) 0 0 b K [.ref (b + k0)] sg (fX4_lastState k0 sg) := by
  refine qS_of (own := RX4) rfl (by decide) hK.1 (by simp [Value.category]) (Nat.le_of_ble_eq_true rfl) (fun z _ ty h => by cases h; exact vp_nar_int _) ?_
  show qJ RX4 cX4_lastState 1 0 0 false (fun _ _ => True) b K 0 [some (.ref (b + k0))] [] sg (fX4_lastState k0 sg)
  unfold fX4_lastState
  refine q_aload_n (pc := 0) dX4_lastState_0 rfl ?_
  refine qg_4_1 (pc := 1) dX4_lastState_1 h0 lf_X4_13 ?_
  refine q_bipush (pc := 4) 9 dX4_lastState_4 (by decide) ?_
  refine q_aload_n (pc := 6) dX4_lastState_6 rfl ?_
  refine qg_4_1 (pc := 7) dX4_lastState_7 h0 lf_X4_13 ?_
  refine q_imul (pc := 10) dX4_lastState_10 ?_
  refine q_iadd (pc := 11) dX4_lastState_11 ?_
  refine q_aload_n (pc := 12) dX4_lastState_12 rfl ?_
  refine qg_4_0 (pc := 13) dX4_lastState_13 h0 lf_X4_7 ?_
  refine q_iconst (pc := 16) 3 dX4_lastState_16 (by decide) ?_
  refine q_icmp_ne (pc := 17) 30 dX4_lastState_17 (by decide) ?_ ?_
  · refine q_iconst (pc := 30) 0 dX4_lastState_30 (by decide) ?_
    refine q_iadd (pc := 31) dX4_lastState_31 ?_
    exact q_ireturn (pc := 32) dX4_lastState_32
  refine q_bipush (pc := 20) 81 dX4_lastState_20 (by decide) ?_
  refine q_aload_n (pc := 22) dX4_lastState_22 rfl ?_
  refine qg_4_1 (pc := 23) dX4_lastState_23 h0 lf_X4_13 ?_
  refine q_imul (pc := 26) dX4_lastState_26 ?_
  refine q_goto (pc := 27) 31 dX4_lastState_27 (by decide) ?_
  refine q_iadd (pc := 31) dX4_lastState_31 ?_
  exact q_ireturn (pc := 32) dX4_lastState_32
-- LineSearchModel.isState(I)Z
def fX4_isState_22 (k0 : Nat) : Nat → Int32 → Int32 → Int32 → qSt → qR
  | 0, _, _, _, _ => none
  | n + 1, x1, x2, x3, sg =>
    if 3 ≤ x3 then
      some (x2, sg)
    else
    if x2 = 0 then
      fX4_isState_22 k0 n x1 0 ((x3 + 1)) sg
    else
    qb (fX4_gone x1 x3 sg) fun r1 s2 =>
    if (s2 k0 1) < r1 then
      fX4_isState_22 k0 n x1 0 ((x3 + 1)) s2
    else
    fX4_isState_22 k0 n x1 1 ((x3 + 1)) s2
set_option maxRecDepth 20000 in
set_option maxHeartbeats 4000000 in
theorem tX4_isState_22 {b : Nat} {K : List Nat} (hK : qOk K) {k0 : Nat} (h0 : qIn K k0 4) : ∀ (n : Nat) (x1 x2 x3 : Int32) (sg : qSt), qJ RX4 cX4_isState 4 2 41 false (fun _ _ => True) b K 22 [some (.ref (b + k0)), some (.int x1), some (.int x2), some (.int x3)] [] sg (fX4_isState_22 k0 n x1 x2 x3 sg) := by
  intro n
  induction n with
  | zero => intro x1 x2 x3 sg; exact qJ_none
  | succ n ih =>
    intro x1 x2 x3 sg
    unfold fX4_isState_22
    refine q_iload_n (pc := 22) dX4_isState_22 rfl ?_
    refine q_iconst (pc := 23) 3 dX4_isState_23 (by decide) ?_
    refine q_icmp_ge (pc := 24) 55 dX4_isState_24 (by decide) ?_ ?_
    · refine q_iload_n (pc := 55) dX4_isState_55 rfl ?_
      exact q_ireturn (pc := 56) dX4_isState_56
    refine q_iload_n (pc := 27) dX4_isState_27 rfl ?_
    refine q_if_eq (pc := 28) 47 dX4_isState_28 (by decide) ?_ ?_
    · refine q_iconst (pc := 47) 0 dX4_isState_47 (by decide) ?_
      refine q_istore_n (pc := 48) dX4_isState_48 (by decide) ?_
      refine q_iinc (pc := 49) 1 dX4_isState_49 rfl (by decide) (by decide) ?_
      refine q_goto (pc := 52) 22 dX4_isState_52 (by decide) ?_
      exact ih x1 0 ((x3 + 1)) sg
    refine q_iload_n (pc := 31) dX4_isState_31 rfl ?_
    refine q_iload_n (pc := 32) dX4_isState_32 rfl ?_
    refine q_callSi (pc := 33) [.int x1, .int x3] dX4_isState_33 lm_X4_79 yX4_gone_ok yX4_gone_in (sX4_gone hK x1 x3 sg) rfl rfl (Nat.le_of_ble_eq_true rfl) ⟨by decide, by decide⟩ (fun r1 s2 => ?_)
    refine q_aload_n (pc := 36) dX4_isState_36 rfl ?_
    refine qg_4_1 (pc := 37) dX4_isState_37 h0 lf_X4_13 ?_
    refine q_icmp_gt (pc := 40) 47 dX4_isState_40 (by decide) ?_ ?_
    · refine q_iconst (pc := 47) 0 dX4_isState_47 (by decide) ?_
      refine q_istore_n (pc := 48) dX4_isState_48 (by decide) ?_
      refine q_iinc (pc := 49) 1 dX4_isState_49 rfl (by decide) (by decide) ?_
      refine q_goto (pc := 52) 22 dX4_isState_52 (by decide) ?_
      exact ih x1 0 ((x3 + 1)) s2
    refine q_iconst (pc := 43) 1 dX4_isState_43 (by decide) ?_
    refine q_goto (pc := 44) 48 dX4_isState_44 (by decide) ?_
    refine q_istore_n (pc := 48) dX4_isState_48 (by decide) ?_
    refine q_iinc (pc := 49) 1 dX4_isState_49 rfl (by decide) (by decide) ?_
    refine q_goto (pc := 52) 22 dX4_isState_52 (by decide) ?_
    exact ih x1 1 ((x3 + 1)) s2
def fX4_isState_b (k0 : Nat) (x1 : Int32) (sg : qSt) : qR :=
  if (sg k0 0) = 3 then
    fX4_isState_22 k0 qfu x1 1 0 sg
  else
  if 81 ≤ x1 then
    fX4_isState_22 k0 qfu x1 0 0 sg
  else
  fX4_isState_22 k0 qfu x1 1 0 sg
def fX4_isState (k0 : Nat) (x1 : Int32) (sg : qSt) : qR := qz (fX4_isState_b k0 x1 sg)
set_option maxRecDepth 20000 in
set_option maxHeartbeats 4000000 in
theorem sX4_isState {b : Nat} {K : List Nat} (hK : qOk K) {k0 : Nat} (h0 : qIn K k0 4) (x1 : Int32) (sg : qSt) : qS yX4_isState cX4_isState 4 (some .boolean) 2 41 b K [.ref (b + k0), .int x1] sg (fX4_isState k0 x1 sg) := by
  refine qS_of (own := RX4) rfl (by decide) hK.1 (by simp [Value.category]) (Nat.le_of_ble_eq_true rfl) (fun z hz ty h => by cases h; exact qz_bool hz) ?_
  show qJ RX4 cX4_isState 4 2 41 false (fun _ _ => True) b K 0 [some (.ref (b + k0)), some (.int x1), none, none] [] sg (fX4_isState k0 x1 sg)
  refine qJ_qz ?_
  unfold fX4_isState_b
  refine q_aload_n (pc := 0) dX4_isState_0 rfl ?_
  refine qg_4_0 (pc := 1) dX4_isState_1 h0 lf_X4_7 ?_
  refine q_iconst (pc := 4) 3 dX4_isState_4 (by decide) ?_
  refine q_icmp_eq (pc := 5) 14 dX4_isState_5 (by decide) ?_ ?_
  · refine q_iconst (pc := 14) 1 dX4_isState_14 (by decide) ?_
    refine q_goto (pc := 15) 19 dX4_isState_15 (by decide) ?_
    refine q_istore_n (pc := 19) dX4_isState_19 (by decide) ?_
    refine q_iconst (pc := 20) 0 dX4_isState_20 (by decide) ?_
    refine q_istore_n (pc := 21) dX4_isState_21 (by decide) ?_
    exact tX4_isState_22 hK h0 qfu x1 1 0 sg
  refine q_iload_n (pc := 8) dX4_isState_8 rfl ?_
  refine q_bipush (pc := 9) 81 dX4_isState_9 (by decide) ?_
  refine q_icmp_ge (pc := 11) 18 dX4_isState_11 (by decide) ?_ ?_
  · refine q_iconst (pc := 18) 0 dX4_isState_18 (by decide) ?_
    refine q_istore_n (pc := 19) dX4_isState_19 (by decide) ?_
    refine q_iconst (pc := 20) 0 dX4_isState_20 (by decide) ?_
    refine q_istore_n (pc := 21) dX4_isState_21 (by decide) ?_
    exact tX4_isState_22 hK h0 qfu x1 0 0 sg
  refine q_iconst (pc := 14) 1 dX4_isState_14 (by decide) ?_
  refine q_goto (pc := 15) 19 dX4_isState_15 (by decide) ?_
  refine q_istore_n (pc := 19) dX4_isState_19 (by decide) ?_
  refine q_iconst (pc := 20) 0 dX4_isState_20 (by decide) ?_
  refine q_istore_n (pc := 21) dX4_isState_21 (by decide) ?_
  exact tX4_isState_22 hK h0 qfu x1 1 0 sg
-- LineSearchModel.rest(I)I
def fX4_rest_21 (k0 : Nat) (c4 : Int32 → Int32 → Int32 → qSt → qR) : Nat → Int32 → Int32 → Int32 → Int32 → qSt → qR
  | 0, _, _, _, _, _ => none
  | n + 1, x1, x2, x3, x4, sg =>
    if (sg k0 1) < x4 then
      c4 x1 x2 ((x3 + 1)) sg
    else
    if qin ((9 * x3) + x4) (qlen (k0 + 1)) then
    fX4_rest_21 k0 c4 n x1 ((x2 + (sg (k0 + 1) (Int32.toNatClampNeg ((9 * x3) + x4))))) x3 ((x4 + 1)) sg
    else none
set_option maxRecDepth 20000 in
set_option maxHeartbeats 4000000 in
theorem tX4_rest_21 {b : Nat} {K : List Nat} (hK : qOk K) {k0 : Nat} {c4 : Int32 → Int32 → Int32 → qSt → qR} (h0 : qIn K k0 4) (hc4 : ∀ (x1 x2 x3 : Int32) (sg : qSt), qJ RX4 cX4_rest 5 2 41 false (fun _ _ => True) b K 4 [some (.ref (b + k0)), some (.int x1), some (.int x2), some (.int x3), none] [] sg (c4 x1 x2 x3 sg)) : ∀ (n : Nat) (x1 x2 x3 x4 : Int32) (sg : qSt), qJ RX4 cX4_rest 5 2 41 false (fun _ _ => True) b K 21 [some (.ref (b + k0)), some (.int x1), some (.int x2), some (.int x3), some (.int x4)] [] sg (fX4_rest_21 k0 c4 n x1 x2 x3 x4 sg) := by
  intro n
  induction n with
  | zero => intro x1 x2 x3 x4 sg; exact qJ_none
  | succ n ih =>
    intro x1 x2 x3 x4 sg
    unfold fX4_rest_21
    refine q_iload (pc := 21) dX4_rest_21 rfl ?_
    refine q_aload_n (pc := 23) dX4_rest_23 rfl ?_
    refine qg_4_1 (pc := 24) dX4_rest_24 h0 lf_X4_13 ?_
    refine q_icmp_gt (pc := 27) 51 dX4_rest_27 (by decide) ?_ ?_
    · refine q_iinc (pc := 51) 1 dX4_rest_51 rfl (by decide) (by decide) ?_
      refine q_goto (pc := 54) 4 dX4_rest_54 (by decide) ?_
      refine qJ_weak [some (.ref (b + k0)), some (.int x1), some (.int x2), some (.int ((x3 + 1))), none] ⟨rfl, rfl, rfl, rfl, trivial⟩ ?_
      exact hc4 x1 x2 ((x3 + 1)) sg
    refine q_iload_n (pc := 30) dX4_rest_30 rfl ?_
    refine q_aload_n (pc := 31) dX4_rest_31 rfl ?_
    refine qg_4_4 (pc := 32) dX4_rest_32 h0 lf_X4_22 ?_
    refine q_bipush (pc := 35) 9 dX4_rest_35 (by decide) ?_
    refine q_iload_n (pc := 37) dX4_rest_37 rfl ?_
    refine q_imul (pc := 38) dX4_rest_38 ?_
    refine q_iload (pc := 39) dX4_rest_39 rfl ?_
    refine q_iadd (pc := 41) dX4_rest_41 ?_
    refine q_iald (pc := 42) dX4_rest_42 (qch_4_4 hK h0) ?_
    refine q_iadd (pc := 43) dX4_rest_43 ?_
    refine q_istore_n (pc := 44) dX4_rest_44 (by decide) ?_
    refine q_iinc (pc := 45) 1 dX4_rest_45 rfl (by decide) (by decide) ?_
    refine q_goto (pc := 48) 21 dX4_rest_48 (by decide) ?_
    exact ih x1 ((x2 + (sg (k0 + 1) (Int32.toNatClampNeg ((9 * x3) + x4))))) x3 ((x4 + 1)) sg
def fX4_rest_4 (k0 : Nat) : Nat → Int32 → Int32 → Int32 → qSt → qR
  | 0, _, _, _, _ => none
  | n + 1, x1, x2, x3, sg =>
    if (sg k0 0) ≤ x3 then
      some (x2, sg)
    else
    qb (fX4_gone x1 x3 sg) fun r1 s2 =>
    fX4_rest_21 k0 (fun z1 z2 z3 sg => fX4_rest_4 k0 n z1 z2 z3 sg) qfu x1 x2 x3 ((r1 + 1)) s2
set_option maxRecDepth 20000 in
set_option maxHeartbeats 4000000 in
theorem tX4_rest_4 {b : Nat} {K : List Nat} (hK : qOk K) {k0 : Nat} (h0 : qIn K k0 4) : ∀ (n : Nat) (x1 x2 x3 : Int32) (sg : qSt), qJ RX4 cX4_rest 5 2 41 false (fun _ _ => True) b K 4 [some (.ref (b + k0)), some (.int x1), some (.int x2), some (.int x3), none] [] sg (fX4_rest_4 k0 n x1 x2 x3 sg) := by
  intro n
  induction n with
  | zero => intro x1 x2 x3 sg; exact qJ_none
  | succ n ih =>
    intro x1 x2 x3 sg
    unfold fX4_rest_4
    refine q_iload_n (pc := 4) dX4_rest_4 rfl ?_
    refine q_aload_n (pc := 5) dX4_rest_5 rfl ?_
    refine qg_4_0 (pc := 6) dX4_rest_6 h0 lf_X4_7 ?_
    refine q_icmp_ge (pc := 9) 57 dX4_rest_9 (by decide) ?_ ?_
    · refine q_iload_n (pc := 57) dX4_rest_57 rfl ?_
      exact q_ireturn (pc := 58) dX4_rest_58
    refine q_iload_n (pc := 12) dX4_rest_12 rfl ?_
    refine q_iload_n (pc := 13) dX4_rest_13 rfl ?_
    refine q_callSi (pc := 14) [.int x1, .int x3] dX4_rest_14 lm_X4_79 yX4_gone_ok yX4_gone_in (sX4_gone hK x1 x3 sg) rfl rfl (Nat.le_of_ble_eq_true rfl) ⟨by decide, by decide⟩ (fun r1 s2 => ?_)
    refine q_iconst (pc := 17) 1 dX4_rest_17 (by decide) ?_
    refine q_iadd (pc := 18) dX4_rest_18 ?_
    refine q_istore (pc := 19) dX4_rest_19 (by decide) ?_
    exact tX4_rest_21 hK h0 (fun z1 z2 z3 sg => ih z1 z2 z3 sg) qfu x1 x2 x3 ((r1 + 1)) s2
def fX4_rest (k0 : Nat) (x1 : Int32) (sg : qSt) : qR :=
  fX4_rest_4 k0 qfu x1 0 0 sg
set_option maxRecDepth 20000 in
set_option maxHeartbeats 4000000 in
theorem sX4_rest {b : Nat} {K : List Nat} (hK : qOk K) {k0 : Nat} (h0 : qIn K k0 4) (x1 : Int32) (sg : qSt) : qS yX4_rest cX4_rest 5 (some .int) 2 41 b K [.ref (b + k0), .int x1] sg (fX4_rest k0 x1 sg) := by
  refine qS_of (own := RX4) rfl (by decide) hK.1 (by simp [Value.category]) (Nat.le_of_ble_eq_true rfl) (fun z _ ty h => by cases h; exact vp_nar_int _) ?_
  show qJ RX4 cX4_rest 5 2 41 false (fun _ _ => True) b K 0 [some (.ref (b + k0)), some (.int x1), none, none, none] [] sg (fX4_rest k0 x1 sg)
  unfold fX4_rest
  refine q_iconst (pc := 0) 0 dX4_rest_0 (by decide) ?_
  refine q_istore_n (pc := 1) dX4_rest_1 (by decide) ?_
  refine q_iconst (pc := 2) 0 dX4_rest_2 (by decide) ?_
  refine q_istore_n (pc := 3) dX4_rest_3 (by decide) ?_
  exact tX4_rest_4 hK h0 qfu x1 0 0 sg
-- LineSearchModel.adds(II)I
def fX4_adds (k0 : Nat) (x1 x2 : Int32) (sg : qSt) : qR :=
  qb (fX4_rest k0 x1 sg) fun r1 s2 =>
  some (((x2 * ((sg k0 2) + (sg k0 3))) * r1), s2)
set_option maxRecDepth 20000 in
set_option maxHeartbeats 4000000 in
theorem sX4_adds {b : Nat} {K : List Nat} (hK : qOk K) {k0 : Nat} (h0 : qIn K k0 4) (x1 x2 : Int32) (sg : qSt) : qS yX4_adds cX4_adds 3 (some .int) 3 65 b K [.ref (b + k0), .int x1, .int x2] sg (fX4_adds k0 x1 x2 sg) := by
  refine qS_of (own := RX4) rfl (by decide) hK.1 (by simp [Value.category]) (Nat.le_of_ble_eq_true rfl) (fun z _ ty h => by cases h; exact vp_nar_int _) ?_
  show qJ RX4 cX4_adds 3 3 65 false (fun _ _ => True) b K 0 [some (.ref (b + k0)), some (.int x1), some (.int x2)] [] sg (fX4_adds k0 x1 x2 sg)
  unfold fX4_adds
  refine q_iload_n (pc := 0) dX4_adds_0 rfl ?_
  refine q_aload_n (pc := 1) dX4_adds_1 rfl ?_
  refine qg_4_2 (pc := 2) dX4_adds_2 h0 lf_X4_16 ?_
  refine q_aload_n (pc := 5) dX4_adds_5 rfl ?_
  refine qg_4_3 (pc := 6) dX4_adds_6 h0 lf_X4_19 ?_
  refine q_iadd (pc := 9) dX4_adds_9 ?_
  refine q_imul (pc := 10) dX4_adds_10 ?_
  refine q_aload_n (pc := 11) dX4_adds_11 rfl ?_
  refine q_iload_n (pc := 12) dX4_adds_12 rfl ?_
  refine q_callVi (pc := 13) [.int x1] dX4_adds_13 lm_X4_82 yX4_rest_ok yX4_rest_in h0 (by decide) rfl (sX4_rest hK h0 x1 sg) rfl rfl (Nat.le_of_ble_eq_true rfl) ⟨by decide, by decide⟩ (fun r1 s2 => ?_)
  refine q_imul (pc := 16) dX4_adds_16 ?_
  exact q_ireturn (pc := 17) dX4_adds_17
-- LineSearchModel.layLeast()V
def fX4_layLeast_55 (k0 : Nat) (c39 : Int32 → Int32 → qSt → qR) : Nat → Int32 → Int32 → Int32 → qSt → qR
  | 0, _, _, _, _ => none
  | n + 1, x1, x2, x3, sg =>
    if (sg k0 1) < x3 then
      c39 x1 ((x2 + 1)) sg
    else
    qb (fX4_gone x1 x2 sg) fun r1 s2 =>
    qb (fX4_nines x2 s2) fun r3 s4 =>
    qb (fX4_adds k0 (x1 + ((x3 - r1) * r3)) x3 s4) fun r5 s6 =>
    if qin (x1 + ((x3 - r1) * r3)) (qlen (k0 + 4)) then
    if qin x1 (qlen (k0 + 4)) then
    if (s6 (k0 + 4) (Int32.toNatClampNeg x1)) ≤ (r5 + (s6 (k0 + 4) (Int32.toNatClampNeg (x1 + ((x3 - r1) * r3))))) then
      if qin x1 (qlen (k0 + 4)) then
      if qin x1 (qlen (k0 + 4)) then
      fX4_layLeast_55 k0 c39 n x1 x2 ((x3 + 1)) (qset s6 (k0 + 4) (Int32.toNatClampNeg x1) (s6 (k0 + 4) (Int32.toNatClampNeg x1)))
      else none
      else none
    else
    if qin x1 (qlen (k0 + 4)) then
    fX4_layLeast_55 k0 c39 n x1 x2 ((x3 + 1)) (qset s6 (k0 + 4) (Int32.toNatClampNeg x1) (r5 + (s6 (k0 + 4) (Int32.toNatClampNeg (x1 + ((x3 - r1) * r3))))))
    else none
    else none
    else none
set_option maxRecDepth 20000 in
set_option maxHeartbeats 4000000 in
theorem tX4_layLeast_55 {b : Nat} {K : List Nat} (hK : qOk K) {k0 : Nat} {c39 : Int32 → Int32 → qSt → qR} (h0 : qIn K k0 4) (hc39 : ∀ (x1 x2 : Int32) (sg : qSt), qJ RX4 cX4_layLeast 6 4 87 true (fun _ _ => True) b K 39 [some (.ref (b + k0)), some (.int x1), some (.int x2), none, none, none] [] sg (c39 x1 x2 sg)) : ∀ (n : Nat) (x1 x2 x3 : Int32) (sg : qSt), qJ RX4 cX4_layLeast 6 4 87 true (fun _ _ => True) b K 55 [some (.ref (b + k0)), some (.int x1), some (.int x2), some (.int x3), none, none] [] sg (fX4_layLeast_55 k0 c39 n x1 x2 x3 sg) := by
  intro n
  induction n with
  | zero => intro x1 x2 x3 sg; exact qJ_none
  | succ n ih =>
    intro x1 x2 x3 sg
    unfold fX4_layLeast_55
    refine q_iload_n (pc := 55) dX4_layLeast_55 rfl ?_
    refine q_aload_n (pc := 56) dX4_layLeast_56 rfl ?_
    refine qg_4_1 (pc := 57) dX4_layLeast_57 h0 lf_X4_13 ?_
    refine q_icmp_gt (pc := 60) 130 dX4_layLeast_60 (by decide) ?_ ?_
    · refine q_iinc (pc := 130) 1 dX4_layLeast_130 rfl (by decide) (by decide) ?_
      refine q_goto (pc := 133) 39 dX4_layLeast_133 (by decide) ?_
      refine qJ_weak [some (.ref (b + k0)), some (.int x1), some (.int ((x2 + 1))), none, none, none] ⟨rfl, rfl, rfl, trivial⟩ ?_
      exact hc39 x1 ((x2 + 1)) sg
    refine q_iload_n (pc := 63) dX4_layLeast_63 rfl ?_
    refine q_iload_n (pc := 64) dX4_layLeast_64 rfl ?_
    refine q_iload_n (pc := 65) dX4_layLeast_65 rfl ?_
    refine q_iload_n (pc := 66) dX4_layLeast_66 rfl ?_
    refine q_callSi (pc := 67) [.int x1, .int x2] dX4_layLeast_67 lm_X4_79 yX4_gone_ok yX4_gone_in (sX4_gone hK x1 x2 sg) rfl rfl (Nat.le_of_ble_eq_true rfl) ⟨by decide, by decide⟩ (fun r1 s2 => ?_)
    refine q_isub (pc := 70) dX4_layLeast_70 ?_
    refine q_iload_n (pc := 71) dX4_layLeast_71 rfl ?_
    refine q_callSi (pc := 72) [.int x2] dX4_layLeast_72 lm_X4_76 yX4_nines_ok yX4_nines_in (sX4_nines hK x2 s2) rfl rfl (Nat.le_of_ble_eq_true rfl) ⟨by decide, by decide⟩ (fun r3 s4 => ?_)
    refine q_imul (pc := 75) dX4_layLeast_75 ?_
    refine q_iadd (pc := 76) dX4_layLeast_76 ?_
    refine q_istore (pc := 77) dX4_layLeast_77 (by decide) ?_
    refine q_aload_n (pc := 79) dX4_layLeast_79 rfl ?_
    refine q_iload (pc := 80) dX4_layLeast_80 rfl ?_
    refine q_iload_n (pc := 82) dX4_layLeast_82 rfl ?_
    refine q_callVi (pc := 83) [.int ((x1 + ((x3 - r1) * r3))), .int x3] dX4_layLeast_83 lm_X4_94 yX4_adds_ok yX4_adds_in h0 (by decide) rfl (sX4_adds hK h0 (x1 + ((x3 - r1) * r3)) x3 s4) rfl rfl (Nat.le_of_ble_eq_true rfl) ⟨by decide, by decide⟩ (fun r5 s6 => ?_)
    refine q_aload_n (pc := 86) dX4_layLeast_86 rfl ?_
    refine qg_4_8 (pc := 87) dX4_layLeast_87 h0 lf_X4_32 ?_
    refine q_iload (pc := 90) dX4_layLeast_90 rfl ?_
    refine q_iald (pc := 92) dX4_layLeast_92 (qch_4_8 hK h0) ?_
    refine q_iadd (pc := 93) dX4_layLeast_93 ?_
    refine q_istore (pc := 94) dX4_layLeast_94 (by decide) ?_
    refine q_aload_n (pc := 96) dX4_layLeast_96 rfl ?_
    refine qg_4_8 (pc := 97) dX4_layLeast_97 h0 lf_X4_32 ?_
    refine q_iload_n (pc := 100) dX4_layLeast_100 rfl ?_
    refine q_iload (pc := 101) dX4_layLeast_101 rfl ?_
    refine q_aload_n (pc := 103) dX4_layLeast_103 rfl ?_
    refine qg_4_8 (pc := 104) dX4_layLeast_104 h0 lf_X4_32 ?_
    refine q_iload_n (pc := 107) dX4_layLeast_107 rfl ?_
    refine q_iald (pc := 108) dX4_layLeast_108 (qch_4_8 hK h0) ?_
    refine q_icmp_ge (pc := 109) 117 dX4_layLeast_109 (by decide) ?_ ?_
    · refine q_aload_n (pc := 117) dX4_layLeast_117 rfl ?_
      refine qg_4_8 (pc := 118) dX4_layLeast_118 h0 lf_X4_32 ?_
      refine q_iload_n (pc := 121) dX4_layLeast_121 rfl ?_
      refine q_iald (pc := 122) dX4_layLeast_122 (qch_4_8 hK h0) ?_
      refine q_iast (pc := 123) dX4_layLeast_123 (qch_4_8 hK h0) ?_
      refine q_iinc (pc := 124) 1 dX4_layLeast_124 rfl (by decide) (by decide) ?_
      refine q_goto (pc := 127) 55 dX4_layLeast_127 (by decide) ?_
      refine qJ_weak [some (.ref (b + k0)), some (.int x1), some (.int x2), some (.int ((x3 + 1))), none, none] ⟨rfl, rfl, rfl, rfl, trivial⟩ ?_
      exact ih x1 x2 ((x3 + 1)) (qset s6 (k0 + 4) (Int32.toNatClampNeg x1) (s6 (k0 + 4) (Int32.toNatClampNeg x1)))
    refine q_iload (pc := 112) dX4_layLeast_112 rfl ?_
    refine q_goto (pc := 114) 123 dX4_layLeast_114 (by decide) ?_
    refine q_iast (pc := 123) dX4_layLeast_123 (qch_4_8 hK h0) ?_
    refine q_iinc (pc := 124) 1 dX4_layLeast_124 rfl (by decide) (by decide) ?_
    refine q_goto (pc := 127) 55 dX4_layLeast_127 (by decide) ?_
    refine qJ_weak [some (.ref (b + k0)), some (.int x1), some (.int x2), some (.int ((x3 + 1))), none, none] ⟨rfl, rfl, rfl, rfl, trivial⟩ ?_
    exact ih x1 x2 ((x3 + 1)) (qset s6 (k0 + 4) (Int32.toNatClampNeg x1) (r5 + (s6 (k0 + 4) (Int32.toNatClampNeg (x1 + ((x3 - r1) * r3))))))
def fX4_layLeast_39 (k0 : Nat) (c5 : Int32 → qSt → qR) : Nat → Int32 → Int32 → qSt → qR
  | 0, _, _, _ => none
  | n + 1, x1, x2, sg =>
    if (sg k0 0) ≤ x2 then
      c5 ((x1 + (-1))) sg
    else
    qb (fX4_gone x1 x2 sg) fun r1 s2 =>
    fX4_layLeast_55 k0 (fun z1 z2 sg => fX4_layLeast_39 k0 c5 n z1 z2 sg) qfu x1 x2 ((r1 + 1)) s2
set_option maxRecDepth 20000 in
set_option maxHeartbeats 4000000 in
theorem tX4_layLeast_39 {b : Nat} {K : List Nat} (hK : qOk K) {k0 : Nat} {c5 : Int32 → qSt → qR} (h0 : qIn K k0 4) (hc5 : ∀ (x1 : Int32) (sg : qSt), qJ RX4 cX4_layLeast 6 4 87 true (fun _ _ => True) b K 5 [some (.ref (b + k0)), some (.int x1), none, none, none, none] [] sg (c5 x1 sg)) : ∀ (n : Nat) (x1 x2 : Int32) (sg : qSt), qJ RX4 cX4_layLeast 6 4 87 true (fun _ _ => True) b K 39 [some (.ref (b + k0)), some (.int x1), some (.int x2), none, none, none] [] sg (fX4_layLeast_39 k0 c5 n x1 x2 sg) := by
  intro n
  induction n with
  | zero => intro x1 x2 sg; exact qJ_none
  | succ n ih =>
    intro x1 x2 sg
    unfold fX4_layLeast_39
    refine q_iload_n (pc := 39) dX4_layLeast_39 rfl ?_
    refine q_aload_n (pc := 40) dX4_layLeast_40 rfl ?_
    refine qg_4_0 (pc := 41) dX4_layLeast_41 h0 lf_X4_7 ?_
    refine q_icmp_ge (pc := 44) 136 dX4_layLeast_44 (by decide) ?_ ?_
    · refine q_iinc (pc := 136) (-1) dX4_layLeast_136 rfl (by decide) (by decide) ?_
      refine q_goto (pc := 139) 5 dX4_layLeast_139 (by decide) ?_
      refine qJ_weak [some (.ref (b + k0)), some (.int ((x1 + (-1)))), none, none, none, none] ⟨rfl, rfl, trivial⟩ ?_
      exact hc5 ((x1 + (-1))) sg
    refine q_iload_n (pc := 47) dX4_layLeast_47 rfl ?_
    refine q_iload_n (pc := 48) dX4_layLeast_48 rfl ?_
    refine q_callSi (pc := 49) [.int x1, .int x2] dX4_layLeast_49 lm_X4_79 yX4_gone_ok yX4_gone_in (sX4_gone hK x1 x2 sg) rfl rfl (Nat.le_of_ble_eq_true rfl) ⟨by decide, by decide⟩ (fun r1 s2 => ?_)
    refine q_iconst (pc := 52) 1 dX4_layLeast_52 (by decide) ?_
    refine q_iadd (pc := 53) dX4_layLeast_53 ?_
    refine q_istore_n (pc := 54) dX4_layLeast_54 (by decide) ?_
    exact tX4_layLeast_55 hK h0 (fun z1 z2 sg => ih z1 z2 sg) qfu x1 x2 ((r1 + 1)) s2
def fX4_layLeast_5 (k0 : Nat) : Nat → Int32 → qSt → qR
  | 0, _, _ => none
  | n + 1, x1, sg =>
    if x1 < 0 then
      some (0, sg)
    else
    qb (fX4_isState k0 x1 sg) fun r1 s2 =>
    if r1 = 0 then
      fX4_layLeast_5 k0 n ((x1 + (-1))) s2
    else
    qb (fX4_lastState k0 s2) fun r3 s4 =>
    if x1 = r3 then
      if qin x1 (qlen (k0 + 4)) then
      fX4_layLeast_39 k0 (fun z1 sg => fX4_layLeast_5 k0 n z1 sg) qfu x1 0 (qset s4 (k0 + 4) (Int32.toNatClampNeg x1) 0)
      else none
    else
    if qin x1 (qlen (k0 + 4)) then
    fX4_layLeast_39 k0 (fun z1 sg => fX4_layLeast_5 k0 n z1 sg) qfu x1 0 (qset s4 (k0 + 4) (Int32.toNatClampNeg x1) 1000000000)
    else none
set_option maxRecDepth 20000 in
set_option maxHeartbeats 4000000 in
theorem tX4_layLeast_5 {b : Nat} {K : List Nat} (hK : qOk K) {k0 : Nat} (h0 : qIn K k0 4) : ∀ (n : Nat) (x1 : Int32) (sg : qSt), qJ RX4 cX4_layLeast 6 4 87 true (fun _ _ => True) b K 5 [some (.ref (b + k0)), some (.int x1), none, none, none, none] [] sg (fX4_layLeast_5 k0 n x1 sg) := by
  intro n
  induction n with
  | zero => intro x1 sg; exact qJ_none
  | succ n ih =>
    intro x1 sg
    unfold fX4_layLeast_5
    refine q_iload_n (pc := 5) dX4_layLeast_5 rfl ?_
    refine q_if_lt (pc := 6) 142 dX4_layLeast_6 (by decide) ?_ ?_
    · exact q_return (pc := 142) dX4_layLeast_142
    refine q_aload_n (pc := 9) dX4_layLeast_9 rfl ?_
    refine q_iload_n (pc := 10) dX4_layLeast_10 rfl ?_
    refine q_callVi (pc := 11) [.int x1] dX4_layLeast_11 lm_X4_89 yX4_isState_ok yX4_isState_in h0 (by decide) rfl (sX4_isState hK h0 x1 sg) rfl rfl (Nat.le_of_ble_eq_true rfl) ⟨by decide, by decide⟩ (fun r1 s2 => ?_)
    refine q_if_eq (pc := 14) 136 dX4_layLeast_14 (by decide) ?_ ?_
    · refine q_iinc (pc := 136) (-1) dX4_layLeast_136 rfl (by decide) (by decide) ?_
      refine q_goto (pc := 139) 5 dX4_layLeast_139 (by decide) ?_
      exact ih ((x1 + (-1))) s2
    refine q_aload_n (pc := 17) dX4_layLeast_17 rfl ?_
    refine qg_4_8 (pc := 18) dX4_layLeast_18 h0 lf_X4_32 ?_
    refine q_iload_n (pc := 21) dX4_layLeast_21 rfl ?_
    refine q_iload_n (pc := 22) dX4_layLeast_22 rfl ?_
    refine q_aload_n (pc := 23) dX4_layLeast_23 rfl ?_
    refine q_callVi (pc := 24) [] dX4_layLeast_24 lm_X4_85 yX4_lastState_ok yX4_lastState_in h0 (by decide) rfl (sX4_lastState hK h0 s2) rfl rfl (Nat.le_of_ble_eq_true rfl) ⟨by decide, by decide⟩ (fun r3 s4 => ?_)
    refine q_icmp_ne (pc := 27) 34 dX4_layLeast_27 (by decide) ?_ ?_
    · refine q_ldc (pc := 34) 1000000000 dX4_layLeast_34 lc_X4_93 ?_
      refine q_iast (pc := 36) dX4_layLeast_36 (qch_4_8 hK h0) ?_
      refine q_iconst (pc := 37) 0 dX4_layLeast_37 (by decide) ?_
      refine q_istore_n (pc := 38) dX4_layLeast_38 (by decide) ?_
      exact tX4_layLeast_39 hK h0 (fun z1 sg => ih z1 sg) qfu x1 0 (qset s4 (k0 + 4) (Int32.toNatClampNeg x1) 1000000000)
    refine q_iconst (pc := 30) 0 dX4_layLeast_30 (by decide) ?_
    refine q_goto (pc := 31) 36 dX4_layLeast_31 (by decide) ?_
    refine q_iast (pc := 36) dX4_layLeast_36 (qch_4_8 hK h0) ?_
    refine q_iconst (pc := 37) 0 dX4_layLeast_37 (by decide) ?_
    refine q_istore_n (pc := 38) dX4_layLeast_38 (by decide) ?_
    exact tX4_layLeast_39 hK h0 (fun z1 sg => ih z1 sg) qfu x1 0 (qset s4 (k0 + 4) (Int32.toNatClampNeg x1) 0)
def fX4_layLeast (k0 : Nat) (sg : qSt) : qR :=
  qb (fX4_lastState k0 sg) fun r1 s2 =>
  fX4_layLeast_5 k0 qfu r1 s2
set_option maxRecDepth 20000 in
set_option maxHeartbeats 4000000 in
theorem sX4_layLeast {b : Nat} {K : List Nat} (hK : qOk K) {k0 : Nat} (h0 : qIn K k0 4) (sg : qSt) : qS yX4_layLeast cX4_layLeast 6 none 4 87 b K [.ref (b + k0)] sg (fX4_layLeast k0 sg) := by
  refine qS_of (own := RX4) rfl (by decide) hK.1 (by simp [Value.category]) (Nat.le_of_ble_eq_true rfl) (fun z _ ty h => by cases h) ?_
  show qJ RX4 cX4_layLeast 6 4 87 true (fun _ _ => True) b K 0 [some (.ref (b + k0)), none, none, none, none, none] [] sg (fX4_layLeast k0 sg)
  unfold fX4_layLeast
  refine q_aload_n (pc := 0) dX4_layLeast_0 rfl ?_
  refine q_callVi (pc := 1) [] dX4_layLeast_1 lm_X4_85 yX4_lastState_ok yX4_lastState_in h0 (by decide) rfl (sX4_lastState hK h0 sg) rfl rfl (Nat.le_of_ble_eq_true rfl) ⟨by decide, by decide⟩ (fun r1 s2 => ?_)
  refine q_istore_n (pc := 4) dX4_layLeast_4 (by decide) ?_
  exact tX4_layLeast_5 hK h0 qfu r1 s2
-- LineSearchModel.leastMean()I
def fX4_leastMean_23 (k0 : Nat) (c13 : Int32 → Int32 → qSt → qR) : Nat → Int32 → Int32 → Int32 → qSt → qR
  | 0, _, _, _, _ => none
  | n + 1, x1, x2, x3, sg =>
    if (sg k0 1) < x3 then
      c13 x1 ((x2 + 1)) sg
    else
    if qin ((9 * x2) + x3) (qlen (k0 + 1)) then
    fX4_leastMean_23 k0 c13 n ((x1 + (((sg (k0 + 1) (Int32.toNatClampNeg ((9 * x2) + x3))) * (sg k0 2)) * x3))) x2 ((x3 + 1)) sg
    else none
set_option maxRecDepth 20000 in
set_option maxHeartbeats 4000000 in
theorem tX4_leastMean_23 {b : Nat} {K : List Nat} (hK : qOk K) {k0 : Nat} {c13 : Int32 → Int32 → qSt → qR} (h0 : qIn K k0 4) (hc13 : ∀ (x1 x2 : Int32) (sg : qSt), qJ RX4 cX4_leastMean 4 5 112 false (fun _ _ => True) b K 13 [some (.ref (b + k0)), some (.int x1), some (.int x2), none] [] sg (c13 x1 x2 sg)) : ∀ (n : Nat) (x1 x2 x3 : Int32) (sg : qSt), qJ RX4 cX4_leastMean 4 5 112 false (fun _ _ => True) b K 23 [some (.ref (b + k0)), some (.int x1), some (.int x2), some (.int x3)] [] sg (fX4_leastMean_23 k0 c13 n x1 x2 x3 sg) := by
  intro n
  induction n with
  | zero => intro x1 x2 x3 sg; exact qJ_none
  | succ n ih =>
    intro x1 x2 x3 sg
    unfold fX4_leastMean_23
    refine q_iload_n (pc := 23) dX4_leastMean_23 rfl ?_
    refine q_aload_n (pc := 24) dX4_leastMean_24 rfl ?_
    refine qg_4_1 (pc := 25) dX4_leastMean_25 h0 lf_X4_13 ?_
    refine q_icmp_gt (pc := 28) 58 dX4_leastMean_28 (by decide) ?_ ?_
    · refine q_iinc (pc := 58) 1 dX4_leastMean_58 rfl (by decide) (by decide) ?_
      refine q_goto (pc := 61) 13 dX4_leastMean_61 (by decide) ?_
      refine qJ_weak [some (.ref (b + k0)), some (.int x1), some (.int ((x2 + 1))), none] ⟨rfl, rfl, rfl, trivial⟩ ?_
      exact hc13 x1 ((x2 + 1)) sg
    refine q_iload_n (pc := 31) dX4_leastMean_31 rfl ?_
    refine q_aload_n (pc := 32) dX4_leastMean_32 rfl ?_
    refine qg_4_4 (pc := 33) dX4_leastMean_33 h0 lf_X4_22 ?_
    refine q_bipush (pc := 36) 9 dX4_leastMean_36 (by decide) ?_
    refine q_iload_n (pc := 38) dX4_leastMean_38 rfl ?_
    refine q_imul (pc := 39) dX4_leastMean_39 ?_
    refine q_iload_n (pc := 40) dX4_leastMean_40 rfl ?_
    refine q_iadd (pc := 41) dX4_leastMean_41 ?_
    refine q_iald (pc := 42) dX4_leastMean_42 (qch_4_4 hK h0) ?_
    refine q_aload_n (pc := 43) dX4_leastMean_43 rfl ?_
    refine qg_4_2 (pc := 44) dX4_leastMean_44 h0 lf_X4_16 ?_
    refine q_imul (pc := 47) dX4_leastMean_47 ?_
    refine q_iload_n (pc := 48) dX4_leastMean_48 rfl ?_
    refine q_imul (pc := 49) dX4_leastMean_49 ?_
    refine q_iadd (pc := 50) dX4_leastMean_50 ?_
    refine q_istore_n (pc := 51) dX4_leastMean_51 (by decide) ?_
    refine q_iinc (pc := 52) 1 dX4_leastMean_52 rfl (by decide) (by decide) ?_
    refine q_goto (pc := 55) 23 dX4_leastMean_55 (by decide) ?_
    exact ih ((x1 + (((sg (k0 + 1) (Int32.toNatClampNeg ((9 * x2) + x3))) * (sg k0 2)) * x3))) x2 ((x3 + 1)) sg
def fX4_leastMean_13 (k0 : Nat) : Nat → Int32 → Int32 → qSt → qR
  | 0, _, _, _ => none
  | n + 1, x1, x2, sg =>
    if (sg k0 0) ≤ x2 then
      some (x1, sg)
    else
    fX4_leastMean_23 k0 (fun z1 z2 sg => fX4_leastMean_13 k0 n z1 z2 sg) qfu x1 x2 1 sg
set_option maxRecDepth 20000 in
set_option maxHeartbeats 4000000 in
theorem tX4_leastMean_13 {b : Nat} {K : List Nat} (hK : qOk K) {k0 : Nat} (h0 : qIn K k0 4) : ∀ (n : Nat) (x1 x2 : Int32) (sg : qSt), qJ RX4 cX4_leastMean 4 5 112 false (fun _ _ => True) b K 13 [some (.ref (b + k0)), some (.int x1), some (.int x2), none] [] sg (fX4_leastMean_13 k0 n x1 x2 sg) := by
  intro n
  induction n with
  | zero => intro x1 x2 sg; exact qJ_none
  | succ n ih =>
    intro x1 x2 sg
    unfold fX4_leastMean_13
    refine q_iload_n (pc := 13) dX4_leastMean_13 rfl ?_
    refine q_aload_n (pc := 14) dX4_leastMean_14 rfl ?_
    refine qg_4_0 (pc := 15) dX4_leastMean_15 h0 lf_X4_7 ?_
    refine q_icmp_ge (pc := 18) 64 dX4_leastMean_18 (by decide) ?_ ?_
    · refine q_iload_n (pc := 64) dX4_leastMean_64 rfl ?_
      exact q_ireturn (pc := 65) dX4_leastMean_65
    refine q_iconst (pc := 21) 1 dX4_leastMean_21 (by decide) ?_
    refine q_istore_n (pc := 22) dX4_leastMean_22 (by decide) ?_
    exact tX4_leastMean_23 hK h0 (fun z1 z2 sg => ih z1 z2 sg) qfu x1 x2 1 sg
def fX4_leastMean (k0 : Nat) (sg : qSt) : qR :=
  qb (fX4_layLeast k0 sg) fun r1 s2 =>
  if qin 0 (qlen (k0 + 4)) then
  fX4_leastMean_13 k0 qfu ((s2 (k0 + 4) (Int32.toNatClampNeg 0))) 0 s2
  else none
set_option maxRecDepth 20000 in
set_option maxHeartbeats 4000000 in
theorem sX4_leastMean {b : Nat} {K : List Nat} (hK : qOk K) {k0 : Nat} (h0 : qIn K k0 4) (sg : qSt) : qS yX4_leastMean cX4_leastMean 4 (some .int) 5 112 b K [.ref (b + k0)] sg (fX4_leastMean k0 sg) := by
  refine qS_of (own := RX4) rfl (by decide) hK.1 (by simp [Value.category]) (Nat.le_of_ble_eq_true rfl) (fun z _ ty h => by cases h; exact vp_nar_int _) ?_
  show qJ RX4 cX4_leastMean 4 5 112 false (fun _ _ => True) b K 0 [some (.ref (b + k0)), none, none, none] [] sg (fX4_leastMean k0 sg)
  unfold fX4_leastMean
  refine q_aload_n (pc := 0) dX4_leastMean_0 rfl ?_
  refine q_callVv (pc := 1) [] dX4_leastMean_1 lm_X4_97 yX4_layLeast_ok yX4_layLeast_in h0 (by decide) rfl (sX4_layLeast hK h0 sg) rfl rfl (Nat.le_of_ble_eq_true rfl) ⟨by decide, by decide⟩ (fun r1 s2 => ?_)
  refine q_aload_n (pc := 4) dX4_leastMean_4 rfl ?_
  refine qg_4_8 (pc := 5) dX4_leastMean_5 h0 lf_X4_32 ?_
  refine q_iconst (pc := 8) 0 dX4_leastMean_8 (by decide) ?_
  refine q_iald (pc := 9) dX4_leastMean_9 (qch_4_8 hK h0) ?_
  refine q_istore_n (pc := 10) dX4_leastMean_10 (by decide) ?_
  refine q_iconst (pc := 11) 0 dX4_leastMean_11 (by decide) ?_
  refine q_istore_n (pc := 12) dX4_leastMean_12 (by decide) ?_
  exact tX4_leastMean_13 hK h0 qfu ((s2 (k0 + 4) (Int32.toNatClampNeg 0))) 0 s2
-- LineSearchModel.layMeanPlan()V
def fX4_layMeanPlan_44 (k0 : Nat) (c23 : Int32 → Int32 → Int32 → qSt → qR) : Nat → Int32 → Int32 → Int32 → Int32 → qSt → qR
  | 0, _, _, _, _, _ => none
  | n + 1, x1, x2, x3, x4, sg =>
    if (sg k0 1) < x4 then
      c23 x1 x2 ((x3 + 1)) sg
    else
    if 0 ≤ x2 then
      c23 x1 x2 ((x3 + 1)) sg
    else
    qb (fX4_gone x1 x3 sg) fun r1 s2 =>
    qb (fX4_nines x3 s2) fun r3 s4 =>
    qb (fX4_adds k0 (x1 + ((x4 - r1) * r3)) x4 s4) fun r5 s6 =>
    if qin (x1 + ((x4 - r1) * r3)) (qlen (k0 + 4)) then
    if qin x1 (qlen (k0 + 4)) then
    if (r5 + (s6 (k0 + 4) (Int32.toNatClampNeg (x1 + ((x4 - r1) * r3))))) = (s6 (k0 + 4) (Int32.toNatClampNeg x1)) then
      if qin (s6 k0 10) (qlen (k0 + 6)) then
      fX4_layMeanPlan_44 k0 c23 n x1 ((x1 + ((x4 - r1) * r3))) x3 ((x4 + 1)) (qset s6 (k0 + 6) (Int32.toNatClampNeg (s6 k0 10)) ((10 * x3) + x4))
      else none
    else
    fX4_layMeanPlan_44 k0 c23 n x1 x2 x3 ((x4 + 1)) s6
    else none
    else none
set_option maxRecDepth 20000 in
set_option maxHeartbeats 4000000 in
theorem tX4_layMeanPlan_44 {b : Nat} {K : List Nat} (hK : qOk K) {k0 : Nat} {c23 : Int32 → Int32 → Int32 → qSt → qR} (h0 : qIn K k0 4) (hc23 : ∀ (x1 x2 x3 : Int32) (sg : qSt), qJ RX4 cX4_layMeanPlan 6 5 112 true (fun _ _ => True) b K 23 [some (.ref (b + k0)), some (.int x1), some (.int x2), some (.int x3), none, none] [] sg (c23 x1 x2 x3 sg)) : ∀ (n : Nat) (x1 x2 x3 x4 : Int32) (sg : qSt), qJ RX4 cX4_layMeanPlan 6 5 112 true (fun _ _ => True) b K 44 [some (.ref (b + k0)), some (.int x1), some (.int x2), some (.int x3), some (.int x4), none] [] sg (fX4_layMeanPlan_44 k0 c23 n x1 x2 x3 x4 sg) := by
  intro n
  induction n with
  | zero => intro x1 x2 x3 x4 sg; exact qJ_none
  | succ n ih =>
    intro x1 x2 x3 x4 sg
    unfold fX4_layMeanPlan_44
    refine q_iload (pc := 44) dX4_layMeanPlan_44 rfl ?_
    refine q_aload_n (pc := 46) dX4_layMeanPlan_46 rfl ?_
    refine qg_4_1 (pc := 47) dX4_layMeanPlan_47 h0 lf_X4_13 ?_
    refine q_icmp_gt (pc := 50) 124 dX4_layMeanPlan_50 (by decide) ?_ ?_
    · refine q_iinc (pc := 124) 1 dX4_layMeanPlan_124 rfl (by decide) (by decide) ?_
      refine q_goto (pc := 127) 23 dX4_layMeanPlan_127 (by decide) ?_
      refine qJ_weak [some (.ref (b + k0)), some (.int x1), some (.int x2), some (.int ((x3 + 1))), none, none] ⟨rfl, rfl, rfl, rfl, trivial⟩ ?_
      exact hc23 x1 x2 ((x3 + 1)) sg
    refine q_iload_n (pc := 53) dX4_layMeanPlan_53 rfl ?_
    refine q_if_ge (pc := 54) 124 dX4_layMeanPlan_54 (by decide) ?_ ?_
    · refine q_iinc (pc := 124) 1 dX4_layMeanPlan_124 rfl (by decide) (by decide) ?_
      refine q_goto (pc := 127) 23 dX4_layMeanPlan_127 (by decide) ?_
      refine qJ_weak [some (.ref (b + k0)), some (.int x1), some (.int x2), some (.int ((x3 + 1))), none, none] ⟨rfl, rfl, rfl, rfl, trivial⟩ ?_
      exact hc23 x1 x2 ((x3 + 1)) sg
    refine q_iload_n (pc := 57) dX4_layMeanPlan_57 rfl ?_
    refine q_iload (pc := 58) dX4_layMeanPlan_58 rfl ?_
    refine q_iload_n (pc := 60) dX4_layMeanPlan_60 rfl ?_
    refine q_iload_n (pc := 61) dX4_layMeanPlan_61 rfl ?_
    refine q_callSi (pc := 62) [.int x1, .int x3] dX4_layMeanPlan_62 lm_X4_79 yX4_gone_ok yX4_gone_in (sX4_gone hK x1 x3 sg) rfl rfl (Nat.le_of_ble_eq_true rfl) ⟨by decide, by decide⟩ (fun r1 s2 => ?_)
    refine q_isub (pc := 65) dX4_layMeanPlan_65 ?_
    refine q_iload_n (pc := 66) dX4_layMeanPlan_66 rfl ?_
    refine q_callSi (pc := 67) [.int x3] dX4_layMeanPlan_67 lm_X4_76 yX4_nines_ok yX4_nines_in (sX4_nines hK x3 s2) rfl rfl (Nat.le_of_ble_eq_true rfl) ⟨by decide, by decide⟩ (fun r3 s4 => ?_)
    refine q_imul (pc := 70) dX4_layMeanPlan_70 ?_
    refine q_iadd (pc := 71) dX4_layMeanPlan_71 ?_
    refine q_istore (pc := 72) dX4_layMeanPlan_72 (by decide) ?_
    refine q_aload_n (pc := 74) dX4_layMeanPlan_74 rfl ?_
    refine q_iload (pc := 75) dX4_layMeanPlan_75 rfl ?_
    refine q_iload (pc := 77) dX4_layMeanPlan_77 rfl ?_
    refine q_callVi (pc := 79) [.int ((x1 + ((x4 - r1) * r3))), .int x4] dX4_layMeanPlan_79 lm_X4_94 yX4_adds_ok yX4_adds_in h0 (by decide) rfl (sX4_adds hK h0 (x1 + ((x4 - r1) * r3)) x4 s4) rfl rfl (Nat.le_of_ble_eq_true rfl) ⟨by decide, by decide⟩ (fun r5 s6 => ?_)
    refine q_aload_n (pc := 82) dX4_layMeanPlan_82 rfl ?_
    refine qg_4_8 (pc := 83) dX4_layMeanPlan_83 h0 lf_X4_32 ?_
    refine q_iload (pc := 86) dX4_layMeanPlan_86 rfl ?_
    refine q_iald (pc := 88) dX4_layMeanPlan_88 (qch_4_8 hK h0) ?_
    refine q_iadd (pc := 89) dX4_layMeanPlan_89 ?_
    refine q_aload_n (pc := 90) dX4_layMeanPlan_90 rfl ?_
    refine qg_4_8 (pc := 91) dX4_layMeanPlan_91 h0 lf_X4_32 ?_
    refine q_iload_n (pc := 94) dX4_layMeanPlan_94 rfl ?_
    refine q_iald (pc := 95) dX4_layMeanPlan_95 (qch_4_8 hK h0) ?_
    refine q_icmp_ne (pc := 96) 118 dX4_layMeanPlan_96 (by decide) ?_ ?_
    · refine q_iinc (pc := 118) 1 dX4_layMeanPlan_118 rfl (by decide) (by decide) ?_
      refine q_goto (pc := 121) 44 dX4_layMeanPlan_121 (by decide) ?_
      refine qJ_weak [some (.ref (b + k0)), some (.int x1), some (.int x2), some (.int x3), some (.int ((x4 + 1))), none] ⟨rfl, rfl, rfl, rfl, rfl, trivial⟩ ?_
      exact ih x1 x2 x3 ((x4 + 1)) s6
    refine q_iload (pc := 99) dX4_layMeanPlan_99 rfl ?_
    refine q_istore_n (pc := 101) dX4_layMeanPlan_101 (by decide) ?_
    refine q_aload_n (pc := 102) dX4_layMeanPlan_102 rfl ?_
    refine qg_4_11 (pc := 103) dX4_layMeanPlan_103 h0 lf_X4_38 ?_
    refine q_aload_n (pc := 106) dX4_layMeanPlan_106 rfl ?_
    refine qg_4_10 (pc := 107) dX4_layMeanPlan_107 h0 lf_X4_100 ?_
    refine q_bipush (pc := 110) 10 dX4_layMeanPlan_110 (by decide) ?_
    refine q_iload_n (pc := 112) dX4_layMeanPlan_112 rfl ?_
    refine q_imul (pc := 113) dX4_layMeanPlan_113 ?_
    refine q_iload (pc := 114) dX4_layMeanPlan_114 rfl ?_
    refine q_iadd (pc := 116) dX4_layMeanPlan_116 ?_
    refine q_iast (pc := 117) dX4_layMeanPlan_117 (qch_4_11 hK h0) ?_
    refine q_iinc (pc := 118) 1 dX4_layMeanPlan_118 rfl (by decide) (by decide) ?_
    refine q_goto (pc := 121) 44 dX4_layMeanPlan_121 (by decide) ?_
    refine qJ_weak [some (.ref (b + k0)), some (.int x1), some (.int ((x1 + ((x4 - r1) * r3)))), some (.int x3), some (.int ((x4 + 1))), none] ⟨rfl, rfl, rfl, rfl, rfl, trivial⟩ ?_
    exact ih x1 ((x1 + ((x4 - r1) * r3))) x3 ((x4 + 1)) (qset s6 (k0 + 6) (Int32.toNatClampNeg (s6 k0 10)) ((10 * x3) + x4))
def fX4_layMeanPlan_130 (k0 : Nat) (c11 : Int32 → qSt → qR) (x2 : Int32) (sg : qSt) : qR :=
    c11 x2 (qset sg k0 10 ((sg k0 10) + 1))
set_option maxRecDepth 20000 in
set_option maxHeartbeats 4000000 in
theorem tX4_layMeanPlan_130 {b : Nat} {K : List Nat} (hK : qOk K) {k0 : Nat} {c11 : Int32 → qSt → qR} (h0 : qIn K k0 4) (hc11 : ∀ (x1 : Int32) (sg : qSt), qJ RX4 cX4_layMeanPlan 6 5 112 true (fun _ _ => True) b K 11 [some (.ref (b + k0)), some (.int x1), none, none, none, none] [] sg (c11 x1 sg)) : ∀ (x2 : Int32) (sg : qSt), qJ RX4 cX4_layMeanPlan 6 5 112 true (fun _ _ => True) b K 130 [some (.ref (b + k0)), none, some (.int x2), none, none, none] [] sg (fX4_layMeanPlan_130 k0 c11 x2 sg) := by
  intro x2 sg
  unfold fX4_layMeanPlan_130
  refine q_aload_n (pc := 130) dX4_layMeanPlan_130 rfl ?_
  refine q_dup (pc := 131) dX4_layMeanPlan_131 rfl ?_
  refine qg_4_10 (pc := 132) dX4_layMeanPlan_132 h0 lf_X4_100 ?_
  refine q_iconst (pc := 135) 1 dX4_layMeanPlan_135 (by decide) ?_
  refine q_iadd (pc := 136) dX4_layMeanPlan_136 ?_
  refine qp_4_10 (pc := 137) dX4_layMeanPlan_137 h0 lf_X4_100 ?_
  refine q_iload_n (pc := 140) dX4_layMeanPlan_140 rfl ?_
  refine q_istore_n (pc := 141) dX4_layMeanPlan_141 (by decide) ?_
  refine q_goto (pc := 142) 11 dX4_layMeanPlan_142 (by decide) ?_
  refine qJ_weak [some (.ref (b + k0)), some (.int x2), none, none, none, none] ⟨rfl, rfl, trivial⟩ ?_
  exact hc11 x2 (qset sg k0 10 ((sg k0 10) + 1))
def fX4_layMeanPlan_23 (k0 : Nat) (c11 : Int32 → qSt → qR) : Nat → Int32 → Int32 → Int32 → qSt → qR
  | 0, _, _, _, _ => none
  | n + 1, x1, x2, x3, sg =>
    if (sg k0 0) ≤ x3 then
      fX4_layMeanPlan_130 k0 c11 x2 sg
    else
    if 0 ≤ x2 then
      fX4_layMeanPlan_130 k0 c11 x2 sg
    else
    qb (fX4_gone x1 x3 sg) fun r1 s2 =>
    fX4_layMeanPlan_44 k0 (fun z1 z2 z3 sg => fX4_layMeanPlan_23 k0 c11 n z1 z2 z3 sg) qfu x1 x2 x3 ((r1 + 1)) s2
set_option maxRecDepth 20000 in
set_option maxHeartbeats 4000000 in
theorem tX4_layMeanPlan_23 {b : Nat} {K : List Nat} (hK : qOk K) {k0 : Nat} {c11 : Int32 → qSt → qR} (h0 : qIn K k0 4) (hc11 : ∀ (x1 : Int32) (sg : qSt), qJ RX4 cX4_layMeanPlan 6 5 112 true (fun _ _ => True) b K 11 [some (.ref (b + k0)), some (.int x1), none, none, none, none] [] sg (c11 x1 sg)) : ∀ (n : Nat) (x1 x2 x3 : Int32) (sg : qSt), qJ RX4 cX4_layMeanPlan 6 5 112 true (fun _ _ => True) b K 23 [some (.ref (b + k0)), some (.int x1), some (.int x2), some (.int x3), none, none] [] sg (fX4_layMeanPlan_23 k0 c11 n x1 x2 x3 sg) := by
  intro n
  induction n with
  | zero => intro x1 x2 x3 sg; exact qJ_none
  | succ n ih =>
    intro x1 x2 x3 sg
    unfold fX4_layMeanPlan_23
    refine q_iload_n (pc := 23) dX4_layMeanPlan_23 rfl ?_
    refine q_aload_n (pc := 24) dX4_layMeanPlan_24 rfl ?_
    refine qg_4_0 (pc := 25) dX4_layMeanPlan_25 h0 lf_X4_7 ?_
    refine q_icmp_ge (pc := 28) 130 dX4_layMeanPlan_28 (by decide) ?_ ?_
    · refine qJ_weak [some (.ref (b + k0)), none, some (.int x2), none, none, none] ⟨rfl, rfl, trivial⟩ ?_
      exact tX4_layMeanPlan_130 hK h0 hc11 x2 sg
    refine q_iload_n (pc := 31) dX4_layMeanPlan_31 rfl ?_
    refine q_if_ge (pc := 32) 130 dX4_layMeanPlan_32 (by decide) ?_ ?_
    · refine qJ_weak [some (.ref (b + k0)), none, some (.int x2), none, none, none] ⟨rfl, rfl, trivial⟩ ?_
      exact tX4_layMeanPlan_130 hK h0 hc11 x2 sg
    refine q_iload_n (pc := 35) dX4_layMeanPlan_35 rfl ?_
    refine q_iload_n (pc := 36) dX4_layMeanPlan_36 rfl ?_
    refine q_callSi (pc := 37) [.int x1, .int x3] dX4_layMeanPlan_37 lm_X4_79 yX4_gone_ok yX4_gone_in (sX4_gone hK x1 x3 sg) rfl rfl (Nat.le_of_ble_eq_true rfl) ⟨by decide, by decide⟩ (fun r1 s2 => ?_)
    refine q_iconst (pc := 40) 1 dX4_layMeanPlan_40 (by decide) ?_
    refine q_iadd (pc := 41) dX4_layMeanPlan_41 ?_
    refine q_istore (pc := 42) dX4_layMeanPlan_42 (by decide) ?_
    exact tX4_layMeanPlan_44 hK h0 (fun z1 z2 z3 sg => ih z1 z2 z3 sg) qfu x1 x2 x3 ((r1 + 1)) s2
def fX4_layMeanPlan_11 (k0 : Nat) : Nat → Int32 → qSt → qR
  | 0, _, _ => none
  | n + 1, x1, sg =>
    qb (fX4_lastState k0 sg) fun r1 s2 =>
    if x1 = r1 then
      some (0, s2)
    else
    fX4_layMeanPlan_23 k0 (fun z1 sg => fX4_layMeanPlan_11 k0 n z1 sg) qfu x1 (-1) 0 s2
set_option maxRecDepth 20000 in
set_option maxHeartbeats 4000000 in
theorem tX4_layMeanPlan_11 {b : Nat} {K : List Nat} (hK : qOk K) {k0 : Nat} (h0 : qIn K k0 4) : ∀ (n : Nat) (x1 : Int32) (sg : qSt), qJ RX4 cX4_layMeanPlan 6 5 112 true (fun _ _ => True) b K 11 [some (.ref (b + k0)), some (.int x1), none, none, none, none] [] sg (fX4_layMeanPlan_11 k0 n x1 sg) := by
  intro n
  induction n with
  | zero => intro x1 sg; exact qJ_none
  | succ n ih =>
    intro x1 sg
    unfold fX4_layMeanPlan_11
    refine q_iload_n (pc := 11) dX4_layMeanPlan_11 rfl ?_
    refine q_aload_n (pc := 12) dX4_layMeanPlan_12 rfl ?_
    refine q_callVi (pc := 13) [] dX4_layMeanPlan_13 lm_X4_85 yX4_lastState_ok yX4_lastState_in h0 (by decide) rfl (sX4_lastState hK h0 sg) rfl rfl (Nat.le_of_ble_eq_true rfl) ⟨by decide, by decide⟩ (fun r1 s2 => ?_)
    refine q_icmp_eq (pc := 16) 145 dX4_layMeanPlan_16 (by decide) ?_ ?_
    · exact q_return (pc := 145) dX4_layMeanPlan_145
    refine q_iconst (pc := 19) (-1) dX4_layMeanPlan_19 (by decide) ?_
    refine q_istore_n (pc := 20) dX4_layMeanPlan_20 (by decide) ?_
    refine q_iconst (pc := 21) 0 dX4_layMeanPlan_21 (by decide) ?_
    refine q_istore_n (pc := 22) dX4_layMeanPlan_22 (by decide) ?_
    exact tX4_layMeanPlan_23 hK h0 (fun z1 sg => ih z1 sg) qfu x1 (-1) 0 s2
def fX4_layMeanPlan (k0 : Nat) (sg : qSt) : qR :=
  qb (fX4_layLeast k0 sg) fun r1 s2 =>
  fX4_layMeanPlan_11 k0 qfu 0 (qset s2 k0 10 0)
set_option maxRecDepth 20000 in
set_option maxHeartbeats 4000000 in
theorem sX4_layMeanPlan {b : Nat} {K : List Nat} (hK : qOk K) {k0 : Nat} (h0 : qIn K k0 4) (sg : qSt) : qS yX4_layMeanPlan cX4_layMeanPlan 6 none 5 112 b K [.ref (b + k0)] sg (fX4_layMeanPlan k0 sg) := by
  refine qS_of (own := RX4) rfl (by decide) hK.1 (by simp [Value.category]) (Nat.le_of_ble_eq_true rfl) (fun z _ ty h => by cases h) ?_
  show qJ RX4 cX4_layMeanPlan 6 5 112 true (fun _ _ => True) b K 0 [some (.ref (b + k0)), none, none, none, none, none] [] sg (fX4_layMeanPlan k0 sg)
  unfold fX4_layMeanPlan
  refine q_aload_n (pc := 0) dX4_layMeanPlan_0 rfl ?_
  refine q_callVv (pc := 1) [] dX4_layMeanPlan_1 lm_X4_97 yX4_layLeast_ok yX4_layLeast_in h0 (by decide) rfl (sX4_layLeast hK h0 sg) rfl rfl (Nat.le_of_ble_eq_true rfl) ⟨by decide, by decide⟩ (fun r1 s2 => ?_)
  refine q_aload_n (pc := 4) dX4_layMeanPlan_4 rfl ?_
  refine q_iconst (pc := 5) 0 dX4_layMeanPlan_5 (by decide) ?_
  refine qp_4_10 (pc := 6) dX4_layMeanPlan_6 h0 lf_X4_100 ?_
  refine q_iconst (pc := 9) 0 dX4_layMeanPlan_9 (by decide) ?_
  refine q_istore_n (pc := 10) dX4_layMeanPlan_10 (by decide) ?_
  exact tX4_layMeanPlan_11 hK h0 qfu 0 (qset s2 k0 10 0)
-- LineSearchModel.planAt(I)I
def fX4_planAt (k0 : Nat) (x1 : Int32) (sg : qSt) : qR :=
  qb (fX4_in x1 0 ((sg k0 10) - 1) sg) fun r1 s2 =>
  if r1 = 0 then
    some ((-6), s2)
  else
  if qin x1 (qlen (k0 + 6)) then
  some ((s2 (k0 + 6) (Int32.toNatClampNeg x1)), s2)
  else none
set_option maxRecDepth 20000 in
set_option maxHeartbeats 4000000 in
theorem sX4_planAt {b : Nat} {K : List Nat} (hK : qOk K) {k0 : Nat} (h0 : qIn K k0 4) (x1 : Int32) (sg : qSt) : qS yX4_planAt cX4_planAt 2 (some .int) 1 22 b K [.ref (b + k0), .int x1] sg (fX4_planAt k0 x1 sg) := by
  refine qS_of (own := RX4) rfl (by decide) hK.1 (by simp [Value.category]) (Nat.le_of_ble_eq_true rfl) (fun z _ ty h => by cases h; exact vp_nar_int _) ?_
  show qJ RX4 cX4_planAt 2 1 22 false (fun _ _ => True) b K 0 [some (.ref (b + k0)), some (.int x1)] [] sg (fX4_planAt k0 x1 sg)
  unfold fX4_planAt
  refine q_iload_n (pc := 0) dX4_planAt_0 rfl ?_
  refine q_iconst (pc := 1) 0 dX4_planAt_1 (by decide) ?_
  refine q_aload_n (pc := 2) dX4_planAt_2 rfl ?_
  refine qg_4_10 (pc := 3) dX4_planAt_3 h0 lf_X4_100 ?_
  refine q_iconst (pc := 6) 1 dX4_planAt_6 (by decide) ?_
  refine q_isub (pc := 7) dX4_planAt_7 ?_
  refine q_callSi (pc := 8) [.int x1, .int 0, .int (((sg k0 10) - 1))] dX4_planAt_8 lm_X4_47 yX4_in_ok yX4_in_in (sX4_in hK x1 0 ((sg k0 10) - 1) sg) rfl rfl (Nat.le_of_ble_eq_true rfl) ⟨by decide, by decide⟩ (fun r1 s2 => ?_)
  refine q_if_eq (pc := 11) 23 dX4_planAt_11 (by decide) ?_ ?_
  · refine q_bipush (pc := 23) (-6) dX4_planAt_23 (by decide) ?_
    exact q_ireturn (pc := 25) dX4_planAt_25
  refine q_aload_n (pc := 14) dX4_planAt_14 rfl ?_
  refine qg_4_11 (pc := 15) dX4_planAt_15 h0 lf_X4_38 ?_
  refine q_iload_n (pc := 18) dX4_planAt_18 rfl ?_
  refine q_iald (pc := 19) dX4_planAt_19 (qch_4_11 hK h0) ?_
  refine q_goto (pc := 20) 25 dX4_planAt_20 (by decide) ?_
  exact q_ireturn (pc := 25) dX4_planAt_25
-- LineSearchModel.meanTrip(I)I
def fX4_meanTrip (k0 : Nat) (x1 : Int32) (sg : qSt) : qR :=
  qb (fX4_layMeanPlan k0 sg) fun r1 s2 =>
  qb (fX4_planAt k0 x1 s2) fun r3 s4 =>
  some (r3, s4)
set_option maxRecDepth 20000 in
set_option maxHeartbeats 4000000 in
theorem sX4_meanTrip {b : Nat} {K : List Nat} (hK : qOk K) {k0 : Nat} (h0 : qIn K k0 4) (x1 : Int32) (sg : qSt) : qS yX4_meanTrip cX4_meanTrip 2 (some .int) 6 137 b K [.ref (b + k0), .int x1] sg (fX4_meanTrip k0 x1 sg) := by
  refine qS_of (own := RX4) rfl (by decide) hK.1 (by simp [Value.category]) (Nat.le_of_ble_eq_true rfl) (fun z _ ty h => by cases h; exact vp_nar_int _) ?_
  show qJ RX4 cX4_meanTrip 2 6 137 false (fun _ _ => True) b K 0 [some (.ref (b + k0)), some (.int x1)] [] sg (fX4_meanTrip k0 x1 sg)
  unfold fX4_meanTrip
  refine q_aload_n (pc := 0) dX4_meanTrip_0 rfl ?_
  refine q_callVv (pc := 1) [] dX4_meanTrip_1 lm_X4_103 yX4_layMeanPlan_ok yX4_layMeanPlan_in h0 (by decide) rfl (sX4_layMeanPlan hK h0 sg) rfl rfl (Nat.le_of_ble_eq_true rfl) ⟨by decide, by decide⟩ (fun r1 s2 => ?_)
  refine q_aload_n (pc := 4) dX4_meanTrip_4 rfl ?_
  refine q_iload_n (pc := 5) dX4_meanTrip_5 rfl ?_
  refine q_callVi (pc := 6) [.int x1] dX4_meanTrip_6 lm_X4_106 yX4_planAt_ok yX4_planAt_in h0 (by decide) rfl (sX4_planAt hK h0 x1 s2) rfl rfl (Nat.le_of_ble_eq_true rfl) ⟨by decide, by decide⟩ (fun r3 s4 => ?_)
  exact q_ireturn (pc := 9) dX4_meanTrip_9
-- LineSearchModel.layMost(II)V
def fX4_layMost_120 (k0 : Nat) (c72 : Int32 → Int32 → Int32 → Int32 → Int32 → Int32 → Int32 → qSt → qR) (x1 x2 x3 x4 x5 x6 x7 y0 : Int32) (sg : qSt) : qR :=
    if qin x3 (qlen (k0 + 5)) then
    if y0 ≤ (sg (k0 + 5) (Int32.toNatClampNeg x3)) then
      if qin x3 (qlen (k0 + 5)) then
      if qin x3 (qlen (k0 + 5)) then
      c72 x1 x2 x3 x4 x5 x6 ((x7 + 1)) (qset sg (k0 + 5) (Int32.toNatClampNeg x3) (sg (k0 + 5) (Int32.toNatClampNeg x3)))
      else none
      else none
    else
    if qin x3 (qlen (k0 + 5)) then
    c72 x1 x2 x3 x4 x5 x6 ((x7 + 1)) (qset sg (k0 + 5) (Int32.toNatClampNeg x3) y0)
    else none
    else none
set_option maxRecDepth 20000 in
set_option maxHeartbeats 4000000 in
theorem tX4_layMost_120 {b : Nat} {K : List Nat} (hK : qOk K) {k0 : Nat} {c72 : Int32 → Int32 → Int32 → Int32 → Int32 → Int32 → Int32 → qSt → qR} (h0 : qIn K k0 4) (hc72 : ∀ (x1 x2 x3 x4 x5 x6 x7 : Int32) (sg : qSt), qJ RX4 cX4_layMost 10 3 64 true (fun _ _ => True) b K 72 [some (.ref (b + k0)), some (.int x1), some (.int x2), some (.int x3), some (.int x4), some (.int x5), some (.int x6), some (.int x7), none, none] [] sg (c72 x1 x2 x3 x4 x5 x6 x7 sg)) : ∀ (x1 x2 x3 x4 x5 x6 x7 y0 : Int32) (sg : qSt), qJ RX4 cX4_layMost 10 3 64 true (fun _ _ => True) b K 120 [some (.ref (b + k0)), some (.int x1), some (.int x2), some (.int x3), some (.int x4), some (.int x5), some (.int x6), some (.int x7), none, none] [.int y0] sg (fX4_layMost_120 k0 c72 x1 x2 x3 x4 x5 x6 x7 y0 sg) := by
  intro x1 x2 x3 x4 x5 x6 x7 y0 sg
  unfold fX4_layMost_120
  refine q_istore (pc := 120) dX4_layMost_120 (by decide) ?_
  refine q_aload_n (pc := 122) dX4_layMost_122 rfl ?_
  refine qg_4_9 (pc := 123) dX4_layMost_123 h0 lf_X4_35 ?_
  refine q_iload_n (pc := 126) dX4_layMost_126 rfl ?_
  refine q_iload (pc := 127) dX4_layMost_127 rfl ?_
  refine q_aload_n (pc := 129) dX4_layMost_129 rfl ?_
  refine qg_4_9 (pc := 130) dX4_layMost_130 h0 lf_X4_35 ?_
  refine q_iload_n (pc := 133) dX4_layMost_133 rfl ?_
  refine q_iald (pc := 134) dX4_layMost_134 (qch_4_9 hK h0) ?_
  refine q_icmp_le (pc := 135) 143 dX4_layMost_135 (by decide) ?_ ?_
  · refine q_aload_n (pc := 143) dX4_layMost_143 rfl ?_
    refine qg_4_9 (pc := 144) dX4_layMost_144 h0 lf_X4_35 ?_
    refine q_iload_n (pc := 147) dX4_layMost_147 rfl ?_
    refine q_iald (pc := 148) dX4_layMost_148 (qch_4_9 hK h0) ?_
    refine q_iast (pc := 149) dX4_layMost_149 (qch_4_9 hK h0) ?_
    refine q_iinc (pc := 150) 1 dX4_layMost_150 rfl (by decide) (by decide) ?_
    refine q_goto (pc := 153) 72 dX4_layMost_153 (by decide) ?_
    refine qJ_weak [some (.ref (b + k0)), some (.int x1), some (.int x2), some (.int x3), some (.int x4), some (.int x5), some (.int x6), some (.int ((x7 + 1))), none, none] ⟨rfl, rfl, rfl, rfl, rfl, rfl, rfl, rfl, trivial⟩ ?_
    exact hc72 x1 x2 x3 x4 x5 x6 ((x7 + 1)) (qset sg (k0 + 5) (Int32.toNatClampNeg x3) (sg (k0 + 5) (Int32.toNatClampNeg x3)))
  refine q_iload (pc := 138) dX4_layMost_138 rfl ?_
  refine q_goto (pc := 140) 149 dX4_layMost_140 (by decide) ?_
  refine q_iast (pc := 149) dX4_layMost_149 (qch_4_9 hK h0) ?_
  refine q_iinc (pc := 150) 1 dX4_layMost_150 rfl (by decide) (by decide) ?_
  refine q_goto (pc := 153) 72 dX4_layMost_153 (by decide) ?_
  refine qJ_weak [some (.ref (b + k0)), some (.int x1), some (.int x2), some (.int x3), some (.int x4), some (.int x5), some (.int x6), some (.int ((x7 + 1))), none, none] ⟨rfl, rfl, rfl, rfl, rfl, rfl, rfl, rfl, trivial⟩ ?_
  exact hc72 x1 x2 x3 x4 x5 x6 ((x7 + 1)) (qset sg (k0 + 5) (Int32.toNatClampNeg x3) y0)
def fX4_layMost_72 (k0 : Nat) (c41 : Int32 → Int32 → Int32 → Int32 → qSt → qR) : Nat → Int32 → Int32 → Int32 → Int32 → Int32 → Int32 → Int32 → qSt → qR
  | 0, _, _, _, _, _, _, _, _ => none
  | n + 1, x1, x2, x3, x4, x5, x6, x7, sg =>
    if (sg k0 1) < x7 then
      c41 x1 x2 x3 ((x4 + 1)) sg
    else
    qb (fX4_nines x4 sg) fun r1 s2 =>
    if qin (x3 + (((x7 - x5) + 1) * r1)) (qlen (k0 + 5)) then
    if x6 ≤ ((s2 (k0 + 5) (Int32.toNatClampNeg (x3 + (((x7 - x5) + 1) * r1)))) - x7) then
      fX4_layMost_120 k0 (fun z1 z2 z3 z4 z5 z6 z7 sg => fX4_layMost_72 k0 c41 n z1 z2 z3 z4 z5 z6 z7 sg) x1 x2 x3 x4 x5 x6 x7 x6 s2
    else
    fX4_layMost_120 k0 (fun z1 z2 z3 z4 z5 z6 z7 sg => fX4_layMost_72 k0 c41 n z1 z2 z3 z4 z5 z6 z7 sg) x1 x2 x3 x4 x5 x6 x7 (((s2 (k0 + 5) (Int32.toNatClampNeg (x3 + (((x7 - x5) + 1) * r1)))) - x7)) s2
    else none
set_option maxRecDepth 20000 in
set_option maxHeartbeats 4000000 in
theorem tX4_layMost_72 {b : Nat} {K : List Nat} (hK : qOk K) {k0 : Nat} {c41 : Int32 → Int32 → Int32 → Int32 → qSt → qR} (h0 : qIn K k0 4) (hc41 : ∀ (x1 x2 x3 x4 : Int32) (sg : qSt), qJ RX4 cX4_layMost 10 3 64 true (fun _ _ => True) b K 41 [some (.ref (b + k0)), some (.int x1), some (.int x2), some (.int x3), some (.int x4), none, none, none, none, none] [] sg (c41 x1 x2 x3 x4 sg)) : ∀ (n : Nat) (x1 x2 x3 x4 x5 x6 x7 : Int32) (sg : qSt), qJ RX4 cX4_layMost 10 3 64 true (fun _ _ => True) b K 72 [some (.ref (b + k0)), some (.int x1), some (.int x2), some (.int x3), some (.int x4), some (.int x5), some (.int x6), some (.int x7), none, none] [] sg (fX4_layMost_72 k0 c41 n x1 x2 x3 x4 x5 x6 x7 sg) := by
  intro n
  induction n with
  | zero => intro x1 x2 x3 x4 x5 x6 x7 sg; exact qJ_none
  | succ n ih =>
    intro x1 x2 x3 x4 x5 x6 x7 sg
    unfold fX4_layMost_72
    refine q_iload (pc := 72) dX4_layMost_72 rfl ?_
    refine q_aload_n (pc := 74) dX4_layMost_74 rfl ?_
    refine qg_4_1 (pc := 75) dX4_layMost_75 h0 lf_X4_13 ?_
    refine q_icmp_gt (pc := 78) 156 dX4_layMost_78 (by decide) ?_ ?_
    · refine q_iinc (pc := 156) 1 dX4_layMost_156 rfl (by decide) (by decide) ?_
      refine q_goto (pc := 159) 41 dX4_layMost_159 (by decide) ?_
      refine qJ_weak [some (.ref (b + k0)), some (.int x1), some (.int x2), some (.int x3), some (.int ((x4 + 1))), none, none, none, none, none] ⟨rfl, rfl, rfl, rfl, rfl, trivial⟩ ?_
      exact hc41 x1 x2 x3 ((x4 + 1)) sg
    refine q_aload_n (pc := 81) dX4_layMost_81 rfl ?_
    refine qg_4_9 (pc := 82) dX4_layMost_82 h0 lf_X4_35 ?_
    refine q_iload_n (pc := 85) dX4_layMost_85 rfl ?_
    refine q_iload (pc := 86) dX4_layMost_86 rfl ?_
    refine q_iload (pc := 88) dX4_layMost_88 rfl ?_
    refine q_isub (pc := 90) dX4_layMost_90 ?_
    refine q_iconst (pc := 91) 1 dX4_layMost_91 (by decide) ?_
    refine q_iadd (pc := 92) dX4_layMost_92 ?_
    refine q_iload (pc := 93) dX4_layMost_93 rfl ?_
    refine q_callSi (pc := 95) [.int x4] dX4_layMost_95 lm_X4_76 yX4_nines_ok yX4_nines_in (sX4_nines hK x4 sg) rfl rfl (Nat.le_of_ble_eq_true rfl) ⟨by decide, by decide⟩ (fun r1 s2 => ?_)
    refine q_imul (pc := 98) dX4_layMost_98 ?_
    refine q_iadd (pc := 99) dX4_layMost_99 ?_
    refine q_iald (pc := 100) dX4_layMost_100 (qch_4_9 hK h0) ?_
    refine q_iload (pc := 101) dX4_layMost_101 rfl ?_
    refine q_isub (pc := 103) dX4_layMost_103 ?_
    refine q_istore (pc := 104) dX4_layMost_104 (by decide) ?_
    refine q_iload (pc := 106) dX4_layMost_106 rfl ?_
    refine q_iload (pc := 108) dX4_layMost_108 rfl ?_
    refine q_icmp_ge (pc := 110) 118 dX4_layMost_110 (by decide) ?_ ?_
    · refine q_iload (pc := 118) dX4_layMost_118 rfl ?_
      refine qJ_weak [some (.ref (b + k0)), some (.int x1), some (.int x2), some (.int x3), some (.int x4), some (.int x5), some (.int x6), some (.int x7), none, none] ⟨rfl, rfl, rfl, rfl, rfl, rfl, rfl, rfl, trivial⟩ ?_
      exact tX4_layMost_120 hK h0 (fun z1 z2 z3 z4 z5 z6 z7 sg => ih z1 z2 z3 z4 z5 z6 z7 sg) x1 x2 x3 x4 x5 x6 x7 x6 s2
    refine q_iload (pc := 113) dX4_layMost_113 rfl ?_
    refine q_goto (pc := 115) 120 dX4_layMost_115 (by decide) ?_
    refine qJ_weak [some (.ref (b + k0)), some (.int x1), some (.int x2), some (.int x3), some (.int x4), some (.int x5), some (.int x6), some (.int x7), none, none] ⟨rfl, rfl, rfl, rfl, rfl, rfl, rfl, rfl, trivial⟩ ?_
    exact tX4_layMost_120 hK h0 (fun z1 z2 z3 z4 z5 z6 z7 sg => ih z1 z2 z3 z4 z5 z6 z7 sg) x1 x2 x3 x4 x5 x6 x7 (((s2 (k0 + 5) (Int32.toNatClampNeg (x3 + (((x7 - x5) + 1) * r1)))) - x7)) s2
def fX4_layMost_41 (k0 : Nat) (c5 : Int32 → Int32 → Int32 → qSt → qR) : Nat → Int32 → Int32 → Int32 → Int32 → qSt → qR
  | 0, _, _, _, _, _ => none
  | n + 1, x1, x2, x3, x4, sg =>
    if (sg k0 0) ≤ x4 then
      c5 x1 x2 ((x3 + (-1))) sg
    else
    qb (fX4_gone x3 x4 sg) fun r1 s2 =>
    if x2 = 0 then none else
    fX4_layMost_72 k0 (fun z1 z2 z3 z4 sg => fX4_layMost_41 k0 c5 n z1 z2 z3 z4 sg) qfu x1 x2 x3 x4 ((r1 + 1)) (((x1 * (r1 + 1)) / x2)) ((r1 + 1)) s2
set_option maxRecDepth 20000 in
set_option maxHeartbeats 4000000 in
theorem tX4_layMost_41 {b : Nat} {K : List Nat} (hK : qOk K) {k0 : Nat} {c5 : Int32 → Int32 → Int32 → qSt → qR} (h0 : qIn K k0 4) (hc5 : ∀ (x1 x2 x3 : Int32) (sg : qSt), qJ RX4 cX4_layMost 10 3 64 true (fun _ _ => True) b K 5 [some (.ref (b + k0)), some (.int x1), some (.int x2), some (.int x3), none, none, none, none, none, none] [] sg (c5 x1 x2 x3 sg)) : ∀ (n : Nat) (x1 x2 x3 x4 : Int32) (sg : qSt), qJ RX4 cX4_layMost 10 3 64 true (fun _ _ => True) b K 41 [some (.ref (b + k0)), some (.int x1), some (.int x2), some (.int x3), some (.int x4), none, none, none, none, none] [] sg (fX4_layMost_41 k0 c5 n x1 x2 x3 x4 sg) := by
  intro n
  induction n with
  | zero => intro x1 x2 x3 x4 sg; exact qJ_none
  | succ n ih =>
    intro x1 x2 x3 x4 sg
    unfold fX4_layMost_41
    refine q_iload (pc := 41) dX4_layMost_41 rfl ?_
    refine q_aload_n (pc := 43) dX4_layMost_43 rfl ?_
    refine qg_4_0 (pc := 44) dX4_layMost_44 h0 lf_X4_7 ?_
    refine q_icmp_ge (pc := 47) 162 dX4_layMost_47 (by decide) ?_ ?_
    · refine q_iinc (pc := 162) (-1) dX4_layMost_162 rfl (by decide) (by decide) ?_
      refine q_goto (pc := 165) 5 dX4_layMost_165 (by decide) ?_
      refine qJ_weak [some (.ref (b + k0)), some (.int x1), some (.int x2), some (.int ((x3 + (-1)))), none, none, none, none, none, none] ⟨rfl, rfl, rfl, rfl, trivial⟩ ?_
      exact hc5 x1 x2 ((x3 + (-1))) sg
    refine q_iload_n (pc := 50) dX4_layMost_50 rfl ?_
    refine q_iload (pc := 51) dX4_layMost_51 rfl ?_
    refine q_callSi (pc := 53) [.int x3, .int x4] dX4_layMost_53 lm_X4_79 yX4_gone_ok yX4_gone_in (sX4_gone hK x3 x4 sg) rfl rfl (Nat.le_of_ble_eq_true rfl) ⟨by decide, by decide⟩ (fun r1 s2 => ?_)
    refine q_iconst (pc := 56) 1 dX4_layMost_56 (by decide) ?_
    refine q_iadd (pc := 57) dX4_layMost_57 ?_
    refine q_istore (pc := 58) dX4_layMost_58 (by decide) ?_
    refine q_iload_n (pc := 60) dX4_layMost_60 rfl ?_
    refine q_iload (pc := 61) dX4_layMost_61 rfl ?_
    refine q_imul (pc := 63) dX4_layMost_63 ?_
    refine q_iload_n (pc := 64) dX4_layMost_64 rfl ?_
    refine q_idiv (pc := 65) dX4_layMost_65 ?_
    refine q_istore (pc := 66) dX4_layMost_66 (by decide) ?_
    refine q_iload (pc := 68) dX4_layMost_68 rfl ?_
    refine q_istore (pc := 70) dX4_layMost_70 (by decide) ?_
    exact tX4_layMost_72 hK h0 (fun z1 z2 z3 z4 sg => ih z1 z2 z3 z4 sg) qfu x1 x2 x3 x4 ((r1 + 1)) (((x1 * (r1 + 1)) / x2)) ((r1 + 1)) s2
def fX4_layMost_5 (k0 : Nat) : Nat → Int32 → Int32 → Int32 → qSt → qR
  | 0, _, _, _, _ => none
  | n + 1, x1, x2, x3, sg =>
    if x3 < 0 then
      some (0, sg)
    else
    qb (fX4_isState k0 x3 sg) fun r1 s2 =>
    if r1 = 0 then
      fX4_layMost_5 k0 n x1 x2 ((x3 + (-1))) s2
    else
    qb (fX4_lastState k0 s2) fun r3 s4 =>
    if x3 = r3 then
      if qin x3 (qlen (k0 + 5)) then
      fX4_layMost_41 k0 (fun z1 z2 z3 sg => fX4_layMost_5 k0 n z1 z2 z3 sg) qfu x1 x2 x3 0 (qset s4 (k0 + 5) (Int32.toNatClampNeg x3) 1000000)
      else none
    else
    if qin x3 (qlen (k0 + 5)) then
    fX4_layMost_41 k0 (fun z1 z2 z3 sg => fX4_layMost_5 k0 n z1 z2 z3 sg) qfu x1 x2 x3 0 (qset s4 (k0 + 5) (Int32.toNatClampNeg x3) (-1000000))
    else none
set_option maxRecDepth 20000 in
set_option maxHeartbeats 4000000 in
theorem tX4_layMost_5 {b : Nat} {K : List Nat} (hK : qOk K) {k0 : Nat} (h0 : qIn K k0 4) : ∀ (n : Nat) (x1 x2 x3 : Int32) (sg : qSt), qJ RX4 cX4_layMost 10 3 64 true (fun _ _ => True) b K 5 [some (.ref (b + k0)), some (.int x1), some (.int x2), some (.int x3), none, none, none, none, none, none] [] sg (fX4_layMost_5 k0 n x1 x2 x3 sg) := by
  intro n
  induction n with
  | zero => intro x1 x2 x3 sg; exact qJ_none
  | succ n ih =>
    intro x1 x2 x3 sg
    unfold fX4_layMost_5
    refine q_iload_n (pc := 5) dX4_layMost_5 rfl ?_
    refine q_if_lt (pc := 6) 168 dX4_layMost_6 (by decide) ?_ ?_
    · exact q_return (pc := 168) dX4_layMost_168
    refine q_aload_n (pc := 9) dX4_layMost_9 rfl ?_
    refine q_iload_n (pc := 10) dX4_layMost_10 rfl ?_
    refine q_callVi (pc := 11) [.int x3] dX4_layMost_11 lm_X4_89 yX4_isState_ok yX4_isState_in h0 (by decide) rfl (sX4_isState hK h0 x3 sg) rfl rfl (Nat.le_of_ble_eq_true rfl) ⟨by decide, by decide⟩ (fun r1 s2 => ?_)
    refine q_if_eq (pc := 14) 162 dX4_layMost_14 (by decide) ?_ ?_
    · refine q_iinc (pc := 162) (-1) dX4_layMost_162 rfl (by decide) (by decide) ?_
      refine q_goto (pc := 165) 5 dX4_layMost_165 (by decide) ?_
      exact ih x1 x2 ((x3 + (-1))) s2
    refine q_aload_n (pc := 17) dX4_layMost_17 rfl ?_
    refine qg_4_9 (pc := 18) dX4_layMost_18 h0 lf_X4_35 ?_
    refine q_iload_n (pc := 21) dX4_layMost_21 rfl ?_
    refine q_iload_n (pc := 22) dX4_layMost_22 rfl ?_
    refine q_aload_n (pc := 23) dX4_layMost_23 rfl ?_
    refine q_callVi (pc := 24) [] dX4_layMost_24 lm_X4_85 yX4_lastState_ok yX4_lastState_in h0 (by decide) rfl (sX4_lastState hK h0 s2) rfl rfl (Nat.le_of_ble_eq_true rfl) ⟨by decide, by decide⟩ (fun r3 s4 => ?_)
    refine q_icmp_ne (pc := 27) 35 dX4_layMost_27 (by decide) ?_ ?_
    · refine q_ldc (pc := 35) (-1000000) dX4_layMost_35 lc_X4_110 ?_
      refine q_iast (pc := 37) dX4_layMost_37 (qch_4_9 hK h0) ?_
      refine q_iconst (pc := 38) 0 dX4_layMost_38 (by decide) ?_
      refine q_istore (pc := 39) dX4_layMost_39 (by decide) ?_
      exact tX4_layMost_41 hK h0 (fun z1 z2 z3 sg => ih z1 z2 z3 sg) qfu x1 x2 x3 0 (qset s4 (k0 + 5) (Int32.toNatClampNeg x3) (-1000000))
    refine q_ldc (pc := 30) 1000000 dX4_layMost_30 lc_X4_109 ?_
    refine q_goto (pc := 32) 37 dX4_layMost_32 (by decide) ?_
    refine q_iast (pc := 37) dX4_layMost_37 (qch_4_9 hK h0) ?_
    refine q_iconst (pc := 38) 0 dX4_layMost_38 (by decide) ?_
    refine q_istore (pc := 39) dX4_layMost_39 (by decide) ?_
    exact tX4_layMost_41 hK h0 (fun z1 z2 z3 sg => ih z1 z2 z3 sg) qfu x1 x2 x3 0 (qset s4 (k0 + 5) (Int32.toNatClampNeg x3) 1000000)
def fX4_layMost (k0 : Nat) (x1 x2 : Int32) (sg : qSt) : qR :=
  qb (fX4_lastState k0 sg) fun r1 s2 =>
  fX4_layMost_5 k0 qfu x1 x2 r1 s2
set_option maxRecDepth 20000 in
set_option maxHeartbeats 4000000 in
theorem sX4_layMost {b : Nat} {K : List Nat} (hK : qOk K) {k0 : Nat} (h0 : qIn K k0 4) (x1 x2 : Int32) (sg : qSt) : qS yX4_layMost cX4_layMost 10 none 3 64 b K [.ref (b + k0), .int x1, .int x2] sg (fX4_layMost k0 x1 x2 sg) := by
  refine qS_of (own := RX4) rfl (by decide) hK.1 (by simp [Value.category]) (Nat.le_of_ble_eq_true rfl) (fun z _ ty h => by cases h) ?_
  show qJ RX4 cX4_layMost 10 3 64 true (fun _ _ => True) b K 0 [some (.ref (b + k0)), some (.int x1), some (.int x2), none, none, none, none, none, none, none] [] sg (fX4_layMost k0 x1 x2 sg)
  unfold fX4_layMost
  refine q_aload_n (pc := 0) dX4_layMost_0 rfl ?_
  refine q_callVi (pc := 1) [] dX4_layMost_1 lm_X4_85 yX4_lastState_ok yX4_lastState_in h0 (by decide) rfl (sX4_lastState hK h0 sg) rfl rfl (Nat.le_of_ble_eq_true rfl) ⟨by decide, by decide⟩ (fun r1 s2 => ?_)
  refine q_istore_n (pc := 4) dX4_layMost_4 (by decide) ?_
  exact tX4_layMost_5 hK h0 qfu x1 x2 r1 s2
-- LineSearchModel.findWorst()V
def fX4_findWorst_63 (k0 : Nat) (c49 : Int32 → qSt → qR) : Nat → Int32 → Int32 → Int32 → qSt → qR
  | 0, _, _, _, _ => none
  | n + 1, x1, x2, x3, sg =>
    if (x3 - x2) ≤ 1 then
      if ((sg k0 12) * x1) ≤ (x3 * (sg k0 13)) then
        c49 ((x1 + 1)) sg
      else
      c49 ((x1 + 1)) (qset (qset sg k0 12 x3) k0 13 x1)
    else
    qb (fX4_layMost k0 ((x2 + x3) / 2) x1 sg) fun r1 s2 =>
    if qin 0 (qlen (k0 + 5)) then
    if (s2 (k0 + 5) (Int32.toNatClampNeg 0)) < 0 then
      fX4_findWorst_63 k0 c49 n x1 (((x2 + x3) / 2)) x3 s2
    else
    fX4_findWorst_63 k0 c49 n x1 x2 (((x2 + x3) / 2)) s2
    else none
set_option maxRecDepth 20000 in
set_option maxHeartbeats 4000000 in
theorem tX4_findWorst_63 {b : Nat} {K : List Nat} (hK : qOk K) {k0 : Nat} {c49 : Int32 → qSt → qR} (h0 : qIn K k0 4) (hc49 : ∀ (x1 : Int32) (sg : qSt), qJ RX4 cX4_findWorst 5 4 93 true (fun _ _ => True) b K 49 [some (.ref (b + k0)), some (.int x1), none, none, none] [] sg (c49 x1 sg)) : ∀ (n : Nat) (x1 x2 x3 : Int32) (sg : qSt), qJ RX4 cX4_findWorst 5 4 93 true (fun _ _ => True) b K 63 [some (.ref (b + k0)), some (.int x1), some (.int x2), some (.int x3), none] [] sg (fX4_findWorst_63 k0 c49 n x1 x2 x3 sg) := by
  intro n
  induction n with
  | zero => intro x1 x2 x3 sg; exact qJ_none
  | succ n ih =>
    intro x1 x2 x3 sg
    unfold fX4_findWorst_63
    refine q_iload_n (pc := 63) dX4_findWorst_63 rfl ?_
    refine q_iload_n (pc := 64) dX4_findWorst_64 rfl ?_
    refine q_isub (pc := 65) dX4_findWorst_65 ?_
    refine q_iconst (pc := 66) 1 dX4_findWorst_66 (by decide) ?_
    refine q_icmp_le (pc := 67) 105 dX4_findWorst_67 (by decide) ?_ ?_
    · refine q_iload_n (pc := 105) dX4_findWorst_105 rfl ?_
      refine q_aload_n (pc := 106) dX4_findWorst_106 rfl ?_
      refine qg_4_13 (pc := 107) dX4_findWorst_107 h0 lf_X4_117 ?_
      refine q_imul (pc := 110) dX4_findWorst_110 ?_
      refine q_aload_n (pc := 111) dX4_findWorst_111 rfl ?_
      refine qg_4_12 (pc := 112) dX4_findWorst_112 h0 lf_X4_114 ?_
      refine q_iload_n (pc := 115) dX4_findWorst_115 rfl ?_
      refine q_imul (pc := 116) dX4_findWorst_116 ?_
      refine q_icmp_ge (pc := 117) 130 dX4_findWorst_117 (by decide) ?_ ?_
      · refine q_iinc (pc := 130) 1 dX4_findWorst_130 rfl (by decide) (by decide) ?_
        refine q_goto (pc := 133) 49 dX4_findWorst_133 (by decide) ?_
        refine qJ_weak [some (.ref (b + k0)), some (.int ((x1 + 1))), none, none, none] ⟨rfl, rfl, trivial⟩ ?_
        exact hc49 ((x1 + 1)) sg
      refine q_aload_n (pc := 120) dX4_findWorst_120 rfl ?_
      refine q_iload_n (pc := 121) dX4_findWorst_121 rfl ?_
      refine qp_4_12 (pc := 122) dX4_findWorst_122 h0 lf_X4_114 ?_
      refine q_aload_n (pc := 125) dX4_findWorst_125 rfl ?_
      refine q_iload_n (pc := 126) dX4_findWorst_126 rfl ?_
      refine qp_4_13 (pc := 127) dX4_findWorst_127 h0 lf_X4_117 ?_
      refine q_iinc (pc := 130) 1 dX4_findWorst_130 rfl (by decide) (by decide) ?_
      refine q_goto (pc := 133) 49 dX4_findWorst_133 (by decide) ?_
      refine qJ_weak [some (.ref (b + k0)), some (.int ((x1 + 1))), none, none, none] ⟨rfl, rfl, trivial⟩ ?_
      exact hc49 ((x1 + 1)) (qset (qset sg k0 12 x3) k0 13 x1)
    refine q_iload_n (pc := 70) dX4_findWorst_70 rfl ?_
    refine q_iload_n (pc := 71) dX4_findWorst_71 rfl ?_
    refine q_iadd (pc := 72) dX4_findWorst_72 ?_
    refine q_iconst (pc := 73) 2 dX4_findWorst_73 (by decide) ?_
    refine q_idivc (pc := 74) dX4_findWorst_74 (by decide) ?_
    refine q_istore (pc := 75) dX4_findWorst_75 (by decide) ?_
    refine q_aload_n (pc := 77) dX4_findWorst_77 rfl ?_
    refine q_iload (pc := 78) dX4_findWorst_78 rfl ?_
    refine q_iload_n (pc := 80) dX4_findWorst_80 rfl ?_
    refine q_callVv (pc := 81) [.int (((x2 + x3) / 2)), .int x1] dX4_findWorst_81 lm_X4_120 yX4_layMost_ok yX4_layMost_in h0 (by decide) rfl (sX4_layMost hK h0 ((x2 + x3) / 2) x1 sg) rfl rfl (Nat.le_of_ble_eq_true rfl) ⟨by decide, by decide⟩ (fun r1 s2 => ?_)
    refine q_aload_n (pc := 84) dX4_findWorst_84 rfl ?_
    refine qg_4_9 (pc := 85) dX4_findWorst_85 h0 lf_X4_35 ?_
    refine q_iconst (pc := 88) 0 dX4_findWorst_88 (by decide) ?_
    refine q_iald (pc := 89) dX4_findWorst_89 (qch_4_9 hK h0) ?_
    refine q_if_lt (pc := 90) 99 dX4_findWorst_90 (by decide) ?_ ?_
    · refine q_iload (pc := 99) dX4_findWorst_99 rfl ?_
      refine q_istore_n (pc := 101) dX4_findWorst_101 (by decide) ?_
      refine q_goto (pc := 102) 63 dX4_findWorst_102 (by decide) ?_
      refine qJ_weak [some (.ref (b + k0)), some (.int x1), some (.int (((x2 + x3) / 2))), some (.int x3), none] ⟨rfl, rfl, rfl, rfl, trivial⟩ ?_
      exact ih x1 (((x2 + x3) / 2)) x3 s2
    refine q_iload (pc := 93) dX4_findWorst_93 rfl ?_
    refine q_istore_n (pc := 95) dX4_findWorst_95 (by decide) ?_
    refine q_goto (pc := 96) 102 dX4_findWorst_96 (by decide) ?_
    refine q_goto (pc := 102) 63 dX4_findWorst_102 (by decide) ?_
    refine qJ_weak [some (.ref (b + k0)), some (.int x1), some (.int x2), some (.int (((x2 + x3) / 2))), none] ⟨rfl, rfl, rfl, rfl, trivial⟩ ?_
    exact ih x1 x2 (((x2 + x3) / 2)) s2
def fX4_findWorst_49 (k0 : Nat) : Nat → Int32 → qSt → qR
  | 0, _, _ => none
  | n + 1, x1, sg =>
    if (sg k0 1) < x1 then
      some (0, sg)
    else
    fX4_findWorst_63 k0 (fun z1 sg => fX4_findWorst_49 k0 n z1 sg) qfu x1 (-1) 400 sg
set_option maxRecDepth 20000 in
set_option maxHeartbeats 4000000 in
theorem tX4_findWorst_49 {b : Nat} {K : List Nat} (hK : qOk K) {k0 : Nat} (h0 : qIn K k0 4) : ∀ (n : Nat) (x1 : Int32) (sg : qSt), qJ RX4 cX4_findWorst 5 4 93 true (fun _ _ => True) b K 49 [some (.ref (b + k0)), some (.int x1), none, none, none] [] sg (fX4_findWorst_49 k0 n x1 sg) := by
  intro n
  induction n with
  | zero => intro x1 sg; exact qJ_none
  | succ n ih =>
    intro x1 sg
    unfold fX4_findWorst_49
    refine q_iload_n (pc := 49) dX4_findWorst_49 rfl ?_
    refine q_aload_n (pc := 50) dX4_findWorst_50 rfl ?_
    refine qg_4_1 (pc := 51) dX4_findWorst_51 h0 lf_X4_13 ?_
    refine q_icmp_gt (pc := 54) 136 dX4_findWorst_54 (by decide) ?_ ?_
    · exact q_return (pc := 136) dX4_findWorst_136
    refine q_iconst (pc := 57) (-1) dX4_findWorst_57 (by decide) ?_
    refine q_istore_n (pc := 58) dX4_findWorst_58 (by decide) ?_
    refine q_sipush (pc := 59) 400 dX4_findWorst_59 (by decide) ?_
    refine q_istore_n (pc := 62) dX4_findWorst_62 (by decide) ?_
    exact tX4_findWorst_63 hK h0 (fun z1 sg => ih z1 sg) qfu x1 (-1) 400 sg
def fX4_findWorst (k0 : Nat) (sg : qSt) : qR :=
  if (sg k0 14) = ((10 * (sg k0 0)) + (sg k0 1)) then
    some (0, sg)
  else
  fX4_findWorst_49 k0 qfu 1 (qset (qset (qset sg k0 14 ((10 * (sg k0 0)) + (sg k0 1))) k0 12 1000000) k0 13 1)
set_option maxRecDepth 20000 in
set_option maxHeartbeats 4000000 in
theorem sX4_findWorst {b : Nat} {K : List Nat} (hK : qOk K) {k0 : Nat} (h0 : qIn K k0 4) (sg : qSt) : qS yX4_findWorst cX4_findWorst 5 none 4 93 b K [.ref (b + k0)] sg (fX4_findWorst k0 sg) := by
  refine qS_of (own := RX4) rfl (by decide) hK.1 (by simp [Value.category]) (Nat.le_of_ble_eq_true rfl) (fun z _ ty h => by cases h) ?_
  show qJ RX4 cX4_findWorst 5 4 93 true (fun _ _ => True) b K 0 [some (.ref (b + k0)), none, none, none, none] [] sg (fX4_findWorst k0 sg)
  unfold fX4_findWorst
  refine q_aload_n (pc := 0) dX4_findWorst_0 rfl ?_
  refine qg_4_14 (pc := 1) dX4_findWorst_1 h0 lf_X4_111 ?_
  refine q_bipush (pc := 4) 10 dX4_findWorst_4 (by decide) ?_
  refine q_aload_n (pc := 6) dX4_findWorst_6 rfl ?_
  refine qg_4_0 (pc := 7) dX4_findWorst_7 h0 lf_X4_7 ?_
  refine q_imul (pc := 10) dX4_findWorst_10 ?_
  refine q_aload_n (pc := 11) dX4_findWorst_11 rfl ?_
  refine qg_4_1 (pc := 12) dX4_findWorst_12 h0 lf_X4_13 ?_
  refine q_iadd (pc := 15) dX4_findWorst_15 ?_
  refine q_icmp_ne (pc := 16) 20 dX4_findWorst_16 (by decide) ?_ ?_
  · refine q_aload_n (pc := 20) dX4_findWorst_20 rfl ?_
    refine q_bipush (pc := 21) 10 dX4_findWorst_21 (by decide) ?_
    refine q_aload_n (pc := 23) dX4_findWorst_23 rfl ?_
    refine qg_4_0 (pc := 24) dX4_findWorst_24 h0 lf_X4_7 ?_
    refine q_imul (pc := 27) dX4_findWorst_27 ?_
    refine q_aload_n (pc := 28) dX4_findWorst_28 rfl ?_
    refine qg_4_1 (pc := 29) dX4_findWorst_29 h0 lf_X4_13 ?_
    refine q_iadd (pc := 32) dX4_findWorst_32 ?_
    refine qp_4_14 (pc := 33) dX4_findWorst_33 h0 lf_X4_111 ?_
    refine q_aload_n (pc := 36) dX4_findWorst_36 rfl ?_
    refine q_ldc (pc := 37) 1000000 dX4_findWorst_37 lc_X4_109 ?_
    refine qp_4_12 (pc := 39) dX4_findWorst_39 h0 lf_X4_114 ?_
    refine q_aload_n (pc := 42) dX4_findWorst_42 rfl ?_
    refine q_iconst (pc := 43) 1 dX4_findWorst_43 (by decide) ?_
    refine qp_4_13 (pc := 44) dX4_findWorst_44 h0 lf_X4_117 ?_
    refine q_iconst (pc := 47) 1 dX4_findWorst_47 (by decide) ?_
    refine q_istore_n (pc := 48) dX4_findWorst_48 (by decide) ?_
    exact tX4_findWorst_49 hK h0 qfu 1 (qset (qset (qset sg k0 14 ((10 * (sg k0 0)) + (sg k0 1))) k0 12 1000000) k0 13 1)
  exact q_return (pc := 19) dX4_findWorst_19
-- LineSearchModel.leastWorst(I)I
def fX4_leastWorst (k0 : Nat) (x1 : Int32) (sg : qSt) : qR :=
  qb (fX4_in x1 0 1 sg) fun r1 s2 =>
  if r1 = 0 then
    some ((-2), s2)
  else
  qb (fX4_findWorst k0 s2) fun r3 s4 =>
  qb (fX4_term (((s4 k0 2) * (s4 k0 13)) + (((s4 k0 2) + (s4 k0 3)) * (s4 k0 12))) ((s4 k0 2) * (s4 k0 13)) x1 s4) fun r5 s6 =>
  some (r5, s6)
set_option maxRecDepth 20000 in
set_option maxHeartbeats 4000000 in
theorem sX4_leastWorst {b : Nat} {K : List Nat} (hK : qOk K) {k0 : Nat} (h0 : qIn K k0 4) (x1 : Int32) (sg : qSt) : qS yX4_leastWorst cX4_leastWorst 2 (some .int) 5 117 b K [.ref (b + k0), .int x1] sg (fX4_leastWorst k0 x1 sg) := by
  refine qS_of (own := RX4) rfl (by decide) hK.1 (by simp [Value.category]) (Nat.le_of_ble_eq_true rfl) (fun z _ ty h => by cases h; exact vp_nar_int _) ?_
  show qJ RX4 cX4_leastWorst 2 5 117 false (fun _ _ => True) b K 0 [some (.ref (b + k0)), some (.int x1)] [] sg (fX4_leastWorst k0 x1 sg)
  unfold fX4_leastWorst
  refine q_iload_n (pc := 0) dX4_leastWorst_0 rfl ?_
  refine q_iconst (pc := 1) 0 dX4_leastWorst_1 (by decide) ?_
  refine q_iconst (pc := 2) 1 dX4_leastWorst_2 (by decide) ?_
  refine q_callSi (pc := 3) [.int x1, .int 0, .int 1] dX4_leastWorst_3 lm_X4_47 yX4_in_ok yX4_in_in (sX4_in hK x1 0 1 sg) rfl rfl (Nat.le_of_ble_eq_true rfl) ⟨by decide, by decide⟩ (fun r1 s2 => ?_)
  refine q_if_ne (pc := 6) 12 dX4_leastWorst_6 (by decide) ?_ ?_
  · refine q_aload_n (pc := 12) dX4_leastWorst_12 rfl ?_
    refine q_callVv (pc := 13) [] dX4_leastWorst_13 lm_X4_124 yX4_findWorst_ok yX4_findWorst_in h0 (by decide) rfl (sX4_findWorst hK h0 s2) rfl rfl (Nat.le_of_ble_eq_true rfl) ⟨by decide, by decide⟩ (fun r3 s4 => ?_)
    refine q_aload_n (pc := 16) dX4_leastWorst_16 rfl ?_
    refine qg_4_2 (pc := 17) dX4_leastWorst_17 h0 lf_X4_16 ?_
    refine q_aload_n (pc := 20) dX4_leastWorst_20 rfl ?_
    refine qg_4_13 (pc := 21) dX4_leastWorst_21 h0 lf_X4_117 ?_
    refine q_imul (pc := 24) dX4_leastWorst_24 ?_
    refine q_aload_n (pc := 25) dX4_leastWorst_25 rfl ?_
    refine qg_4_2 (pc := 26) dX4_leastWorst_26 h0 lf_X4_16 ?_
    refine q_aload_n (pc := 29) dX4_leastWorst_29 rfl ?_
    refine qg_4_3 (pc := 30) dX4_leastWorst_30 h0 lf_X4_19 ?_
    refine q_iadd (pc := 33) dX4_leastWorst_33 ?_
    refine q_aload_n (pc := 34) dX4_leastWorst_34 rfl ?_
    refine qg_4_12 (pc := 35) dX4_leastWorst_35 h0 lf_X4_114 ?_
    refine q_imul (pc := 38) dX4_leastWorst_38 ?_
    refine q_iadd (pc := 39) dX4_leastWorst_39 ?_
    refine q_aload_n (pc := 40) dX4_leastWorst_40 rfl ?_
    refine qg_4_2 (pc := 41) dX4_leastWorst_41 h0 lf_X4_16 ?_
    refine q_aload_n (pc := 44) dX4_leastWorst_44 rfl ?_
    refine qg_4_13 (pc := 45) dX4_leastWorst_45 h0 lf_X4_117 ?_
    refine q_imul (pc := 48) dX4_leastWorst_48 ?_
    refine q_iload_n (pc := 49) dX4_leastWorst_49 rfl ?_
    refine q_callSi (pc := 50) [.int ((((s4 k0 2) * (s4 k0 13)) + (((s4 k0 2) + (s4 k0 3)) * (s4 k0 12)))), .int (((s4 k0 2) * (s4 k0 13))), .int x1] dX4_leastWorst_50 lm_X4_69 yX4_term_ok yX4_term_in (sX4_term hK (((s4 k0 2) * (s4 k0 13)) + (((s4 k0 2) + (s4 k0 3)) * (s4 k0 12))) ((s4 k0 2) * (s4 k0 13)) x1 s4) rfl rfl (Nat.le_of_ble_eq_true rfl) ⟨by decide, by decide⟩ (fun r5 s6 => ?_)
    exact q_ireturn (pc := 53) dX4_leastWorst_53
  refine q_bipush (pc := 9) (-2) dX4_leastWorst_9 (by decide) ?_
  exact q_ireturn (pc := 11) dX4_leastWorst_11
-- LineSearchModel.layWorstPlan()V
def fX4_layWorstPlan_65 (k0 : Nat) (c38 : Int32 → Int32 → Int32 → Int32 → qSt → qR) : Nat → Int32 → Int32 → Int32 → Int32 → Int32 → Int32 → qSt → qR
  | 0, _, _, _, _, _, _, _ => none
  | n + 1, x1, x2, x3, x4, x5, x6, sg =>
    if (sg k0 1) < x6 then
      c38 x1 x2 x3 ((x4 + 1)) sg
    else
    if 0 ≤ x3 then
      c38 x1 x2 x3 ((x4 + 1)) sg
    else
    qb (fX4_nines x4 sg) fun r1 s2 =>
    if ((s2 k0 12) * x5) < (x2 * (s2 k0 13)) then
      fX4_layWorstPlan_65 k0 c38 n x1 x2 x3 x4 x5 ((x6 + 1)) s2
    else
    if qin (x1 + (((x6 - x5) + 1) * r1)) (qlen (k0 + 5)) then
    if (s2 (k0 + 5) (Int32.toNatClampNeg (x1 + (((x6 - x5) + 1) * r1)))) < (x2 + x6) then
      fX4_layWorstPlan_65 k0 c38 n x1 x2 x3 x4 x5 ((x6 + 1)) s2
    else
    if qin (s2 k0 10) (qlen (k0 + 6)) then
    fX4_layWorstPlan_65 k0 c38 n x1 x2 ((x1 + (((x6 - x5) + 1) * r1))) x4 x5 ((x6 + 1)) (qset s2 (k0 + 6) (Int32.toNatClampNeg (s2 k0 10)) ((10 * x4) + x6))
    else none
    else none
set_option maxRecDepth 20000 in
set_option maxHeartbeats 4000000 in
theorem tX4_layWorstPlan_65 {b : Nat} {K : List Nat} (hK : qOk K) {k0 : Nat} {c38 : Int32 → Int32 → Int32 → Int32 → qSt → qR} (h0 : qIn K k0 4) (hc38 : ∀ (x1 x2 x3 x4 : Int32) (sg : qSt), qJ RX4 cX4_layWorstPlan 8 5 117 true (fun _ _ => True) b K 38 [some (.ref (b + k0)), some (.int x1), some (.int x2), some (.int x3), some (.int x4), none, none, none] [] sg (c38 x1 x2 x3 x4 sg)) : ∀ (n : Nat) (x1 x2 x3 x4 x5 x6 : Int32) (sg : qSt), qJ RX4 cX4_layWorstPlan 8 5 117 true (fun _ _ => True) b K 65 [some (.ref (b + k0)), some (.int x1), some (.int x2), some (.int x3), some (.int x4), some (.int x5), some (.int x6), none] [] sg (fX4_layWorstPlan_65 k0 c38 n x1 x2 x3 x4 x5 x6 sg) := by
  intro n
  induction n with
  | zero => intro x1 x2 x3 x4 x5 x6 sg; exact qJ_none
  | succ n ih =>
    intro x1 x2 x3 x4 x5 x6 sg
    unfold fX4_layWorstPlan_65
    refine q_iload (pc := 65) dX4_layWorstPlan_65 rfl ?_
    refine q_aload_n (pc := 67) dX4_layWorstPlan_67 rfl ?_
    refine qg_4_1 (pc := 68) dX4_layWorstPlan_68 h0 lf_X4_13 ?_
    refine q_icmp_gt (pc := 71) 151 dX4_layWorstPlan_71 (by decide) ?_ ?_
    · refine q_iinc (pc := 151) 1 dX4_layWorstPlan_151 rfl (by decide) (by decide) ?_
      refine q_goto (pc := 154) 38 dX4_layWorstPlan_154 (by decide) ?_
      refine qJ_weak [some (.ref (b + k0)), some (.int x1), some (.int x2), some (.int x3), some (.int ((x4 + 1))), none, none, none] ⟨rfl, rfl, rfl, rfl, rfl, trivial⟩ ?_
      exact hc38 x1 x2 x3 ((x4 + 1)) sg
    refine q_iload_n (pc := 74) dX4_layWorstPlan_74 rfl ?_
    refine q_if_ge (pc := 75) 151 dX4_layWorstPlan_75 (by decide) ?_ ?_
    · refine q_iinc (pc := 151) 1 dX4_layWorstPlan_151 rfl (by decide) (by decide) ?_
      refine q_goto (pc := 154) 38 dX4_layWorstPlan_154 (by decide) ?_
      refine qJ_weak [some (.ref (b + k0)), some (.int x1), some (.int x2), some (.int x3), some (.int ((x4 + 1))), none, none, none] ⟨rfl, rfl, rfl, rfl, rfl, trivial⟩ ?_
      exact hc38 x1 x2 x3 ((x4 + 1)) sg
    refine q_iload_n (pc := 78) dX4_layWorstPlan_78 rfl ?_
    refine q_iload (pc := 79) dX4_layWorstPlan_79 rfl ?_
    refine q_iload (pc := 81) dX4_layWorstPlan_81 rfl ?_
    refine q_isub (pc := 83) dX4_layWorstPlan_83 ?_
    refine q_iconst (pc := 84) 1 dX4_layWorstPlan_84 (by decide) ?_
    refine q_iadd (pc := 85) dX4_layWorstPlan_85 ?_
    refine q_iload (pc := 86) dX4_layWorstPlan_86 rfl ?_
    refine q_callSi (pc := 88) [.int x4] dX4_layWorstPlan_88 lm_X4_76 yX4_nines_ok yX4_nines_in (sX4_nines hK x4 sg) rfl rfl (Nat.le_of_ble_eq_true rfl) ⟨by decide, by decide⟩ (fun r1 s2 => ?_)
    refine q_imul (pc := 91) dX4_layWorstPlan_91 ?_
    refine q_iadd (pc := 92) dX4_layWorstPlan_92 ?_
    refine q_istore (pc := 93) dX4_layWorstPlan_93 (by decide) ?_
    refine q_iload_n (pc := 95) dX4_layWorstPlan_95 rfl ?_
    refine q_aload_n (pc := 96) dX4_layWorstPlan_96 rfl ?_
    refine qg_4_13 (pc := 97) dX4_layWorstPlan_97 h0 lf_X4_117 ?_
    refine q_imul (pc := 100) dX4_layWorstPlan_100 ?_
    refine q_aload_n (pc := 101) dX4_layWorstPlan_101 rfl ?_
    refine qg_4_12 (pc := 102) dX4_layWorstPlan_102 h0 lf_X4_114 ?_
    refine q_iload (pc := 105) dX4_layWorstPlan_105 rfl ?_
    refine q_imul (pc := 107) dX4_layWorstPlan_107 ?_
    refine q_icmp_gt (pc := 108) 145 dX4_layWorstPlan_108 (by decide) ?_ ?_
    · refine q_iinc (pc := 145) 1 dX4_layWorstPlan_145 rfl (by decide) (by decide) ?_
      refine q_goto (pc := 148) 65 dX4_layWorstPlan_148 (by decide) ?_
      refine qJ_weak [some (.ref (b + k0)), some (.int x1), some (.int x2), some (.int x3), some (.int x4), some (.int x5), some (.int ((x6 + 1))), none] ⟨rfl, rfl, rfl, rfl, rfl, rfl, rfl, trivial⟩ ?_
      exact ih x1 x2 x3 x4 x5 ((x6 + 1)) s2
    refine q_iload_n (pc := 111) dX4_layWorstPlan_111 rfl ?_
    refine q_iload (pc := 112) dX4_layWorstPlan_112 rfl ?_
    refine q_iadd (pc := 114) dX4_layWorstPlan_114 ?_
    refine q_aload_n (pc := 115) dX4_layWorstPlan_115 rfl ?_
    refine qg_4_9 (pc := 116) dX4_layWorstPlan_116 h0 lf_X4_35 ?_
    refine q_iload (pc := 119) dX4_layWorstPlan_119 rfl ?_
    refine q_iald (pc := 121) dX4_layWorstPlan_121 (qch_4_9 hK h0) ?_
    refine q_icmp_gt (pc := 122) 145 dX4_layWorstPlan_122 (by decide) ?_ ?_
    · refine q_iinc (pc := 145) 1 dX4_layWorstPlan_145 rfl (by decide) (by decide) ?_
      refine q_goto (pc := 148) 65 dX4_layWorstPlan_148 (by decide) ?_
      refine qJ_weak [some (.ref (b + k0)), some (.int x1), some (.int x2), some (.int x3), some (.int x4), some (.int x5), some (.int ((x6 + 1))), none] ⟨rfl, rfl, rfl, rfl, rfl, rfl, rfl, trivial⟩ ?_
      exact ih x1 x2 x3 x4 x5 ((x6 + 1)) s2
    refine q_iload (pc := 125) dX4_layWorstPlan_125 rfl ?_
    refine q_istore_n (pc := 127) dX4_layWorstPlan_127 (by decide) ?_
    refine q_aload_n (pc := 128) dX4_layWorstPlan_128 rfl ?_
    refine qg_4_11 (pc := 129) dX4_layWorstPlan_129 h0 lf_X4_38 ?_
    refine q_aload_n (pc := 132) dX4_layWorstPlan_132 rfl ?_
    refine qg_4_10 (pc := 133) dX4_layWorstPlan_133 h0 lf_X4_100 ?_
    refine q_bipush (pc := 136) 10 dX4_layWorstPlan_136 (by decide) ?_
    refine q_iload (pc := 138) dX4_layWorstPlan_138 rfl ?_
    refine q_imul (pc := 140) dX4_layWorstPlan_140 ?_
    refine q_iload (pc := 141) dX4_layWorstPlan_141 rfl ?_
    refine q_iadd (pc := 143) dX4_layWorstPlan_143 ?_
    refine q_iast (pc := 144) dX4_layWorstPlan_144 (qch_4_11 hK h0) ?_
    refine q_iinc (pc := 145) 1 dX4_layWorstPlan_145 rfl (by decide) (by decide) ?_
    refine q_goto (pc := 148) 65 dX4_layWorstPlan_148 (by decide) ?_
    refine qJ_weak [some (.ref (b + k0)), some (.int x1), some (.int x2), some (.int ((x1 + (((x6 - x5) + 1) * r1)))), some (.int x4), some (.int x5), some (.int ((x6 + 1))), none] ⟨rfl, rfl, rfl, rfl, rfl, rfl, rfl, trivial⟩ ?_
    exact ih x1 x2 ((x1 + (((x6 - x5) + 1) * r1))) x4 x5 ((x6 + 1)) (qset s2 (k0 + 6) (Int32.toNatClampNeg (s2 k0 10)) ((10 * x4) + x6))
def fX4_layWorstPlan_157 (k0 : Nat) (c25 : Int32 → Int32 → qSt → qR) (x2 x3 : Int32) (sg : qSt) : qR :=
    if qin (sg k0 10) (qlen (k0 + 6)) then
    c25 x3 ((x2 + ((sg (k0 + 6) (Int32.toNatClampNeg (sg k0 10))) - (sg (k0 + 6) (Int32.toNatClampNeg (sg k0 10))) / 10 * 10))) (qset sg k0 10 ((sg k0 10) + 1))
    else none
set_option maxRecDepth 20000 in
set_option maxHeartbeats 4000000 in
theorem tX4_layWorstPlan_157 {b : Nat} {K : List Nat} (hK : qOk K) {k0 : Nat} {c25 : Int32 → Int32 → qSt → qR} (h0 : qIn K k0 4) (hc25 : ∀ (x1 x2 : Int32) (sg : qSt), qJ RX4 cX4_layWorstPlan 8 5 117 true (fun _ _ => True) b K 25 [some (.ref (b + k0)), some (.int x1), some (.int x2), none, none, none, none, none] [] sg (c25 x1 x2 sg)) : ∀ (x2 x3 : Int32) (sg : qSt), qJ RX4 cX4_layWorstPlan 8 5 117 true (fun _ _ => True) b K 157 [some (.ref (b + k0)), none, some (.int x2), some (.int x3), none, none, none, none] [] sg (fX4_layWorstPlan_157 k0 c25 x2 x3 sg) := by
  intro x2 x3 sg
  unfold fX4_layWorstPlan_157
  refine q_iload_n (pc := 157) dX4_layWorstPlan_157 rfl ?_
  refine q_aload_n (pc := 158) dX4_layWorstPlan_158 rfl ?_
  refine qg_4_11 (pc := 159) dX4_layWorstPlan_159 h0 lf_X4_38 ?_
  refine q_aload_n (pc := 162) dX4_layWorstPlan_162 rfl ?_
  refine qg_4_10 (pc := 163) dX4_layWorstPlan_163 h0 lf_X4_100 ?_
  refine q_iald (pc := 166) dX4_layWorstPlan_166 (qch_4_11 hK h0) ?_
  refine q_bipush (pc := 167) 10 dX4_layWorstPlan_167 (by decide) ?_
  refine q_iremc (pc := 169) dX4_layWorstPlan_169 (by decide) ?_
  refine q_iadd (pc := 170) dX4_layWorstPlan_170 ?_
  refine q_istore_n (pc := 171) dX4_layWorstPlan_171 (by decide) ?_
  refine q_aload_n (pc := 172) dX4_layWorstPlan_172 rfl ?_
  refine q_dup (pc := 173) dX4_layWorstPlan_173 rfl ?_
  refine qg_4_10 (pc := 174) dX4_layWorstPlan_174 h0 lf_X4_100 ?_
  refine q_iconst (pc := 177) 1 dX4_layWorstPlan_177 (by decide) ?_
  refine q_iadd (pc := 178) dX4_layWorstPlan_178 ?_
  refine qp_4_10 (pc := 179) dX4_layWorstPlan_179 h0 lf_X4_100 ?_
  refine q_iload_n (pc := 182) dX4_layWorstPlan_182 rfl ?_
  refine q_istore_n (pc := 183) dX4_layWorstPlan_183 (by decide) ?_
  refine q_goto (pc := 184) 25 dX4_layWorstPlan_184 (by decide) ?_
  refine qJ_weak [some (.ref (b + k0)), some (.int x3), some (.int ((x2 + ((sg (k0 + 6) (Int32.toNatClampNeg (sg k0 10))) - (sg (k0 + 6) (Int32.toNatClampNeg (sg k0 10))) / 10 * 10)))), none, none, none, none, none] ⟨rfl, rfl, rfl, trivial⟩ ?_
  exact hc25 x3 ((x2 + ((sg (k0 + 6) (Int32.toNatClampNeg (sg k0 10))) - (sg (k0 + 6) (Int32.toNatClampNeg (sg k0 10))) / 10 * 10))) (qset sg k0 10 ((sg k0 10) + 1))
def fX4_layWorstPlan_38 (k0 : Nat) (c25 : Int32 → Int32 → qSt → qR) : Nat → Int32 → Int32 → Int32 → Int32 → qSt → qR
  | 0, _, _, _, _, _ => none
  | n + 1, x1, x2, x3, x4, sg =>
    if (sg k0 0) ≤ x4 then
      fX4_layWorstPlan_157 k0 c25 x2 x3 sg
    else
    if 0 ≤ x3 then
      fX4_layWorstPlan_157 k0 c25 x2 x3 sg
    else
    qb (fX4_gone x1 x4 sg) fun r1 s2 =>
    fX4_layWorstPlan_65 k0 (fun z1 z2 z3 z4 sg => fX4_layWorstPlan_38 k0 c25 n z1 z2 z3 z4 sg) qfu x1 x2 x3 x4 ((r1 + 1)) ((r1 + 1)) s2
set_option maxRecDepth 20000 in
set_option maxHeartbeats 4000000 in
theorem tX4_layWorstPlan_38 {b : Nat} {K : List Nat} (hK : qOk K) {k0 : Nat} {c25 : Int32 → Int32 → qSt → qR} (h0 : qIn K k0 4) (hc25 : ∀ (x1 x2 : Int32) (sg : qSt), qJ RX4 cX4_layWorstPlan 8 5 117 true (fun _ _ => True) b K 25 [some (.ref (b + k0)), some (.int x1), some (.int x2), none, none, none, none, none] [] sg (c25 x1 x2 sg)) : ∀ (n : Nat) (x1 x2 x3 x4 : Int32) (sg : qSt), qJ RX4 cX4_layWorstPlan 8 5 117 true (fun _ _ => True) b K 38 [some (.ref (b + k0)), some (.int x1), some (.int x2), some (.int x3), some (.int x4), none, none, none] [] sg (fX4_layWorstPlan_38 k0 c25 n x1 x2 x3 x4 sg) := by
  intro n
  induction n with
  | zero => intro x1 x2 x3 x4 sg; exact qJ_none
  | succ n ih =>
    intro x1 x2 x3 x4 sg
    unfold fX4_layWorstPlan_38
    refine q_iload (pc := 38) dX4_layWorstPlan_38 rfl ?_
    refine q_aload_n (pc := 40) dX4_layWorstPlan_40 rfl ?_
    refine qg_4_0 (pc := 41) dX4_layWorstPlan_41 h0 lf_X4_7 ?_
    refine q_icmp_ge (pc := 44) 157 dX4_layWorstPlan_44 (by decide) ?_ ?_
    · refine qJ_weak [some (.ref (b + k0)), none, some (.int x2), some (.int x3), none, none, none, none] ⟨rfl, rfl, rfl, trivial⟩ ?_
      exact tX4_layWorstPlan_157 hK h0 hc25 x2 x3 sg
    refine q_iload_n (pc := 47) dX4_layWorstPlan_47 rfl ?_
    refine q_if_ge (pc := 48) 157 dX4_layWorstPlan_48 (by decide) ?_ ?_
    · refine qJ_weak [some (.ref (b + k0)), none, some (.int x2), some (.int x3), none, none, none, none] ⟨rfl, rfl, rfl, trivial⟩ ?_
      exact tX4_layWorstPlan_157 hK h0 hc25 x2 x3 sg
    refine q_iload_n (pc := 51) dX4_layWorstPlan_51 rfl ?_
    refine q_iload (pc := 52) dX4_layWorstPlan_52 rfl ?_
    refine q_callSi (pc := 54) [.int x1, .int x4] dX4_layWorstPlan_54 lm_X4_79 yX4_gone_ok yX4_gone_in (sX4_gone hK x1 x4 sg) rfl rfl (Nat.le_of_ble_eq_true rfl) ⟨by decide, by decide⟩ (fun r1 s2 => ?_)
    refine q_iconst (pc := 57) 1 dX4_layWorstPlan_57 (by decide) ?_
    refine q_iadd (pc := 58) dX4_layWorstPlan_58 ?_
    refine q_istore (pc := 59) dX4_layWorstPlan_59 (by decide) ?_
    refine q_iload (pc := 61) dX4_layWorstPlan_61 rfl ?_
    refine q_istore (pc := 63) dX4_layWorstPlan_63 (by decide) ?_
    exact tX4_layWorstPlan_65 hK h0 (fun z1 z2 z3 z4 sg => ih z1 z2 z3 z4 sg) qfu x1 x2 x3 x4 ((r1 + 1)) ((r1 + 1)) s2
def fX4_layWorstPlan_25 (k0 : Nat) : Nat → Int32 → Int32 → qSt → qR
  | 0, _, _, _ => none
  | n + 1, x1, x2, sg =>
    qb (fX4_lastState k0 sg) fun r1 s2 =>
    if x1 = r1 then
      some (0, s2)
    else
    fX4_layWorstPlan_38 k0 (fun z1 z2 sg => fX4_layWorstPlan_25 k0 n z1 z2 sg) qfu x1 x2 (-1) 0 s2
set_option maxRecDepth 20000 in
set_option maxHeartbeats 4000000 in
theorem tX4_layWorstPlan_25 {b : Nat} {K : List Nat} (hK : qOk K) {k0 : Nat} (h0 : qIn K k0 4) : ∀ (n : Nat) (x1 x2 : Int32) (sg : qSt), qJ RX4 cX4_layWorstPlan 8 5 117 true (fun _ _ => True) b K 25 [some (.ref (b + k0)), some (.int x1), some (.int x2), none, none, none, none, none] [] sg (fX4_layWorstPlan_25 k0 n x1 x2 sg) := by
  intro n
  induction n with
  | zero => intro x1 x2 sg; exact qJ_none
  | succ n ih =>
    intro x1 x2 sg
    unfold fX4_layWorstPlan_25
    refine q_iload_n (pc := 25) dX4_layWorstPlan_25 rfl ?_
    refine q_aload_n (pc := 26) dX4_layWorstPlan_26 rfl ?_
    refine q_callVi (pc := 27) [] dX4_layWorstPlan_27 lm_X4_85 yX4_lastState_ok yX4_lastState_in h0 (by decide) rfl (sX4_lastState hK h0 sg) rfl rfl (Nat.le_of_ble_eq_true rfl) ⟨by decide, by decide⟩ (fun r1 s2 => ?_)
    refine q_icmp_eq (pc := 30) 187 dX4_layWorstPlan_30 (by decide) ?_ ?_
    · exact q_return (pc := 187) dX4_layWorstPlan_187
    refine q_iconst (pc := 33) (-1) dX4_layWorstPlan_33 (by decide) ?_
    refine q_istore_n (pc := 34) dX4_layWorstPlan_34 (by decide) ?_
    refine q_iconst (pc := 35) 0 dX4_layWorstPlan_35 (by decide) ?_
    refine q_istore (pc := 36) dX4_layWorstPlan_36 (by decide) ?_
    exact tX4_layWorstPlan_38 hK h0 (fun z1 z2 sg => ih z1 z2 sg) qfu x1 x2 (-1) 0 s2
def fX4_layWorstPlan (k0 : Nat) (sg : qSt) : qR :=
  qb (fX4_findWorst k0 sg) fun r1 s2 =>
  qb (fX4_layMost k0 (s2 k0 12) (s2 k0 13) s2) fun r3 s4 =>
  fX4_layWorstPlan_25 k0 qfu 0 0 (qset s4 k0 10 0)
set_option maxRecDepth 20000 in
set_option maxHeartbeats 4000000 in
theorem sX4_layWorstPlan {b : Nat} {K : List Nat} (hK : qOk K) {k0 : Nat} (h0 : qIn K k0 4) (sg : qSt) : qS yX4_layWorstPlan cX4_layWorstPlan 8 none 5 117 b K [.ref (b + k0)] sg (fX4_layWorstPlan k0 sg) := by
  refine qS_of (own := RX4) rfl (by decide) hK.1 (by simp [Value.category]) (Nat.le_of_ble_eq_true rfl) (fun z _ ty h => by cases h) ?_
  show qJ RX4 cX4_layWorstPlan 8 5 117 true (fun _ _ => True) b K 0 [some (.ref (b + k0)), none, none, none, none, none, none, none] [] sg (fX4_layWorstPlan k0 sg)
  unfold fX4_layWorstPlan
  refine q_aload_n (pc := 0) dX4_layWorstPlan_0 rfl ?_
  refine q_callVv (pc := 1) [] dX4_layWorstPlan_1 lm_X4_124 yX4_findWorst_ok yX4_findWorst_in h0 (by decide) rfl (sX4_findWorst hK h0 sg) rfl rfl (Nat.le_of_ble_eq_true rfl) ⟨by decide, by decide⟩ (fun r1 s2 => ?_)
  refine q_aload_n (pc := 4) dX4_layWorstPlan_4 rfl ?_
  refine q_aload_n (pc := 5) dX4_layWorstPlan_5 rfl ?_
  refine qg_4_12 (pc := 6) dX4_layWorstPlan_6 h0 lf_X4_114 ?_
  refine q_aload_n (pc := 9) dX4_layWorstPlan_9 rfl ?_
  refine qg_4_13 (pc := 10) dX4_layWorstPlan_10 h0 lf_X4_117 ?_
  refine q_callVv (pc := 13) [.int ((s2 k0 12)), .int ((s2 k0 13))] dX4_layWorstPlan_13 lm_X4_120 yX4_layMost_ok yX4_layMost_in h0 (by decide) rfl (sX4_layMost hK h0 (s2 k0 12) (s2 k0 13) s2) rfl rfl (Nat.le_of_ble_eq_true rfl) ⟨by decide, by decide⟩ (fun r3 s4 => ?_)
  refine q_aload_n (pc := 16) dX4_layWorstPlan_16 rfl ?_
  refine q_iconst (pc := 17) 0 dX4_layWorstPlan_17 (by decide) ?_
  refine qp_4_10 (pc := 18) dX4_layWorstPlan_18 h0 lf_X4_100 ?_
  refine q_iconst (pc := 21) 0 dX4_layWorstPlan_21 (by decide) ?_
  refine q_istore_n (pc := 22) dX4_layWorstPlan_22 (by decide) ?_
  refine q_iconst (pc := 23) 0 dX4_layWorstPlan_23 (by decide) ?_
  refine q_istore_n (pc := 24) dX4_layWorstPlan_24 (by decide) ?_
  exact tX4_layWorstPlan_25 hK h0 qfu 0 0 (qset s4 k0 10 0)
-- LineSearchModel.worstTrip(I)I
def fX4_worstTrip (k0 : Nat) (x1 : Int32) (sg : qSt) : qR :=
  qb (fX4_layWorstPlan k0 sg) fun r1 s2 =>
  qb (fX4_planAt k0 x1 s2) fun r3 s4 =>
  some (r3, s4)
set_option maxRecDepth 20000 in
set_option maxHeartbeats 4000000 in
theorem sX4_worstTrip {b : Nat} {K : List Nat} (hK : qOk K) {k0 : Nat} (h0 : qIn K k0 4) (x1 : Int32) (sg : qSt) : qS yX4_worstTrip cX4_worstTrip 2 (some .int) 6 144 b K [.ref (b + k0), .int x1] sg (fX4_worstTrip k0 x1 sg) := by
  refine qS_of (own := RX4) rfl (by decide) hK.1 (by simp [Value.category]) (Nat.le_of_ble_eq_true rfl) (fun z _ ty h => by cases h; exact vp_nar_int _) ?_
  show qJ RX4 cX4_worstTrip 2 6 144 false (fun _ _ => True) b K 0 [some (.ref (b + k0)), some (.int x1)] [] sg (fX4_worstTrip k0 x1 sg)
  unfold fX4_worstTrip
  refine q_aload_n (pc := 0) dX4_worstTrip_0 rfl ?_
  refine q_callVv (pc := 1) [] dX4_worstTrip_1 lm_X4_127 yX4_layWorstPlan_ok yX4_layWorstPlan_in h0 (by decide) rfl (sX4_layWorstPlan hK h0 sg) rfl rfl (Nat.le_of_ble_eq_true rfl) ⟨by decide, by decide⟩ (fun r1 s2 => ?_)
  refine q_aload_n (pc := 4) dX4_worstTrip_4 rfl ?_
  refine q_iload_n (pc := 5) dX4_worstTrip_5 rfl ?_
  refine q_callVi (pc := 6) [.int x1] dX4_worstTrip_6 lm_X4_106 yX4_planAt_ok yX4_planAt_in h0 (by decide) rfl (sX4_planAt hK h0 x1 s2) rfl rfl (Nat.le_of_ble_eq_true rfl) ⟨by decide, by decide⟩ (fun r3 s4 => ?_)
  exact q_ireturn (pc := 9) dX4_worstTrip_9
-- LineSearchModel.within(II)I
def fX4_within (k0 : Nat) (x1 x2 : Int32) (sg : qSt) : qR :=
  qb (fX4_in x1 1 10000 sg) fun r1 s2 =>
  if r1 = 0 then
    some ((-2), s2)
  else
  qb (fX4_in x2 1 10000 s2) fun r3 s4 =>
  if r3 = 0 then
    some ((-2), s4)
  else
  if x2 ≤ x1 then
    qb (fX4_layMost k0 ((x1 - x2) * (s4 k0 2)) (x2 * ((s4 k0 2) + (s4 k0 3))) s4) fun r5 s6 =>
    if qin 0 (qlen (k0 + 5)) then
    if (s6 (k0 + 5) (Int32.toNatClampNeg 0)) < 0 then
      some (0, s6)
    else
    some (1, s6)
    else none
  else
  some (0, s4)
set_option maxRecDepth 20000 in
set_option maxHeartbeats 4000000 in
theorem sX4_within {b : Nat} {K : List Nat} (hK : qOk K) {k0 : Nat} (h0 : qIn K k0 4) (x1 x2 : Int32) (sg : qSt) : qS yX4_within cX4_within 3 (some .int) 4 93 b K [.ref (b + k0), .int x1, .int x2] sg (fX4_within k0 x1 x2 sg) := by
  refine qS_of (own := RX4) rfl (by decide) hK.1 (by simp [Value.category]) (Nat.le_of_ble_eq_true rfl) (fun z _ ty h => by cases h; exact vp_nar_int _) ?_
  show qJ RX4 cX4_within 3 4 93 false (fun _ _ => True) b K 0 [some (.ref (b + k0)), some (.int x1), some (.int x2)] [] sg (fX4_within k0 x1 x2 sg)
  unfold fX4_within
  refine q_iload_n (pc := 0) dX4_within_0 rfl ?_
  refine q_iconst (pc := 1) 1 dX4_within_1 (by decide) ?_
  refine q_sipush (pc := 2) 10000 dX4_within_2 (by decide) ?_
  refine q_callSi (pc := 5) [.int x1, .int 1, .int 10000] dX4_within_5 lm_X4_47 yX4_in_ok yX4_in_in (sX4_in hK x1 1 10000 sg) rfl rfl (Nat.le_of_ble_eq_true rfl) ⟨by decide, by decide⟩ (fun r1 s2 => ?_)
  refine q_if_eq (pc := 8) 22 dX4_within_8 (by decide) ?_ ?_
  · refine q_bipush (pc := 22) (-2) dX4_within_22 (by decide) ?_
    exact q_ireturn (pc := 24) dX4_within_24
  refine q_iload_n (pc := 11) dX4_within_11 rfl ?_
  refine q_iconst (pc := 12) 1 dX4_within_12 (by decide) ?_
  refine q_sipush (pc := 13) 10000 dX4_within_13 (by decide) ?_
  refine q_callSi (pc := 16) [.int x2, .int 1, .int 10000] dX4_within_16 lm_X4_47 yX4_in_ok yX4_in_in (sX4_in hK x2 1 10000 s2) rfl rfl (Nat.le_of_ble_eq_true rfl) ⟨by decide, by decide⟩ (fun r3 s4 => ?_)
  refine q_if_ne (pc := 19) 25 dX4_within_19 (by decide) ?_ ?_
  · refine q_iload_n (pc := 25) dX4_within_25 rfl ?_
    refine q_iload_n (pc := 26) dX4_within_26 rfl ?_
    refine q_icmp_ge (pc := 27) 32 dX4_within_27 (by decide) ?_ ?_
    · refine q_aload_n (pc := 32) dX4_within_32 rfl ?_
      refine q_iload_n (pc := 33) dX4_within_33 rfl ?_
      refine q_iload_n (pc := 34) dX4_within_34 rfl ?_
      refine q_isub (pc := 35) dX4_within_35 ?_
      refine q_aload_n (pc := 36) dX4_within_36 rfl ?_
      refine qg_4_2 (pc := 37) dX4_within_37 h0 lf_X4_16 ?_
      refine q_imul (pc := 40) dX4_within_40 ?_
      refine q_iload_n (pc := 41) dX4_within_41 rfl ?_
      refine q_aload_n (pc := 42) dX4_within_42 rfl ?_
      refine qg_4_2 (pc := 43) dX4_within_43 h0 lf_X4_16 ?_
      refine q_aload_n (pc := 46) dX4_within_46 rfl ?_
      refine qg_4_3 (pc := 47) dX4_within_47 h0 lf_X4_19 ?_
      refine q_iadd (pc := 50) dX4_within_50 ?_
      refine q_imul (pc := 51) dX4_within_51 ?_
      refine q_callVv (pc := 52) [.int (((x1 - x2) * (s4 k0 2))), .int ((x2 * ((s4 k0 2) + (s4 k0 3))))] dX4_within_52 lm_X4_120 yX4_layMost_ok yX4_layMost_in h0 (by decide) rfl (sX4_layMost hK h0 ((x1 - x2) * (s4 k0 2)) (x2 * ((s4 k0 2) + (s4 k0 3))) s4) rfl rfl (Nat.le_of_ble_eq_true rfl) ⟨by decide, by decide⟩ (fun r5 s6 => ?_)
      refine q_aload_n (pc := 55) dX4_within_55 rfl ?_
      refine qg_4_9 (pc := 56) dX4_within_56 h0 lf_X4_35 ?_
      refine q_iconst (pc := 59) 0 dX4_within_59 (by decide) ?_
      refine q_iald (pc := 60) dX4_within_60 (qch_4_9 hK h0) ?_
      refine q_if_lt (pc := 61) 68 dX4_within_61 (by decide) ?_ ?_
      · refine q_iconst (pc := 68) 0 dX4_within_68 (by decide) ?_
        exact q_ireturn (pc := 69) dX4_within_69
      refine q_iconst (pc := 64) 1 dX4_within_64 (by decide) ?_
      refine q_goto (pc := 65) 69 dX4_within_65 (by decide) ?_
      exact q_ireturn (pc := 69) dX4_within_69
    refine q_iconst (pc := 30) 0 dX4_within_30 (by decide) ?_
    exact q_ireturn (pc := 31) dX4_within_31
  refine q_bipush (pc := 22) (-2) dX4_within_22 (by decide) ?_
  exact q_ireturn (pc := 24) dX4_within_24
-- LineSearchModel.take(I)I
def fX4_take_37 (k0 : Nat) : Nat → Int32 → qSt → qR
  | 0, _, _ => none
  | n + 1, x2, sg =>
    if (sg k0 10) ≤ x2 then
      some ((sg k0 5), sg)
    else
    if qin x2 (qlen (k0 + 6)) then
    if qin x2 (qlen (k0 + 2)) then
    if qin x2 (qlen (k0 + 6)) then
    if qin x2 (qlen (k0 + 3)) then
    fX4_take_37 k0 n ((x2 + 1)) (qset (qset sg (k0 + 2) (Int32.toNatClampNeg x2) ((sg (k0 + 6) (Int32.toNatClampNeg x2)) / 10)) (k0 + 3) (Int32.toNatClampNeg x2) (((qset sg (k0 + 2) (Int32.toNatClampNeg x2) ((sg (k0 + 6) (Int32.toNatClampNeg x2)) / 10)) (k0 + 6) (Int32.toNatClampNeg x2)) - ((qset sg (k0 + 2) (Int32.toNatClampNeg x2) ((sg (k0 + 6) (Int32.toNatClampNeg x2)) / 10)) (k0 + 6) (Int32.toNatClampNeg x2)) / 10 * 10))
    else none
    else none
    else none
    else none
set_option maxRecDepth 20000 in
set_option maxHeartbeats 4000000 in
theorem tX4_take_37 {b : Nat} {K : List Nat} (hK : qOk K) {k0 : Nat} (h0 : qIn K k0 4) : ∀ (n : Nat) (x2 : Int32) (sg : qSt), qJ RX4 cX4_take 3 6 144 false (fun _ _ => True) b K 37 [some (.ref (b + k0)), none, some (.int x2)] [] sg (fX4_take_37 k0 n x2 sg) := by
  intro n
  induction n with
  | zero => intro x2 sg; exact qJ_none
  | succ n ih =>
    intro x2 sg
    unfold fX4_take_37
    refine q_iload_n (pc := 37) dX4_take_37 rfl ?_
    refine q_aload_n (pc := 38) dX4_take_38 rfl ?_
    refine qg_4_10 (pc := 39) dX4_take_39 h0 lf_X4_100 ?_
    refine q_icmp_ge (pc := 42) 81 dX4_take_42 (by decide) ?_ ?_
    · refine q_aload_n (pc := 81) dX4_take_81 rfl ?_
      refine qg_4_5 (pc := 82) dX4_take_82 h0 lf_X4_44 ?_
      exact q_ireturn (pc := 85) dX4_take_85
    refine q_aload_n (pc := 45) dX4_take_45 rfl ?_
    refine qg_4_6 (pc := 46) dX4_take_46 h0 lf_X4_26 ?_
    refine q_iload_n (pc := 49) dX4_take_49 rfl ?_
    refine q_aload_n (pc := 50) dX4_take_50 rfl ?_
    refine qg_4_11 (pc := 51) dX4_take_51 h0 lf_X4_38 ?_
    refine q_iload_n (pc := 54) dX4_take_54 rfl ?_
    refine q_iald (pc := 55) dX4_take_55 (qch_4_11 hK h0) ?_
    refine q_bipush (pc := 56) 10 dX4_take_56 (by decide) ?_
    refine q_idivc (pc := 58) dX4_take_58 (by decide) ?_
    refine q_iast (pc := 59) dX4_take_59 (qch_4_6 hK h0) ?_
    refine q_aload_n (pc := 60) dX4_take_60 rfl ?_
    refine qg_4_7 (pc := 61) dX4_take_61 h0 lf_X4_29 ?_
    refine q_iload_n (pc := 64) dX4_take_64 rfl ?_
    refine q_aload_n (pc := 65) dX4_take_65 rfl ?_
    refine qg_4_11 (pc := 66) dX4_take_66 h0 lf_X4_38 ?_
    refine q_iload_n (pc := 69) dX4_take_69 rfl ?_
    refine q_iald (pc := 70) dX4_take_70 (qch_4_11 hK h0) ?_
    refine q_bipush (pc := 71) 10 dX4_take_71 (by decide) ?_
    refine q_iremc (pc := 73) dX4_take_73 (by decide) ?_
    refine q_iast (pc := 74) dX4_take_74 (qch_4_7 hK h0) ?_
    refine q_iinc (pc := 75) 1 dX4_take_75 rfl (by decide) (by decide) ?_
    refine q_goto (pc := 78) 37 dX4_take_78 (by decide) ?_
    exact ih ((x2 + 1)) (qset (qset sg (k0 + 2) (Int32.toNatClampNeg x2) ((sg (k0 + 6) (Int32.toNatClampNeg x2)) / 10)) (k0 + 3) (Int32.toNatClampNeg x2) (((qset sg (k0 + 2) (Int32.toNatClampNeg x2) ((sg (k0 + 6) (Int32.toNatClampNeg x2)) / 10)) (k0 + 6) (Int32.toNatClampNeg x2)) - ((qset sg (k0 + 2) (Int32.toNatClampNeg x2) ((sg (k0 + 6) (Int32.toNatClampNeg x2)) / 10)) (k0 + 6) (Int32.toNatClampNeg x2)) / 10 * 10))
def fX4_take (k0 : Nat) (x1 : Int32) (sg : qSt) : qR :=
  qb (fX4_in x1 0 1 sg) fun r1 s2 =>
  if r1 = 0 then
    some ((-2), s2)
  else
  if x1 = 0 then
    qb (fX4_layMeanPlan k0 s2) fun r5 s6 =>
    fX4_take_37 k0 qfu 0 (qset s6 k0 5 (s6 k0 10))
  else
  qb (fX4_layWorstPlan k0 s2) fun r3 s4 =>
  fX4_take_37 k0 qfu 0 (qset s4 k0 5 (s4 k0 10))
set_option maxRecDepth 20000 in
set_option maxHeartbeats 4000000 in
theorem sX4_take {b : Nat} {K : List Nat} (hK : qOk K) {k0 : Nat} (h0 : qIn K k0 4) (x1 : Int32) (sg : qSt) : qS yX4_take cX4_take 3 (some .int) 6 144 b K [.ref (b + k0), .int x1] sg (fX4_take k0 x1 sg) := by
  refine qS_of (own := RX4) rfl (by decide) hK.1 (by simp [Value.category]) (Nat.le_of_ble_eq_true rfl) (fun z _ ty h => by cases h; exact vp_nar_int _) ?_
  show qJ RX4 cX4_take 3 6 144 false (fun _ _ => True) b K 0 [some (.ref (b + k0)), some (.int x1), none] [] sg (fX4_take k0 x1 sg)
  unfold fX4_take
  refine q_iload_n (pc := 0) dX4_take_0 rfl ?_
  refine q_iconst (pc := 1) 0 dX4_take_1 (by decide) ?_
  refine q_iconst (pc := 2) 1 dX4_take_2 (by decide) ?_
  refine q_callSi (pc := 3) [.int x1, .int 0, .int 1] dX4_take_3 lm_X4_47 yX4_in_ok yX4_in_in (sX4_in hK x1 0 1 sg) rfl rfl (Nat.le_of_ble_eq_true rfl) ⟨by decide, by decide⟩ (fun r1 s2 => ?_)
  refine q_if_ne (pc := 6) 12 dX4_take_6 (by decide) ?_ ?_
  · refine q_iload_n (pc := 12) dX4_take_12 rfl ?_
    refine q_if_ne (pc := 13) 23 dX4_take_13 (by decide) ?_ ?_
    · refine q_aload_n (pc := 23) dX4_take_23 rfl ?_
      refine q_callVv (pc := 24) [] dX4_take_24 lm_X4_127 yX4_layWorstPlan_ok yX4_layWorstPlan_in h0 (by decide) rfl (sX4_layWorstPlan hK h0 s2) rfl rfl (Nat.le_of_ble_eq_true rfl) ⟨by decide, by decide⟩ (fun r3 s4 => ?_)
      refine q_aload_n (pc := 27) dX4_take_27 rfl ?_
      refine q_aload_n (pc := 28) dX4_take_28 rfl ?_
      refine qg_4_10 (pc := 29) dX4_take_29 h0 lf_X4_100 ?_
      refine qp_4_5 (pc := 32) dX4_take_32 h0 lf_X4_44 ?_
      refine q_iconst (pc := 35) 0 dX4_take_35 (by decide) ?_
      refine q_istore_n (pc := 36) dX4_take_36 (by decide) ?_
      refine qJ_weak [some (.ref (b + k0)), none, some (.int 0)] ⟨rfl, rfl, trivial⟩ ?_
      exact tX4_take_37 hK h0 qfu 0 (qset s4 k0 5 (s4 k0 10))
    refine q_aload_n (pc := 16) dX4_take_16 rfl ?_
    refine q_callVv (pc := 17) [] dX4_take_17 lm_X4_103 yX4_layMeanPlan_ok yX4_layMeanPlan_in h0 (by decide) rfl (sX4_layMeanPlan hK h0 s2) rfl rfl (Nat.le_of_ble_eq_true rfl) ⟨by decide, by decide⟩ (fun r5 s6 => ?_)
    refine q_goto (pc := 20) 27 dX4_take_20 (by decide) ?_
    refine q_aload_n (pc := 27) dX4_take_27 rfl ?_
    refine q_aload_n (pc := 28) dX4_take_28 rfl ?_
    refine qg_4_10 (pc := 29) dX4_take_29 h0 lf_X4_100 ?_
    refine qp_4_5 (pc := 32) dX4_take_32 h0 lf_X4_44 ?_
    refine q_iconst (pc := 35) 0 dX4_take_35 (by decide) ?_
    refine q_istore_n (pc := 36) dX4_take_36 (by decide) ?_
    refine qJ_weak [some (.ref (b + k0)), none, some (.int 0)] ⟨rfl, rfl, trivial⟩ ?_
    exact tX4_take_37 hK h0 qfu 0 (qset s6 k0 5 (s6 k0 10))
  refine q_bipush (pc := 9) (-2) dX4_take_9 (by decide) ?_
  exact q_ireturn (pc := 11) dX4_take_11
-- LineSearchModel.comesBy(III)I
def fX4_comesBy_3 (k0 : Nat) : Nat → Int32 → Int32 → Int32 → qSt → qR
  | 0, _, _, _, _ => none
  | n + 1, x2, x3, x4, sg =>
    if (sg k0 5) ≤ x4 then
      some ((-6), sg)
    else
    if qin x4 (qlen (k0 + 2)) then
    if (sg (k0 + 2) (Int32.toNatClampNeg x4)) = x2 then
      if qin x4 (qlen (k0 + 3)) then
      if (sg (k0 + 3) (Int32.toNatClampNeg x4)) < x3 then
        fX4_comesBy_3 k0 n x2 x3 ((x4 + 2)) sg
      else
      some (x4, sg)
      else none
    else
    fX4_comesBy_3 k0 n x2 x3 ((x4 + 2)) sg
    else none
set_option maxRecDepth 20000 in
set_option maxHeartbeats 4000000 in
theorem tX4_comesBy_3 {b : Nat} {K : List Nat} (hK : qOk K) {k0 : Nat} (h0 : qIn K k0 4) : ∀ (n : Nat) (x2 x3 x4 : Int32) (sg : qSt), qJ RX4 cX4_comesBy 5 0 0 false (fun _ _ => True) b K 3 [some (.ref (b + k0)), none, some (.int x2), some (.int x3), some (.int x4)] [] sg (fX4_comesBy_3 k0 n x2 x3 x4 sg) := by
  intro n
  induction n with
  | zero => intro x2 x3 x4 sg; exact qJ_none
  | succ n ih =>
    intro x2 x3 x4 sg
    unfold fX4_comesBy_3
    refine q_iload (pc := 3) dX4_comesBy_3 rfl ?_
    refine q_aload_n (pc := 5) dX4_comesBy_5 rfl ?_
    refine qg_4_5 (pc := 6) dX4_comesBy_6 h0 lf_X4_44 ?_
    refine q_icmp_ge (pc := 9) 43 dX4_comesBy_9 (by decide) ?_ ?_
    · refine q_bipush (pc := 43) (-6) dX4_comesBy_43 (by decide) ?_
      exact q_ireturn (pc := 45) dX4_comesBy_45
    refine q_aload_n (pc := 12) dX4_comesBy_12 rfl ?_
    refine qg_4_6 (pc := 13) dX4_comesBy_13 h0 lf_X4_26 ?_
    refine q_iload (pc := 16) dX4_comesBy_16 rfl ?_
    refine q_iald (pc := 18) dX4_comesBy_18 (qch_4_6 hK h0) ?_
    refine q_iload_n (pc := 19) dX4_comesBy_19 rfl ?_
    refine q_icmp_ne (pc := 20) 37 dX4_comesBy_20 (by decide) ?_ ?_
    · refine q_iinc (pc := 37) 2 dX4_comesBy_37 rfl (by decide) (by decide) ?_
      refine q_goto (pc := 40) 3 dX4_comesBy_40 (by decide) ?_
      exact ih x2 x3 ((x4 + 2)) sg
    refine q_aload_n (pc := 23) dX4_comesBy_23 rfl ?_
    refine qg_4_7 (pc := 24) dX4_comesBy_24 h0 lf_X4_29 ?_
    refine q_iload (pc := 27) dX4_comesBy_27 rfl ?_
    refine q_iald (pc := 29) dX4_comesBy_29 (qch_4_7 hK h0) ?_
    refine q_iload_n (pc := 30) dX4_comesBy_30 rfl ?_
    refine q_icmp_lt (pc := 31) 37 dX4_comesBy_31 (by decide) ?_ ?_
    · refine q_iinc (pc := 37) 2 dX4_comesBy_37 rfl (by decide) (by decide) ?_
      refine q_goto (pc := 40) 3 dX4_comesBy_40 (by decide) ?_
      exact ih x2 x3 ((x4 + 2)) sg
    refine q_iload (pc := 34) dX4_comesBy_34 rfl ?_
    exact q_ireturn (pc := 36) dX4_comesBy_36
def fX4_comesBy (k0 : Nat) (x1 x2 x3 : Int32) (sg : qSt) : qR :=
  fX4_comesBy_3 k0 qfu x2 x3 x1 sg
set_option maxRecDepth 20000 in
set_option maxHeartbeats 4000000 in
theorem sX4_comesBy {b : Nat} {K : List Nat} (hK : qOk K) {k0 : Nat} (h0 : qIn K k0 4) (x1 x2 x3 : Int32) (sg : qSt) : qS yX4_comesBy cX4_comesBy 5 (some .int) 0 0 b K [.ref (b + k0), .int x1, .int x2, .int x3] sg (fX4_comesBy k0 x1 x2 x3 sg) := by
  refine qS_of (own := RX4) rfl (by decide) hK.1 (by simp [Value.category]) (Nat.le_of_ble_eq_true rfl) (fun z _ ty h => by cases h; exact vp_nar_int _) ?_
  show qJ RX4 cX4_comesBy 5 0 0 false (fun _ _ => True) b K 0 [some (.ref (b + k0)), some (.int x1), some (.int x2), some (.int x3), none] [] sg (fX4_comesBy k0 x1 x2 x3 sg)
  unfold fX4_comesBy
  refine q_iload_n (pc := 0) dX4_comesBy_0 rfl ?_
  refine q_istore (pc := 1) dX4_comesBy_1 (by decide) ?_
  refine qJ_weak [some (.ref (b + k0)), none, some (.int x2), some (.int x3), some (.int x1)] ⟨rfl, rfl, rfl, rfl, trivial⟩ ?_
  exact tX4_comesBy_3 hK h0 qfu x2 x3 x1 sg
-- LineSearchModel.aheadOf(I)I
def fX4_aheadOf_6 (k0 : Nat) : Nat → Int32 → Int32 → Int32 → qSt → qR
  | 0, _, _, _, _ => none
  | n + 1, x1, x2, x3, sg =>
    if x1 ≤ x3 then
      some (x2, sg)
    else
    if qin x3 (qlen (k0 + 3)) then
    fX4_aheadOf_6 k0 n x1 ((x2 + ((sg (k0 + 3) (Int32.toNatClampNeg x3)) * ((sg k0 2) + (sg k0 3))))) ((x3 + 2)) sg
    else none
set_option maxRecDepth 20000 in
set_option maxHeartbeats 4000000 in
theorem tX4_aheadOf_6 {b : Nat} {K : List Nat} (hK : qOk K) {k0 : Nat} (h0 : qIn K k0 4) : ∀ (n : Nat) (x1 x2 x3 : Int32) (sg : qSt), qJ RX4 cX4_aheadOf 4 0 0 false (fun _ _ => True) b K 6 [some (.ref (b + k0)), some (.int x1), some (.int x2), some (.int x3)] [] sg (fX4_aheadOf_6 k0 n x1 x2 x3 sg) := by
  intro n
  induction n with
  | zero => intro x1 x2 x3 sg; exact qJ_none
  | succ n ih =>
    intro x1 x2 x3 sg
    unfold fX4_aheadOf_6
    refine q_iload_n (pc := 6) dX4_aheadOf_6 rfl ?_
    refine q_iload_n (pc := 7) dX4_aheadOf_7 rfl ?_
    refine q_icmp_ge (pc := 8) 36 dX4_aheadOf_8 (by decide) ?_ ?_
    · refine q_iload_n (pc := 36) dX4_aheadOf_36 rfl ?_
      exact q_ireturn (pc := 37) dX4_aheadOf_37
    refine q_iload_n (pc := 11) dX4_aheadOf_11 rfl ?_
    refine q_aload_n (pc := 12) dX4_aheadOf_12 rfl ?_
    refine qg_4_7 (pc := 13) dX4_aheadOf_13 h0 lf_X4_29 ?_
    refine q_iload_n (pc := 16) dX4_aheadOf_16 rfl ?_
    refine q_iald (pc := 17) dX4_aheadOf_17 (qch_4_7 hK h0) ?_
    refine q_aload_n (pc := 18) dX4_aheadOf_18 rfl ?_
    refine qg_4_2 (pc := 19) dX4_aheadOf_19 h0 lf_X4_16 ?_
    refine q_aload_n (pc := 22) dX4_aheadOf_22 rfl ?_
    refine qg_4_3 (pc := 23) dX4_aheadOf_23 h0 lf_X4_19 ?_
    refine q_iadd (pc := 26) dX4_aheadOf_26 ?_
    refine q_imul (pc := 27) dX4_aheadOf_27 ?_
    refine q_iadd (pc := 28) dX4_aheadOf_28 ?_
    refine q_istore_n (pc := 29) dX4_aheadOf_29 (by decide) ?_
    refine q_iinc (pc := 30) 2 dX4_aheadOf_30 rfl (by decide) (by decide) ?_
    refine q_goto (pc := 33) 6 dX4_aheadOf_33 (by decide) ?_
    exact ih x1 ((x2 + ((sg (k0 + 3) (Int32.toNatClampNeg x3)) * ((sg k0 2) + (sg k0 3))))) ((x3 + 2)) sg
def fX4_aheadOf (k0 : Nat) (x1 : Int32) (sg : qSt) : qR :=
  fX4_aheadOf_6 k0 qfu x1 0 ((x1 - x1 / 2 * 2)) sg
set_option maxRecDepth 20000 in
set_option maxHeartbeats 4000000 in
theorem sX4_aheadOf {b : Nat} {K : List Nat} (hK : qOk K) {k0 : Nat} (h0 : qIn K k0 4) (x1 : Int32) (sg : qSt) : qS yX4_aheadOf cX4_aheadOf 4 (some .int) 0 0 b K [.ref (b + k0), .int x1] sg (fX4_aheadOf k0 x1 sg) := by
  refine qS_of (own := RX4) rfl (by decide) hK.1 (by simp [Value.category]) (Nat.le_of_ble_eq_true rfl) (fun z _ ty h => by cases h; exact vp_nar_int _) ?_
  show qJ RX4 cX4_aheadOf 4 0 0 false (fun _ _ => True) b K 0 [some (.ref (b + k0)), some (.int x1), none, none] [] sg (fX4_aheadOf k0 x1 sg)
  unfold fX4_aheadOf
  refine q_iconst (pc := 0) 0 dX4_aheadOf_0 (by decide) ?_
  refine q_istore_n (pc := 1) dX4_aheadOf_1 (by decide) ?_
  refine q_iload_n (pc := 2) dX4_aheadOf_2 rfl ?_
  refine q_iconst (pc := 3) 2 dX4_aheadOf_3 (by decide) ?_
  refine q_iremc (pc := 4) dX4_aheadOf_4 (by decide) ?_
  refine q_istore_n (pc := 5) dX4_aheadOf_5 (by decide) ?_
  exact tX4_aheadOf_6 hK h0 qfu x1 0 ((x1 - x1 / 2 * 2)) sg
-- LineSearchModel.both(III)I
def fX4_both_98 (k0 : Nat) (x2 x3 y0 : Int32) (sg : qSt) : qR :=
    qb (fX4_aheadOf k0 y0 sg) fun r1 s2 =>
    if x3 = 0 then
      some ((r1 + ((s2 k0 2) * x2)), s2)
    else
    if x3 = 1 then
      qb (fX4_aheadOf k0 y0 s2) fun r3 s4 =>
      if qin y0 (qlen (k0 + 3)) then
      some ((r3 + ((s4 (k0 + 3) (Int32.toNatClampNeg y0)) * ((s4 k0 2) + (s4 k0 3)))), s4)
      else none
    else
    if x3 = 2 then
      some ((y0 - y0 / 2 * 2), s2)
    else
    qb (fX4_term (r1 + ((s2 k0 2) * x2)) ((s2 k0 2) * x2) (x3 - 3) s2) fun r5 s6 =>
    some (r5, s6)
set_option maxRecDepth 20000 in
set_option maxHeartbeats 4000000 in
theorem tX4_both_98 {b : Nat} {K : List Nat} (hK : qOk K) {k0 : Nat} (h0 : qIn K k0 4) : ∀ (x2 x3 y0 : Int32) (sg : qSt), qJ RX4 cX4_both 9 2 46 false (fun _ _ => True) b K 98 [some (.ref (b + k0)), none, some (.int x2), some (.int x3), none, none, none, none, none] [.int y0] sg (fX4_both_98 k0 x2 x3 y0 sg) := by
  intro x2 x3 y0 sg
  unfold fX4_both_98
  refine q_istore (pc := 98) dX4_both_98 (by decide) ?_
  refine q_aload_n (pc := 100) dX4_both_100 rfl ?_
  refine q_iload (pc := 101) dX4_both_101 rfl ?_
  refine q_callVi (pc := 103) [.int y0] dX4_both_103 lm_X4_133 yX4_aheadOf_ok yX4_aheadOf_in h0 (by decide) rfl (sX4_aheadOf hK h0 y0 sg) rfl rfl (Nat.le_of_ble_eq_true rfl) ⟨by decide, by decide⟩ (fun r1 s2 => ?_)
  refine q_aload_n (pc := 106) dX4_both_106 rfl ?_
  refine qg_4_2 (pc := 107) dX4_both_107 h0 lf_X4_16 ?_
  refine q_iload_n (pc := 110) dX4_both_110 rfl ?_
  refine q_imul (pc := 111) dX4_both_111 ?_
  refine q_iadd (pc := 112) dX4_both_112 ?_
  refine q_istore (pc := 113) dX4_both_113 (by decide) ?_
  refine q_iload_n (pc := 115) dX4_both_115 rfl ?_
  refine q_sel (fun hx116_0 => ?_) (fun hx116_0 => ?_)
  · refine q_tabIn (pc := 116) 144 dX4_both_116 (by rw [hx116_0]; decide) (by rw [hx116_0]; decide) (by rw [hx116_0]; rfl) (by decide) ?_
    refine q_iload (pc := 144) dX4_both_144 rfl ?_
    exact q_ireturn (pc := 146) dX4_both_146
  refine q_sel (fun hx116_1 => ?_) (fun hx116_1 => ?_)
  · refine q_tabIn (pc := 116) 147 dX4_both_116 (by rw [hx116_1]; decide) (by rw [hx116_1]; decide) (by rw [hx116_1]; rfl) (by decide) ?_
    refine q_aload_n (pc := 147) dX4_both_147 rfl ?_
    refine q_iload (pc := 148) dX4_both_148 rfl ?_
    refine q_callVi (pc := 150) [.int y0] dX4_both_150 lm_X4_133 yX4_aheadOf_ok yX4_aheadOf_in h0 (by decide) rfl (sX4_aheadOf hK h0 y0 s2) rfl rfl (Nat.le_of_ble_eq_true rfl) ⟨by decide, by decide⟩ (fun r3 s4 => ?_)
    refine q_aload_n (pc := 153) dX4_both_153 rfl ?_
    refine qg_4_7 (pc := 154) dX4_both_154 h0 lf_X4_29 ?_
    refine q_iload (pc := 157) dX4_both_157 rfl ?_
    refine q_iald (pc := 159) dX4_both_159 (qch_4_7 hK h0) ?_
    refine q_aload_n (pc := 160) dX4_both_160 rfl ?_
    refine qg_4_2 (pc := 161) dX4_both_161 h0 lf_X4_16 ?_
    refine q_aload_n (pc := 164) dX4_both_164 rfl ?_
    refine qg_4_3 (pc := 165) dX4_both_165 h0 lf_X4_19 ?_
    refine q_iadd (pc := 168) dX4_both_168 ?_
    refine q_imul (pc := 169) dX4_both_169 ?_
    refine q_iadd (pc := 170) dX4_both_170 ?_
    exact q_ireturn (pc := 171) dX4_both_171
  refine q_sel (fun hx116_2 => ?_) (fun hx116_2 => ?_)
  · refine q_tabIn (pc := 116) 172 dX4_both_116 (by rw [hx116_2]; decide) (by rw [hx116_2]; decide) (by rw [hx116_2]; rfl) (by decide) ?_
    refine q_iload (pc := 172) dX4_both_172 rfl ?_
    refine q_iconst (pc := 174) 2 dX4_both_174 (by decide) ?_
    refine q_iremc (pc := 175) dX4_both_175 (by decide) ?_
    exact q_ireturn (pc := 176) dX4_both_176
  refine q_tabOut (pc := 116) 177 dX4_both_116 (by have := qne 0 0 (by decide) hx116_0; have := qne 1 1 (by decide) hx116_1; have := qne 2 2 (by decide) hx116_2; omega) (by decide) ?_
  refine q_iload (pc := 177) dX4_both_177 rfl ?_
  refine q_aload_n (pc := 179) dX4_both_179 rfl ?_
  refine qg_4_2 (pc := 180) dX4_both_180 h0 lf_X4_16 ?_
  refine q_iload_n (pc := 183) dX4_both_183 rfl ?_
  refine q_imul (pc := 184) dX4_both_184 ?_
  refine q_iload_n (pc := 185) dX4_both_185 rfl ?_
  refine q_iconst (pc := 186) 3 dX4_both_186 (by decide) ?_
  refine q_isub (pc := 187) dX4_both_187 ?_
  refine q_callSi (pc := 188) [.int ((r1 + ((s2 k0 2) * x2))), .int (((s2 k0 2) * x2)), .int ((x3 - 3))] dX4_both_188 lm_X4_69 yX4_term_ok yX4_term_in (sX4_term hK (r1 + ((s2 k0 2) * x2)) ((s2 k0 2) * x2) (x3 - 3) s2) rfl rfl (Nat.le_of_ble_eq_true rfl) ⟨by decide, by decide⟩ (fun r5 s6 => ?_)
  exact q_ireturn (pc := 191) dX4_both_191
def fX4_both_84 (k0 : Nat) (x2 x3 x4 x5 y0 : Int32) (sg : qSt) : qR :=
    if y0 = 0 then
      fX4_both_98 k0 x2 x3 x5 sg
    else
    fX4_both_98 k0 x2 x3 x4 sg
set_option maxRecDepth 20000 in
set_option maxHeartbeats 4000000 in
theorem tX4_both_84 {b : Nat} {K : List Nat} (hK : qOk K) {k0 : Nat} (h0 : qIn K k0 4) : ∀ (x2 x3 x4 x5 y0 : Int32) (sg : qSt), qJ RX4 cX4_both 9 2 46 false (fun _ _ => True) b K 84 [some (.ref (b + k0)), none, some (.int x2), some (.int x3), some (.int x4), some (.int x5), none, none, none] [.int y0] sg (fX4_both_84 k0 x2 x3 x4 x5 y0 sg) := by
  intro x2 x3 x4 x5 y0 sg
  unfold fX4_both_84
  refine q_istore (pc := 84) dX4_both_84 (by decide) ?_
  refine q_iload (pc := 86) dX4_both_86 rfl ?_
  refine q_if_eq (pc := 88) 96 dX4_both_88 (by decide) ?_ ?_
  · refine q_iload (pc := 96) dX4_both_96 rfl ?_
    refine qJ_weak [some (.ref (b + k0)), none, some (.int x2), some (.int x3), none, none, none, none, none] ⟨rfl, rfl, rfl, trivial⟩ ?_
    exact tX4_both_98 hK h0 x2 x3 x5 sg
  refine q_iload (pc := 91) dX4_both_91 rfl ?_
  refine q_goto (pc := 93) 98 dX4_both_93 (by decide) ?_
  refine qJ_weak [some (.ref (b + k0)), none, some (.int x2), some (.int x3), none, none, none, none, none] ⟨rfl, rfl, rfl, trivial⟩ ?_
  exact tX4_both_98 hK h0 x2 x3 x4 sg
def fX4_both_54 (k0 : Nat) (x2 x3 x4 x5 : Int32) (sg : qSt) : qR :=
    if x5 < 0 then
      fX4_both_84 k0 x2 x3 x4 x5 1 sg
    else
    if x4 < 0 then
      fX4_both_84 k0 x2 x3 x4 x5 0 sg
    else
    qb (fX4_aheadOf k0 x4 sg) fun r1 s2 =>
    qb (fX4_aheadOf k0 x5 s2) fun r3 s4 =>
    if r3 < r1 then
      fX4_both_84 k0 x2 x3 x4 x5 0 s4
    else
    fX4_both_84 k0 x2 x3 x4 x5 1 s4
set_option maxRecDepth 20000 in
set_option maxHeartbeats 4000000 in
theorem tX4_both_54 {b : Nat} {K : List Nat} (hK : qOk K) {k0 : Nat} (h0 : qIn K k0 4) : ∀ (x2 x3 x4 x5 : Int32) (sg : qSt), qJ RX4 cX4_both 9 2 46 false (fun _ _ => True) b K 54 [some (.ref (b + k0)), none, some (.int x2), some (.int x3), some (.int x4), some (.int x5), none, none, none] [] sg (fX4_both_54 k0 x2 x3 x4 x5 sg) := by
  intro x2 x3 x4 x5 sg
  unfold fX4_both_54
  refine q_iload (pc := 54) dX4_both_54 rfl ?_
  refine q_if_lt (pc := 56) 79 dX4_both_56 (by decide) ?_ ?_
  · refine q_iconst (pc := 79) 1 dX4_both_79 (by decide) ?_
    refine q_goto (pc := 80) 84 dX4_both_80 (by decide) ?_
    exact tX4_both_84 hK h0 x2 x3 x4 x5 1 sg
  refine q_iload (pc := 59) dX4_both_59 rfl ?_
  refine q_if_lt (pc := 61) 83 dX4_both_61 (by decide) ?_ ?_
  · refine q_iconst (pc := 83) 0 dX4_both_83 (by decide) ?_
    exact tX4_both_84 hK h0 x2 x3 x4 x5 0 sg
  refine q_aload_n (pc := 64) dX4_both_64 rfl ?_
  refine q_iload (pc := 65) dX4_both_65 rfl ?_
  refine q_callVi (pc := 67) [.int x4] dX4_both_67 lm_X4_133 yX4_aheadOf_ok yX4_aheadOf_in h0 (by decide) rfl (sX4_aheadOf hK h0 x4 sg) rfl rfl (Nat.le_of_ble_eq_true rfl) ⟨by decide, by decide⟩ (fun r1 s2 => ?_)
  refine q_aload_n (pc := 70) dX4_both_70 rfl ?_
  refine q_iload (pc := 71) dX4_both_71 rfl ?_
  refine q_callVi (pc := 73) [.int x5] dX4_both_73 lm_X4_133 yX4_aheadOf_ok yX4_aheadOf_in h0 (by decide) rfl (sX4_aheadOf hK h0 x5 s2) rfl rfl (Nat.le_of_ble_eq_true rfl) ⟨by decide, by decide⟩ (fun r3 s4 => ?_)
  refine q_icmp_gt (pc := 76) 83 dX4_both_76 (by decide) ?_ ?_
  · refine q_iconst (pc := 83) 0 dX4_both_83 (by decide) ?_
    exact tX4_both_84 hK h0 x2 x3 x4 x5 0 s4
  refine q_iconst (pc := 79) 1 dX4_both_79 (by decide) ?_
  refine q_goto (pc := 80) 84 dX4_both_80 (by decide) ?_
  exact tX4_both_84 hK h0 x2 x3 x4 x5 1 s4
def fX4_both (k0 : Nat) (x1 x2 x3 : Int32) (sg : qSt) : qR :=
  qb (fX4_isPlace k0 x1 x2 sg) fun r1 s2 =>
  if r1 = 0 then
    some ((-1), s2)
  else
  qb (fX4_in x3 0 4 s2) fun r3 s4 =>
  if r3 = 0 then
    some ((-2), s4)
  else
  qb (fX4_comesBy k0 0 x1 x2 s4) fun r5 s6 =>
  qb (fX4_comesBy k0 1 x1 x2 s6) fun r7 s8 =>
  if 0 ≤ r5 then
    fX4_both_54 k0 x2 x3 r5 r7 s8
  else
  if 0 ≤ r7 then
    fX4_both_54 k0 x2 x3 r5 r7 s8
  else
  some ((-6), s8)
set_option maxRecDepth 20000 in
set_option maxHeartbeats 4000000 in
theorem sX4_both {b : Nat} {K : List Nat} (hK : qOk K) {k0 : Nat} (h0 : qIn K k0 4) (x1 x2 x3 : Int32) (sg : qSt) : qS yX4_both cX4_both 9 (some .int) 2 46 b K [.ref (b + k0), .int x1, .int x2, .int x3] sg (fX4_both k0 x1 x2 x3 sg) := by
  refine qS_of (own := RX4) rfl (by decide) hK.1 (by simp [Value.category]) (Nat.le_of_ble_eq_true rfl) (fun z _ ty h => by cases h; exact vp_nar_int _) ?_
  show qJ RX4 cX4_both 9 2 46 false (fun _ _ => True) b K 0 [some (.ref (b + k0)), some (.int x1), some (.int x2), some (.int x3), none, none, none, none, none] [] sg (fX4_both k0 x1 x2 x3 sg)
  unfold fX4_both
  refine q_aload_n (pc := 0) dX4_both_0 rfl ?_
  refine q_iload_n (pc := 1) dX4_both_1 rfl ?_
  refine q_iload_n (pc := 2) dX4_both_2 rfl ?_
  refine q_callVi (pc := 3) [.int x1, .int x2] dX4_both_3 lm_X4_51 yX4_isPlace_ok yX4_isPlace_in h0 (by decide) rfl (sX4_isPlace hK h0 x1 x2 sg) rfl rfl (Nat.le_of_ble_eq_true rfl) ⟨by decide, by decide⟩ (fun r1 s2 => ?_)
  refine q_if_ne (pc := 6) 11 dX4_both_6 (by decide) ?_ ?_
  · refine q_iload_n (pc := 11) dX4_both_11 rfl ?_
    refine q_iconst (pc := 12) 0 dX4_both_12 (by decide) ?_
    refine q_iconst (pc := 13) 4 dX4_both_13 (by decide) ?_
    refine q_callSi (pc := 14) [.int x3, .int 0, .int 4] dX4_both_14 lm_X4_47 yX4_in_ok yX4_in_in (sX4_in hK x3 0 4 s2) rfl rfl (Nat.le_of_ble_eq_true rfl) ⟨by decide, by decide⟩ (fun r3 s4 => ?_)
    refine q_if_ne (pc := 17) 23 dX4_both_17 (by decide) ?_ ?_
    · refine q_aload_n (pc := 23) dX4_both_23 rfl ?_
      refine q_iconst (pc := 24) 0 dX4_both_24 (by decide) ?_
      refine q_iload_n (pc := 25) dX4_both_25 rfl ?_
      refine q_iload_n (pc := 26) dX4_both_26 rfl ?_
      refine q_callVi (pc := 27) [.int 0, .int x1, .int x2] dX4_both_27 lm_X4_130 yX4_comesBy_ok yX4_comesBy_in h0 (by decide) rfl (sX4_comesBy hK h0 0 x1 x2 s4) rfl rfl (Nat.le_of_ble_eq_true rfl) ⟨by decide, by decide⟩ (fun r5 s6 => ?_)
      refine q_istore (pc := 30) dX4_both_30 (by decide) ?_
      refine q_aload_n (pc := 32) dX4_both_32 rfl ?_
      refine q_iconst (pc := 33) 1 dX4_both_33 (by decide) ?_
      refine q_iload_n (pc := 34) dX4_both_34 rfl ?_
      refine q_iload_n (pc := 35) dX4_both_35 rfl ?_
      refine q_callVi (pc := 36) [.int 1, .int x1, .int x2] dX4_both_36 lm_X4_130 yX4_comesBy_ok yX4_comesBy_in h0 (by decide) rfl (sX4_comesBy hK h0 1 x1 x2 s6) rfl rfl (Nat.le_of_ble_eq_true rfl) ⟨by decide, by decide⟩ (fun r7 s8 => ?_)
      refine q_istore (pc := 39) dX4_both_39 (by decide) ?_
      refine q_iload (pc := 41) dX4_both_41 rfl ?_
      refine q_if_ge (pc := 43) 54 dX4_both_43 (by decide) ?_ ?_
      · refine qJ_weak [some (.ref (b + k0)), none, some (.int x2), some (.int x3), some (.int r5), some (.int r7), none, none, none] ⟨rfl, rfl, rfl, rfl, rfl, trivial⟩ ?_
        exact tX4_both_54 hK h0 x2 x3 r5 r7 s8
      refine q_iload (pc := 46) dX4_both_46 rfl ?_
      refine q_if_ge (pc := 48) 54 dX4_both_48 (by decide) ?_ ?_
      · refine qJ_weak [some (.ref (b + k0)), none, some (.int x2), some (.int x3), some (.int r5), some (.int r7), none, none, none] ⟨rfl, rfl, rfl, rfl, rfl, trivial⟩ ?_
        exact tX4_both_54 hK h0 x2 x3 r5 r7 s8
      refine q_bipush (pc := 51) (-6) dX4_both_51 (by decide) ?_
      exact q_ireturn (pc := 53) dX4_both_53
    refine q_bipush (pc := 20) (-2) dX4_both_20 (by decide) ?_
    exact q_ireturn (pc := 22) dX4_both_22
  refine q_iconst (pc := 9) (-1) dX4_both_9 (by decide) ?_
  exact q_ireturn (pc := 10) dX4_both_10
-- LineSearchModel.end()I
def fX4_end_41 (k0 : Nat) (c6 : Int32 → Int32 → Int32 → qSt → qR) (x2 x3 y0 y1 : Int32) (sg : qSt) : qR :=
    if (x3 - x3 / 2 * 2) = 1 then
      if qin x3 (qlen (k0 + 3)) then
      c6 ((y0 + y1)) ((x2 + ((sg (k0 + 3) (Int32.toNatClampNeg x3)) * ((sg k0 2) + (sg k0 3))))) ((x3 + 1)) sg
      else none
    else
    c6 ((y0 + y1)) ((x2 + 0)) ((x3 + 1)) sg
set_option maxRecDepth 20000 in
set_option maxHeartbeats 4000000 in
theorem tX4_end_41 {b : Nat} {K : List Nat} (hK : qOk K) {k0 : Nat} {c6 : Int32 → Int32 → Int32 → qSt → qR} (h0 : qIn K k0 4) (hc6 : ∀ (x1 x2 x3 : Int32) (sg : qSt), qJ RX4 cX4_end 4 0 0 false (fun _ _ => True) b K 6 [some (.ref (b + k0)), some (.int x1), some (.int x2), some (.int x3)] [] sg (c6 x1 x2 x3 sg)) : ∀ (x2 x3 y0 y1 : Int32) (sg : qSt), qJ RX4 cX4_end 4 0 0 false (fun _ _ => True) b K 41 [some (.ref (b + k0)), none, some (.int x2), some (.int x3)] [.int y1, .int y0] sg (fX4_end_41 k0 c6 x2 x3 y0 y1 sg) := by
  intro x2 x3 y0 y1 sg
  unfold fX4_end_41
  refine q_iadd (pc := 41) dX4_end_41 ?_
  refine q_istore_n (pc := 42) dX4_end_42 (by decide) ?_
  refine q_iload_n (pc := 43) dX4_end_43 rfl ?_
  refine q_iload_n (pc := 44) dX4_end_44 rfl ?_
  refine q_iconst (pc := 45) 2 dX4_end_45 (by decide) ?_
  refine q_iremc (pc := 46) dX4_end_46 (by decide) ?_
  refine q_iconst (pc := 47) 1 dX4_end_47 (by decide) ?_
  refine q_icmp_ne (pc := 48) 70 dX4_end_48 (by decide) ?_ ?_
  · refine q_iconst (pc := 70) 0 dX4_end_70 (by decide) ?_
    refine q_iadd (pc := 71) dX4_end_71 ?_
    refine q_istore_n (pc := 72) dX4_end_72 (by decide) ?_
    refine q_iinc (pc := 73) 1 dX4_end_73 rfl (by decide) (by decide) ?_
    refine q_goto (pc := 76) 6 dX4_end_76 (by decide) ?_
    exact hc6 ((y0 + y1)) ((x2 + 0)) ((x3 + 1)) sg
  refine q_aload_n (pc := 51) dX4_end_51 rfl ?_
  refine qg_4_7 (pc := 52) dX4_end_52 h0 lf_X4_29 ?_
  refine q_iload_n (pc := 55) dX4_end_55 rfl ?_
  refine q_iald (pc := 56) dX4_end_56 (qch_4_7 hK h0) ?_
  refine q_aload_n (pc := 57) dX4_end_57 rfl ?_
  refine qg_4_2 (pc := 58) dX4_end_58 h0 lf_X4_16 ?_
  refine q_aload_n (pc := 61) dX4_end_61 rfl ?_
  refine qg_4_3 (pc := 62) dX4_end_62 h0 lf_X4_19 ?_
  refine q_iadd (pc := 65) dX4_end_65 ?_
  refine q_imul (pc := 66) dX4_end_66 ?_
  refine q_goto (pc := 67) 71 dX4_end_67 (by decide) ?_
  refine q_iadd (pc := 71) dX4_end_71 ?_
  refine q_istore_n (pc := 72) dX4_end_72 (by decide) ?_
  refine q_iinc (pc := 73) 1 dX4_end_73 rfl (by decide) (by decide) ?_
  refine q_goto (pc := 76) 6 dX4_end_76 (by decide) ?_
  exact hc6 ((y0 + y1)) ((x2 + ((sg (k0 + 3) (Int32.toNatClampNeg x3)) * ((sg k0 2) + (sg k0 3))))) ((x3 + 1)) sg
def fX4_end_6 (k0 : Nat) : Nat → Int32 → Int32 → Int32 → qSt → qR
  | 0, _, _, _, _ => none
  | n + 1, x1, x2, x3, sg =>
    if (sg k0 5) ≤ x3 then
      if x1 ≤ x2 then
        some (x2, sg)
      else
      some (x1, sg)
    else
    if (x3 - x3 / 2 * 2) = 0 then
      if qin x3 (qlen (k0 + 3)) then
      fX4_end_41 k0 (fun z1 z2 z3 sg => fX4_end_6 k0 n z1 z2 z3 sg) x2 x3 x1 (((sg (k0 + 3) (Int32.toNatClampNeg x3)) * ((sg k0 2) + (sg k0 3)))) sg
      else none
    else
    fX4_end_41 k0 (fun z1 z2 z3 sg => fX4_end_6 k0 n z1 z2 z3 sg) x2 x3 x1 0 sg
set_option maxRecDepth 20000 in
set_option maxHeartbeats 4000000 in
theorem tX4_end_6 {b : Nat} {K : List Nat} (hK : qOk K) {k0 : Nat} (h0 : qIn K k0 4) : ∀ (n : Nat) (x1 x2 x3 : Int32) (sg : qSt), qJ RX4 cX4_end 4 0 0 false (fun _ _ => True) b K 6 [some (.ref (b + k0)), some (.int x1), some (.int x2), some (.int x3)] [] sg (fX4_end_6 k0 n x1 x2 x3 sg) := by
  intro n
  induction n with
  | zero => intro x1 x2 x3 sg; exact qJ_none
  | succ n ih =>
    intro x1 x2 x3 sg
    unfold fX4_end_6
    refine q_iload_n (pc := 6) dX4_end_6 rfl ?_
    refine q_aload_n (pc := 7) dX4_end_7 rfl ?_
    refine qg_4_5 (pc := 8) dX4_end_8 h0 lf_X4_44 ?_
    refine q_icmp_ge (pc := 11) 79 dX4_end_11 (by decide) ?_ ?_
    · refine q_iload_n (pc := 79) dX4_end_79 rfl ?_
      refine q_iload_n (pc := 80) dX4_end_80 rfl ?_
      refine q_icmp_le (pc := 81) 88 dX4_end_81 (by decide) ?_ ?_
      · refine q_iload_n (pc := 88) dX4_end_88 rfl ?_
        exact q_ireturn (pc := 89) dX4_end_89
      refine q_iload_n (pc := 84) dX4_end_84 rfl ?_
      refine q_goto (pc := 85) 89 dX4_end_85 (by decide) ?_
      exact q_ireturn (pc := 89) dX4_end_89
    refine q_iload_n (pc := 14) dX4_end_14 rfl ?_
    refine q_iload_n (pc := 15) dX4_end_15 rfl ?_
    refine q_iconst (pc := 16) 2 dX4_end_16 (by decide) ?_
    refine q_iremc (pc := 17) dX4_end_17 (by decide) ?_
    refine q_if_ne (pc := 18) 40 dX4_end_18 (by decide) ?_ ?_
    · refine q_iconst (pc := 40) 0 dX4_end_40 (by decide) ?_
      refine qJ_weak [some (.ref (b + k0)), none, some (.int x2), some (.int x3)] ⟨rfl, rfl, rfl, trivial⟩ ?_
      exact tX4_end_41 hK h0 (fun z1 z2 z3 sg => ih z1 z2 z3 sg) x2 x3 x1 0 sg
    refine q_aload_n (pc := 21) dX4_end_21 rfl ?_
    refine qg_4_7 (pc := 22) dX4_end_22 h0 lf_X4_29 ?_
    refine q_iload_n (pc := 25) dX4_end_25 rfl ?_
    refine q_iald (pc := 26) dX4_end_26 (qch_4_7 hK h0) ?_
    refine q_aload_n (pc := 27) dX4_end_27 rfl ?_
    refine qg_4_2 (pc := 28) dX4_end_28 h0 lf_X4_16 ?_
    refine q_aload_n (pc := 31) dX4_end_31 rfl ?_
    refine qg_4_3 (pc := 32) dX4_end_32 h0 lf_X4_19 ?_
    refine q_iadd (pc := 35) dX4_end_35 ?_
    refine q_imul (pc := 36) dX4_end_36 ?_
    refine q_goto (pc := 37) 41 dX4_end_37 (by decide) ?_
    refine qJ_weak [some (.ref (b + k0)), none, some (.int x2), some (.int x3)] ⟨rfl, rfl, rfl, trivial⟩ ?_
    exact tX4_end_41 hK h0 (fun z1 z2 z3 sg => ih z1 z2 z3 sg) x2 x3 x1 (((sg (k0 + 3) (Int32.toNatClampNeg x3)) * ((sg k0 2) + (sg k0 3)))) sg
def fX4_end (k0 : Nat) (sg : qSt) : qR :=
  fX4_end_6 k0 qfu 0 0 0 sg
set_option maxRecDepth 20000 in
set_option maxHeartbeats 4000000 in
theorem sX4_end {b : Nat} {K : List Nat} (hK : qOk K) {k0 : Nat} (h0 : qIn K k0 4) (sg : qSt) : qS yX4_end cX4_end 4 (some .int) 0 0 b K [.ref (b + k0)] sg (fX4_end k0 sg) := by
  refine qS_of (own := RX4) rfl (by decide) hK.1 (by simp [Value.category]) (Nat.le_of_ble_eq_true rfl) (fun z _ ty h => by cases h; exact vp_nar_int _) ?_
  show qJ RX4 cX4_end 4 0 0 false (fun _ _ => True) b K 0 [some (.ref (b + k0)), none, none, none] [] sg (fX4_end k0 sg)
  unfold fX4_end
  refine q_iconst (pc := 0) 0 dX4_end_0 (by decide) ?_
  refine q_istore_n (pc := 1) dX4_end_1 (by decide) ?_
  refine q_iconst (pc := 2) 0 dX4_end_2 (by decide) ?_
  refine q_istore_n (pc := 3) dX4_end_3 (by decide) ?_
  refine q_iconst (pc := 4) 0 dX4_end_4 (by decide) ?_
  refine q_istore_n (pc := 5) dX4_end_5 (by decide) ?_
  exact tX4_end_6 hK h0 qfu 0 0 0 sg
-- LineSearchModel.told(I)I
def fX4_told (k0 : Nat) (x1 : Int32) (sg : qSt) : qR :=
  if x1 = 0 then
    some ((sg k0 0), sg)
  else
  if x1 = 1 then
    some ((sg k0 1), sg)
  else
  if x1 = 2 then
    some ((sg k0 2), sg)
  else
  if x1 = 3 then
    some ((sg k0 3), sg)
  else
  if x1 = 4 then
    some ((sg k0 5), sg)
  else
  if x1 = 5 then
    qb (fX4_rest k0 0 sg) fun r1 s2 =>
    some (r1, s2)
  else
  if x1 = 6 then
    qb (fX4_costAhead k0 (sg k0 5) sg) fun r3 s4 =>
    some (r3, s4)
  else
  some ((-2), sg)
set_option maxRecDepth 20000 in
set_option maxHeartbeats 4000000 in
theorem sX4_told {b : Nat} {K : List Nat} (hK : qOk K) {k0 : Nat} (h0 : qIn K k0 4) (x1 : Int32) (sg : qSt) : qS yX4_told cX4_told 2 (some .int) 3 65 b K [.ref (b + k0), .int x1] sg (fX4_told k0 x1 sg) := by
  refine qS_of (own := RX4) rfl (by decide) hK.1 (by simp [Value.category]) (Nat.le_of_ble_eq_true rfl) (fun z _ ty h => by cases h; exact vp_nar_int _) ?_
  show qJ RX4 cX4_told 2 3 65 false (fun _ _ => True) b K 0 [some (.ref (b + k0)), some (.int x1)] [] sg (fX4_told k0 x1 sg)
  unfold fX4_told
  refine q_iload_n (pc := 0) dX4_told_0 rfl ?_
  refine q_sel (fun hx1_0 => ?_) (fun hx1_0 => ?_)
  · refine q_tabIn (pc := 1) 44 dX4_told_1 (by rw [hx1_0]; decide) (by rw [hx1_0]; decide) (by rw [hx1_0]; rfl) (by decide) ?_
    refine q_aload_n (pc := 44) dX4_told_44 rfl ?_
    refine qg_4_0 (pc := 45) dX4_told_45 h0 lf_X4_7 ?_
    exact q_ireturn (pc := 48) dX4_told_48
  refine q_sel (fun hx1_1 => ?_) (fun hx1_1 => ?_)
  · refine q_tabIn (pc := 1) 49 dX4_told_1 (by rw [hx1_1]; decide) (by rw [hx1_1]; decide) (by rw [hx1_1]; rfl) (by decide) ?_
    refine q_aload_n (pc := 49) dX4_told_49 rfl ?_
    refine qg_4_1 (pc := 50) dX4_told_50 h0 lf_X4_13 ?_
    exact q_ireturn (pc := 53) dX4_told_53
  refine q_sel (fun hx1_2 => ?_) (fun hx1_2 => ?_)
  · refine q_tabIn (pc := 1) 54 dX4_told_1 (by rw [hx1_2]; decide) (by rw [hx1_2]; decide) (by rw [hx1_2]; rfl) (by decide) ?_
    refine q_aload_n (pc := 54) dX4_told_54 rfl ?_
    refine qg_4_2 (pc := 55) dX4_told_55 h0 lf_X4_16 ?_
    exact q_ireturn (pc := 58) dX4_told_58
  refine q_sel (fun hx1_3 => ?_) (fun hx1_3 => ?_)
  · refine q_tabIn (pc := 1) 59 dX4_told_1 (by rw [hx1_3]; decide) (by rw [hx1_3]; decide) (by rw [hx1_3]; rfl) (by decide) ?_
    refine q_aload_n (pc := 59) dX4_told_59 rfl ?_
    refine qg_4_3 (pc := 60) dX4_told_60 h0 lf_X4_19 ?_
    exact q_ireturn (pc := 63) dX4_told_63
  refine q_sel (fun hx1_4 => ?_) (fun hx1_4 => ?_)
  · refine q_tabIn (pc := 1) 64 dX4_told_1 (by rw [hx1_4]; decide) (by rw [hx1_4]; decide) (by rw [hx1_4]; rfl) (by decide) ?_
    refine q_aload_n (pc := 64) dX4_told_64 rfl ?_
    refine qg_4_5 (pc := 65) dX4_told_65 h0 lf_X4_44 ?_
    exact q_ireturn (pc := 68) dX4_told_68
  refine q_sel (fun hx1_5 => ?_) (fun hx1_5 => ?_)
  · refine q_tabIn (pc := 1) 69 dX4_told_1 (by rw [hx1_5]; decide) (by rw [hx1_5]; decide) (by rw [hx1_5]; rfl) (by decide) ?_
    refine q_aload_n (pc := 69) dX4_told_69 rfl ?_
    refine q_iconst (pc := 70) 0 dX4_told_70 (by decide) ?_
    refine q_callVi (pc := 71) [.int 0] dX4_told_71 lm_X4_82 yX4_rest_ok yX4_rest_in h0 (by decide) rfl (sX4_rest hK h0 0 sg) rfl rfl (Nat.le_of_ble_eq_true rfl) ⟨by decide, by decide⟩ (fun r1 s2 => ?_)
    exact q_ireturn (pc := 74) dX4_told_74
  refine q_sel (fun hx1_6 => ?_) (fun hx1_6 => ?_)
  · refine q_tabIn (pc := 1) 75 dX4_told_1 (by rw [hx1_6]; decide) (by rw [hx1_6]; decide) (by rw [hx1_6]; rfl) (by decide) ?_
    refine q_aload_n (pc := 75) dX4_told_75 rfl ?_
    refine q_aload_n (pc := 76) dX4_told_76 rfl ?_
    refine qg_4_5 (pc := 77) dX4_told_77 h0 lf_X4_44 ?_
    refine q_callVi (pc := 80) [.int ((sg k0 5))] dX4_told_80 lm_X4_55 yX4_costAhead_ok yX4_costAhead_in h0 (by decide) rfl (sX4_costAhead hK h0 (sg k0 5) sg) rfl rfl (Nat.le_of_ble_eq_true rfl) ⟨by decide, by decide⟩ (fun r3 s4 => ?_)
    exact q_ireturn (pc := 83) dX4_told_83
  refine q_tabOut (pc := 1) 84 dX4_told_1 (by have := qne 0 0 (by decide) hx1_0; have := qne 1 1 (by decide) hx1_1; have := qne 2 2 (by decide) hx1_2; have := qne 3 3 (by decide) hx1_3; have := qne 4 4 (by decide) hx1_4; have := qne 5 5 (by decide) hx1_5; have := qne 6 6 (by decide) hx1_6; omega) (by decide) ?_
  refine q_bipush (pc := 84) (-2) dX4_told_84 (by decide) ?_
  exact q_ireturn (pc := 86) dX4_told_86
end
section
/-! ===== constructors: a judgement qI with a world that grows ===== -/
def qI (own : String) (cc : ByteArray) (fr lo b h0 : Nat) (pc : Nat) (st : List Value) (ws : ClassId → va_W) (n ca sl : Nat) (wE : ClassId → va_W) (nE cE sE : Nat) : Prop :=
  ∀ (p : Program) (l : Launch) (ev : Env) (R : Room) (s : State) (m : MethodId) (args : Array Value) (below : List Frame) (meth : Method) (c : Code) (H : Heap) (locs : List Loc) (Q : State → Prop) (dC : Nat → ClassId) (dI : Nat → Nat → Nat) (cA : ClassId) (A : Nat → Prop),
    CallFix p m c cc 1 s args qtbl own ∧ meth.name = "<init>" ∧ (fr ≤ R.frames ∧ lo ≤ R.locals ∧ cE ≤ R.cells ∧ sE ≤ R.slots) ∧ qKK dC dI cA s ∧ (∀ q, s.heap.size ≤ q → A q) →
    va_P (dC, dI) qcl (ws cA) H → va_D A (ws cA) → va_S A s.heap H locs → b + n ≤ H.size ∧ s.heap.size + ca = b + n →
    (∀ (pcr : Nat) (H' : Heap) (locs' : List Loc) (ls' : Array Slot), decode cc pcr = .ok (.return_, 1) → va_P (dC, dI) qcl (wE cA) H' → va_D A (wE cA) → va_S A s.heap H' locs' → b + nE ≤ H'.size → W p l ev R s m args below meth c H' locs' cE sE Q (F0 m pcr ls' [])) →
    ∀ ls : Array Slot, ls.size = 1 ∧ ls[0]? = some (.val (.ref (b + h0))) → W p l ev R s m args below meth c H locs ca sl Q (F0 m pc ls st)
theorem q_size {p : Program} {l : Launch} {e : Env} {R : Room} {s : State} {m : MethodId} {args : Array Value} {below : List Frame} {meth : Method} {c : Code} {H : Heap} {locs : List Loc} {cells slots : Nat} {Q : State → Prop} {g : JFrame} (k : H.size ≤ s.heap.size + cells → W p l e R s m args below meth c H locs cells slots Q g) : W p l e R s m args below meth c H locs cells slots Q g := fun T hT X => k (by rw [← hT]; exact X.heapSize) T hT X
section QI
variable {own : String} {cc : ByteArray} {fr lo b h0 : Nat} {pc : Nat} {st : List Value} {ws : ClassId → va_W} {n ca sl : Nat} {wE : ClassId → va_W} {nE cE sE : Nat}
theorem i_aload (hd : decode cc pc = .ok (.aload_n 0, 1)) (k : qI own cc fr lo b h0 (pc + 1) (.ref (b + h0) :: st) ws (n) (ca) (sl) wE nE cE sE) : qI own cc fr lo b h0 pc st ws (n) (ca) (sl) wE nE cE sE :=
  fun p l ev R s m args below meth c H locs Q dC dI cA A hF hP hD hS hz hr ls hL => lv_aload_n hF.1.1 hF.1.2.1 hd rfl hL.2 (k p l ev R s m args below meth c H locs Q dC dI cA A hF hP hD hS hz hr ls hL)
theorem i_iconst {i : Int} (v : Int32) (hd : decode cc pc = .ok (.iconst i, 1)) (hv : Int32.ofInt i = v) (k : qI own cc fr lo b h0 (pc + 1) (.int v :: st) ws (n) (ca) (sl) wE nE cE sE) : qI own cc fr lo b h0 pc st ws (n) (ca) (sl) wE nE cE sE :=
  fun p l ev R s m args below meth c H locs Q dC dI cA A hF hP hD hS hz hr ls hL => lv_iconst hF.1.1 hF.1.2.1 hd hv (k p l ev R s m args below meth c H locs Q dC dI cA A hF hP hD hS hz hr ls hL)
theorem i_bipush {i : Int} (v : Int32) (hd : decode cc pc = .ok (.bipush i, 2)) (hv : (Int8.ofInt i).toInt32 = v) (k : qI own cc fr lo b h0 (pc + 2) (.int v :: st) ws (n) (ca) (sl) wE nE cE sE) : qI own cc fr lo b h0 pc st ws (n) (ca) (sl) wE nE cE sE :=
  fun p l ev R s m args below meth c H locs Q dC dI cA A hF hP hD hS hz hr ls hL => lv_bipush hF.1.1 hF.1.2.1 hd hv (k p l ev R s m args below meth c H locs Q dC dI cA A hF hP hD hS hz hr ls hL)
theorem i_sipush {i : Int} (v : Int32) (hd : decode cc pc = .ok (.sipush i, 3)) (hv : (Int16.ofInt i).toInt32 = v) (k : qI own cc fr lo b h0 (pc + 3) (.int v :: st) ws (n) (ca) (sl) wE nE cE sE) : qI own cc fr lo b h0 pc st ws (n) (ca) (sl) wE nE cE sE :=
  fun p l ev R s m args below meth c H locs Q dC dI cA A hF hP hD hS hz hr ls hL => lv_sipush hF.1.1 hF.1.2.1 hd hv (k p l ev R s m args below meth c H locs Q dC dI cA A hF hP hD hS hz hr ls hL)
theorem i_dup {v : Value} (hd : decode cc pc = .ok (.dup, 1)) (hv : v.category = 1) (k : qI own cc fr lo b h0 (pc + 1) (v :: v :: st) ws (n) (ca) (sl) wE nE cE sE) : qI own cc fr lo b h0 pc (v :: st) ws (n) (ca) (sl) wE nE cE sE :=
  fun p l ev R s m args below meth c H locs Q dC dI cA A hF hP hD hS hz hr ls hL => lv_dup hF.1.1 hF.1.2.1 hd hv (k p l ev R s m args below meth c H locs Q dC dI cA A hF hP hD hS hz hr ls hL)
theorem i_return (hd : decode cc pc = .ok (.return_, 1)) : qI own cc fr lo b h0 pc [] wE nE cE sE wE nE cE sE :=
  fun p l ev R s m args below meth c H locs Q dC dI cA A hF hP hD hS hz hr ls hL => hr pc H locs ls hd hP hD hS hz.1
theorem i_eq {ws' : ClassId → va_W} (h : ∀ cA, ws cA = ws' cA) (k : qI own cc fr lo b h0 pc st ws' (n) (ca) (sl) wE nE cE sE) : qI own cc fr lo b h0 pc st ws (n) (ca) (sl) wE nE cE sE :=
  fun p l ev R s m args below meth c H locs Q dC dI cA A hF hP hD hS hz hr ls hL => k p l ev R s m args below meth c H locs Q dC dI cA A hF (h cA ▸ hP) (h cA ▸ hD) hS hz hr ls hL
theorem i_obj {a index : Nat} (hd : decode cc pc = .ok (.invokespecial index, 3)) (hl : Cond.methodLink own index Lib.objectInit ∈ qtbl) (h1 : Cond.instanceMethod Lib.objectInit ∈ qtbl) (h2 : Cond.code Lib.objectInit ⟨#[0xb1]⟩ 1 none ∈ qtbl) (hfr : 1 ≤ fr) (hlo : 12 ≤ lo) (k : qI own cc fr lo b h0 (pc + 3) [] ws (n) (ca) (sl) wE nE cE sE) : qI own cc fr lo b h0 pc [.ref a] ws (n) (ca) (sl) wE nE cE sE :=
  fun p l ev R s m args below meth c H locs Q dC dI cA A hF hP hD hS hz hr ls hL => W.objInit hF.1.1 hF.1.2.1 hF.1.2.2.2.1 (hF.1.2.2.2.2 _ hl) (hF.1.2.2.2.2 _ h1) (hF.1.2.2.2.2 _ h2) rfl (hL.1.trans hF.1.2.2.1.symm) rfl hd (Nat.le_trans hfr hF.2.2.1.1) (Nat.le_trans (show 2 * 0 + 0 + 12 ≤ lo from hlo) hF.2.2.1.2.1) (k p l ev R s m args below meth c H locs Q dC dI cA A hF hP hD hS hz hr ls hL)
theorem i_new {ci N index : Nat} {C : String} {T : u_T} {ty : Nat → FieldType} (fs : List Value) (hd : decode cc pc = .ok (.new index, 3)) (hc : qcl[ci]? = some (C, T, N)) (hin : ∀ w ∈ u_ws C T N, w ∈ qtbl) (hty : ∀ k, k < N → parseFieldDescriptor (T k).2.2.1 = some (ty k)) (hcl : Cond.classLink own index C ∈ qtbl) (h1 : Cond.instantiable C N ∈ qtbl) (h2 : Cond.initialized C ∈ qtbl) (hfs : ∀ j, j < N → defaultValue (ty j) = vp_V fs j) (hcE : ca + 1 ≤ cE) (hsE : sl + N ≤ sE)
    (k : qI own cc fr lo b h0 (pc + 3) (.ref (b + n) :: st) (fun cA => ws cA ++ [(b + n, .inr (ci, fs))]) (n + 1) (ca + 1) (sl + N) wE nE cE sE) : qI own cc fr lo b h0 pc st ws (n) (ca) (sl) wE nE cE sE :=
  fun p l ev R s m args below meth c H locs Q dC dI cA A hF hP hD hS hz hr ls hL => by
    refine q_size (fun hsz => ?_)
    have hz0 := hz
    have hz : H.size = b + n := by omega
    have hKn := hF.2.2.2.1.1.1 ci _ hc
    refine W.newcK hF.1.1 hF.1.2.1 hF.1.2.2.2.1 (hF.1.2.2.2.2 _ hcl) (hF.1.2.2.2.2 _ h1) (hF.1.2.2.2.2 _ h2) rfl hd (Nat.le_trans hcE hF.2.2.1.2.2.1) (Nat.le_trans hsE hF.2.2.1.2.2.2) hKn.2.1 hz fun H1 kC hkC e1 z1 o1 => ?_
    have hk : ∀ (k : Nat) (x : Nat × va_E), (ws cA)[k]? = some x → H1[x.1]? = H[x.1]? := fun k x hx => o1 x.1 (by rw [← hz]; exact (hP k x hx).lt)
    refine k p l ev R s m args below meth c H1 locs Q dC dI cA A hF ((hP.kept hk).app (fun k x hx => ?_)) (hD.push hP hz.symm (hF.2.2.2.2 _ (by rw [← hz]; exact hS.1))) ⟨Nat.le_trans hS.1 (by omega), fun x h1 h2 => (o1 x (by rw [← hz]; exact (Nat.lt_of_lt_of_le h1 hS.1))).trans (hS.2.1 x h1 h2), hS.2.2⟩ ⟨by omega, by omega⟩ hr ls hL
    have hzz : k < 1 := (List.getElem?_eq_some_iff.mp hx).1
    rw [show k = 0 by omega] at hx
    cases hx
    exact ⟨_, hc, (u_born ty hF.1.2.2.2.2 hin hKn hkC e1 hty).to hfs⟩
theorem i_newa {x : Int32} {N : Nat} (hd : decode cc pc = .ok (.newarray .int, 2)) (hw : Cond.arrayClass .int ∈ qtbl) (hx0 : ¬ x < 0) (hN : x.toNatClampNeg = N) (hb : N ≤ 1000) (hcE : ca + 1 ≤ cE) (hsE : sl + N ≤ sE)
    (k : qI own cc fr lo b h0 (pc + 2) (.ref (b + n) :: st) (fun cA => ws cA ++ [(b + n, .inl (cA, N, .inl (fun _ => 0)))]) (n + 1) (ca + 1) (sl + N) wE nE cE sE) : qI own cc fr lo b h0 pc (.int x :: st) ws (n) (ca) (sl) wE nE cE sE :=
  fun p l ev R s m args below meth c H locs Q dC dI cA A hF hP hD hS hz hr ls hL => by
    refine q_size (fun hsz => ?_)
    have hz0 := hz
    have hz : H.size = b + n := by omega
    refine va_newaK hF.1.1 hF.1.2.1 (atype := .int) (hF.1.2.2.2.2 _ hw) rfl hd rfl hx0 hN (by show N * 4 ≤ 536870912; omega) (Nat.le_trans hcE hF.2.2.1.2.2.1) (Nat.le_trans hsE hF.2.2.1.2.2.2) hz fun H1 cA' e1 z1 o1 hAr hNm => ?_
    have hcA : cA' = cA := by
      have h9 := (hF.2.2.2.1.1.2 0 _ rfl).2
      exact Option.some.inj (hNm.symm.trans h9)
    subst hcA
    have hk : ∀ (k : Nat) (x : Nat × va_E), (ws cA')[k]? = some x → H1[x.1]? = H[x.1]? := fun k x hx => o1 x.1 (by rw [← hz]; exact (hP k x hx).lt)
    refine k p l ev R s m args below meth c H1 locs Q dC dI cA' A hF ((hP.kept hk).app (fun k x hx => ?_)) (hD.push hP hz.symm (hF.2.2.2.2 _ (by rw [← hz]; exact hS.1))) ⟨Nat.le_trans hS.1 (by omega), fun x h1 h2 => (o1 x (by rw [← hz]; exact (Nat.lt_of_lt_of_le h1 hS.1))).trans (hS.2.1 x h1 h2), hS.2.2⟩ ⟨by omega, by omega⟩ hr ls hL
    have hzz : k < 1 := (List.getElem?_eq_some_iff.mp hx).1
    rw [show k = 0 by omega] at hx
    cases hx
    exact e1
theorem i_put {a q0 ci j N index : Nat} {C : String} {T : u_T} {ty0 : Nat → FieldType} {ty : FieldType} {v : Value} (fs : List Value) (hd : decode cc pc = .ok (.putfield index, 3)) (hc : qcl[ci]? = some (C, T, N)) (hin : ∀ w ∈ u_ws C T N, w ∈ qtbl) (hty : ∀ k, k < N → parseFieldDescriptor (T k).2.2.1 = some (ty0 k)) (hnm : ∀ a, a < N → ∀ b, b < N → a ≠ b → (T a).2.1 ≠ (T b).2.1) (he : ∀ cA, (ws cA)[q0]? = some (a, .inr (ci, fs))) (hj : j < N) (hl : Cond.fieldLink own index (T j).1 (T j).2.1 (T j).2.2.1 ∈ qtbl) (hfin : (T j).2.2.2 = false) (hdt : parseFieldDescriptor (T j).2.2.1 = some ty) (hn : narrow ty v = v) (hfit : fits ty v = true) (hlen : j < fs.length) (q1 : Nat) (hn1 : 1 ≤ n) (hq1 : ∀ cA, ∃ e, ((ws cA).set q0 (a, .inr (ci, fs.set j v)))[q1]? = some (b + (n - 1), e))
    (k : qI own cc fr lo b h0 (pc + 3) st (fun cA => (ws cA).set q0 (a, .inr (ci, fs.set j v))) (n) (ca) (sl) wE nE cE sE) : qI own cc fr lo b h0 pc (v :: .ref a :: st) ws (n) (ca) (sl) wE nE cE sE :=
  fun p l ev R s m args below meth c H locs Q dC dI cA A hF hP hD hS hz hr ls hL => va_put hF.1.1 hF.1.2.1 hF.1.2.2.2.2 hin ty0 hty hnm hF.1.2.2.2.1 hF.2.2.2.1.1 hP hD hS q0 (he cA) hc j hj (hF.1.2.2.2.2 _ hl) (fun x hx => hx) hfin hdt hn hfit hlen hd (fun H1 locs1 hP1 hD1 hS1 => k p l ev R s m args below meth c H1 locs1 Q dC dI cA A hF hP1 hD1 hS1 ⟨by obtain ⟨e, he1⟩ := hq1 cA; have := (hP1 q1 _ he1).lt; dsimp only at this; omega, hz.2⟩ hr ls hL)
theorem i_putF {a q0 ci j N index : Nat} {C : String} {T : u_T} {ty0 : Nat → FieldType} {ty : FieldType} {v : Value} (fs : List Value) (hd : decode cc pc = .ok (.putfield index, 3)) (hc : qcl[ci]? = some (C, T, N)) (hin : ∀ w ∈ u_ws C T N, w ∈ qtbl) (hty : ∀ k, k < N → parseFieldDescriptor (T k).2.2.1 = some (ty0 k)) (hnm : ∀ a, a < N → ∀ b, b < N → a ≠ b → (T a).2.1 ≠ (T b).2.1) (he : ∀ cA, (ws cA)[q0]? = some (a, .inr (ci, fs))) (hj : j < N) (hl : Cond.fieldLink own index (T j).1 (T j).2.1 (T j).2.2.1 ∈ qtbl) (hfin : (T j).2.2.2 = true) (hdc : (T j).1 = own) (hdt : parseFieldDescriptor (T j).2.2.1 = some ty) (hn : narrow ty v = v) (hfit : fits ty v = true) (hlen : j < fs.length) (q1 : Nat) (hn1 : 1 ≤ n) (hq1 : ∀ cA, ∃ e, ((ws cA).set q0 (a, .inr (ci, fs.set j v)))[q1]? = some (b + (n - 1), e))
    (k : qI own cc fr lo b h0 (pc + 3) st (fun cA => (ws cA).set q0 (a, .inr (ci, fs.set j v))) (n) (ca) (sl) wE nE cE sE) : qI own cc fr lo b h0 pc (v :: .ref a :: st) ws (n) (ca) (sl) wE nE cE sE :=
  fun p l ev R s m args below meth c H locs Q dC dI cA A hF hP hD hS hz hr ls hL => va_putF hF.1.1 hF.1.2.1 hF.1.2.2.2.2 hin ty0 hty hnm hF.1.2.2.2.1 hF.2.2.2.1.1 hP hD hS q0 (he cA) hc j hj (hF.1.2.2.2.2 _ hl) (fun x hx => hx) hfin hF.2.1 hdc hdt hn hfit hlen hd (fun H1 locs1 hP1 hD1 hS1 => k p l ev R s m args below meth c H1 locs1 Q dC dI cA A hF hP1 hD1 hS1 ⟨by obtain ⟨e, he1⟩ := hq1 cA; have := (hP1 q1 _ he1).lt; dsimp only at this; omega, hz.2⟩ hr ls hL)
/-- a constructor's contract: its object is the cell b + k that was made last -/
def qSI (y : MethodName) (cc : ByteArray) (fr lo ca sl : Nat) (b k ci : Nat) (fs : List Value) (nE : Nat) (wE : ClassId → va_W) : Prop :=
  ∀ (l : Launch) (dC : Nat → ClassId) (dI : Nat → Nat → Nat) (cA : ClassId),
    Met l y (.code y cc 1 none :: qtbl) { frames := fr, cells := ca, slots := sl, locals := lo } (va_Pc [.ref (b + k)] (fun U => U.heap.size = b + (k + 1) ∧ va_P (dC, dI) qcl [(b + k, .inr (ci, fs))] U.heap ∧ qKK dC dI cA U))
      (fun _ s oc t => (oc = .returned none ∧ b + nE ≤ t.heap.size ∧ va_P (dC, dI) qcl (wE cA) t.heap ∧ va_D (va_A [(b + k, .inr (ci, fs))] (b + (k + 1))) (wE cA)) ∧ va_F (va_A [(b + k, .inr (ci, fs))] (b + (k + 1))) s t) ca sl (va_A [(b + k, .inr (ci, fs))] (b + (k + 1)))
theorem qSI_of {y : MethodName} {own : String} {cc : ByteArray} {fr lo ca sl b k ci nE : Nat} {fs : List Value} {wE : ClassId → va_W} (hown : y.cls = own) (hnm : y.name = "<init>") (hpl : plainName y.cls = true) (hJ : qI own cc fr lo b k 0 [] (fun _ => [(b + k, .inr (ci, fs))]) (k + 1) 0 0 wE nE ca sl) : qSI y cc fr lo ca sl b k ci fs nE wE := by
  intro l dC dI cA
  refine Met.ofW (cc := cc) (maxL := 1) (ret := none) hpl rfl ?_
  intro p ev s m args below meth c s₁ B hml hv0
  obtain ⟨rfl, hsz, hP, hKK⟩ := hv0
  have hts := atoms_spec (ws := .code y cc 1 none :: qtbl) B.pre
  have hl := lv_entry ([.ref (b + k)]) (n := 1) (Nat.le_of_ble_eq_true rfl)
  rw [lg_entry_eq]
  generalize (lg_sl ([.ref (b + k)]) ++ List.replicate (1 - (lg_sl ([.ref (b + k)])).length) Slot.unset).toArray = ls at hl ⊢
  have hown' : s.vm.findClass own = some m.cls := by rw [← hown]; exact findClass_of_methodNamed B.named
  have hlocks := B.notSynchronized
  have hr := B.returns
  have hin : meth.name = "<init>" := by rw [← hnm]; exact (name_of_methodNamed B.named B.method).1
  have hD : va_D (va_A [(b + k, .inr (ci, fs))] (b + (k + 1))) [(b + k, .inr (ci, fs))] := by
    refine ⟨fun i j p q hi hj hpq => ?_, fun i q hi => ⟨i, q.2, hi⟩ |> Or.inl⟩
    have a1 : i < 1 := (List.getElem?_eq_some_iff.mp hi).1
    have a2 : j < 1 := (List.getElem?_eq_some_iff.mp hj).1
    omega
  refine hJ p l ev _ s m _ below meth c s.heap [] _ dC dI cA (va_A [(b + k, .inr (ci, fs))] (b + (k + 1))) ⟨⟨B.exec, B.bytes, hml, hown', fun w hw => hts w (List.mem_cons_of_mem _ hw)⟩, hin, ⟨Nat.le_refl _, Nat.le_refl _, Nat.le_refl _, Nat.le_refl _⟩, hKK, fun q hq => Or.inr (by rw [← hsz]; exact hq)⟩ hP hD va_S.rf ⟨by omega, by omega⟩ ?_ ls ⟨hl.1, hl.2.2 (0, .ref (b + k)) (by simp [lv_args])⟩
  intro pcr H' locs' ls' hd hP' hD' hS' hz'
  exact W.vret B.exec B.bytes hr (fun t ht _ => ⟨⟨rfl, by rw [ht]; exact hz', by rw [ht]; exact hP', hD'⟩, hS'.F ht⟩) (fun q hq => hS'.2.2 q hq) hd hlocks

/-- a constructor is called on the cell made last; wr: the other cells -/
theorem i_init {y : MethodName} {cc' : ByteArray} {fr' lo' mc ms ci nE' k index : Nat} {fs : List Value} {w1 : ClassId → va_W} (wr : ClassId → va_W) (isC isR : List Nat) (hd : decode cc pc = .ok (.invokespecial index, 3)) (hl : Cond.methodLink own index y ∈ qtbl) (hy : qY y cc' 1 none 0) (hi : Cond.instanceMethod y ∈ qtbl) (hnm : y.name = "<init>") (hs : qSI y cc' fr' lo' mc ms b k ci fs nE' w1) (hn : n = k + 1) (hnE : nE' = n + mc)
    (hC : ∀ cA, isC.map (fun i => (ws cA)[i]?) = [(b + k, (Sum.inr (ci, fs) : va_E))].map some) (hR : ∀ cA, isR.map (fun i => (ws cA)[i]?) = (wr cA).map some) (hnd : va_nd isR = true) (hdis : ∀ i ∈ isR, i ∉ isC) (hw : (st.map fun v => v.category).sum ≤ 8) (hroom : fr' + 1 ≤ fr ∧ 8 + (1 + 11) + lo' ≤ lo) (hcE : ca + mc ≤ cE) (hsE : sl + ms ≤ sE)
    (h : qI own cc fr lo b h0 (pc + 3) st (fun cA => wr cA ++ w1 cA) (n + mc) (ca + mc) (sl + ms) wE nE cE sE) : qI own cc fr lo b h0 pc (.ref (b + k) :: st) ws (n) (ca) (sl) wE nE cE sE :=
  fun p l ev R s m args below meth c H locs Q dC dI cA A hF hP hD hS hz hr ls hL => by
    refine q_size (fun hsz => ?_)
    have hz0 := hz
    have hz : H.size = b + n := by omega
    subst hn
    obtain ⟨hx, hb, hml, hown, hts⟩ := id hF.1
    have hM := hs l dC dI cA
    have cw := cwI (R := R) (s := s) (args := args) (own := own) (index := index) (y := y) (bytes := cc') (maxL := 1) (rm := { frames := fr', cells := mc, slots := ms, locals := lo' }) 0 hts (q_gi hy.1) rfl rfl rfl (hts _ hy.2.1) (hts _ hl) (hts _ hi) hnm hy.2.2 ⟨Nat.le_trans hroom.1 hF.2.2.1.1, Nat.le_trans hroom.2 hF.2.2.1.2.1⟩
    have hPc : va_P (dC, dI) qcl [(b + k, .inr (ci, fs))] H := by
      intro i q hiq
      have h1 := hC cA
      have hi1 : i < 1 := (List.getElem?_eq_some_iff.mp hiq).1
      have hi0 : i = 0 := by omega
      subst hi0
      cases hiq
      cases isC with
      | nil => cases h1
      | cons a t =>
        rw [List.map_cons, List.map_cons] at h1
        exact hP a _ (List.cons.inj h1).1
    have hFc : ∀ q, va_A [(b + k, .inr (ci, fs))] H.size q → A q := va_free hD hS hF.2.2.2.2 isC (hC cA)
    have hrun := va_runI (As := []) (rest := st) (b := b + k) (H := H) (locs := locs) (cells := ca) (slots := sl) (l := l) (e := ev) (below := below) (meth := meth) (g := F0 m pc ls (.ref (b + k) :: st)) ⟨hx, hb, hml, hown, hts⟩ hM cw ⟨fun a U g mk q => by obtain ⟨q0, q1, q2, q3⟩ := q; exact ⟨q0, q1, q2, va_K.moved (u := U) (U := U.calling g mk a) (Vm.Alike.refl U.vm) q3.1, fun q hq => va_Nw.same rfl rfl (q3.2 q hq)⟩, fun U hU hW => ⟨rfl, by rw [hU]; exact hz, by rw [hU]; exact hPc, qKK.moved hW hF.2.2.2.1⟩⟩ rfl rfl hL.1 rfl (lv_room hw) hd ⟨Nat.le_trans hcE hF.2.2.1.2.2.1, Nat.le_trans hsE hF.2.2.1.2.2.2⟩
    intro T hT X
    obtain ⟨v', st₀, t, T', L, h0, X', hL', e1, e2, ⟨⟨hv, hzt, hPt, hDt⟩, hzz, hk⟩, go⟩ := hrun T hT X
    cases hv
    rw [h0] at hzz hk
    rw [← hz] at hk hDt
    obtain ⟨hP', hD'⟩ := va_join (wr := wr cA) (w1 := w1 cA) (H1 := t.heap) hP hD isC isR (hC cA) (hR cA) hnd hdis hk hFc hPt hDt
    obtain ⟨t2, a1, b1⟩ := h p l ev R s m args below meth c T'.heap (locs ++ L) Q dC dI cA A hF (by rw [e1]; exact hP') hD' ⟨Nat.le_trans hS.1 (by rw [e1]; exact hzz), fun q h1 h2 => by rw [e1, hk q (Nat.lt_of_lt_of_le h1 hS.1) (fun z => h2 (hFc q z))]; exact hS.2.1 q h1 h2, fun q hq' => by
      rcases List.mem_append.mp hq' with h | h
      · exact hS.2.2 q h
      · exact hFc _ (by rw [hz]; exact hL' q h)⟩ ⟨by rw [e1]; omega, by omega⟩ hr ls hL T' rfl X'
    exact ⟨t2, go t2 a1, b1⟩

/-- a method (by its qS) is called on a part of the world, K: its places are isC -/
theorem i_callv {y : MethodName} {cc' : ByteArray} {nL' fr' lo' k ci N na index : Nat} {C : String} {T : u_T} {K : List Nat} {σ σ' : qSt} {r : Int32} (As : List Value) (wr : ClassId → va_W) (isC isR : List Nat) (hd : decode cc pc = .ok (.invokevirtual index, 3)) (hl : Cond.methodLink own index y ∈ qtbl) (hy : qY y cc' nL' none na) (hi : Cond.instanceMethod y ∈ qtbl ∧ Cond.selects C y y ∈ qtbl) (hk : qIn K k ci) (hci : ci < 5) (hc : qcl[ci]? = some (C, T, N)) (hs : qS y cc' nL' none fr' lo' b K (.ref (b + k) :: As) σ (some (r, σ'))) (hKn : K.Nodup) (hna : As.length = na) {stk : List Value} (hstk : stk = As.reverse ++ .ref (b + k) :: st)
    (hC : ∀ cA, isC.map (fun i => (ws cA)[i]?) = (qw b cA σ K).map some) (hR : ∀ cA, isR.map (fun i => (ws cA)[i]?) = (wr cA).map some) (hnd : va_nd isR = true) (hdis : ∀ i ∈ isR, i ∉ isC) (hw : (st.map fun v => v.category).sum ≤ 8) (hroom : fr' + 1 ≤ fr ∧ 8 + (nL' + 11) + lo' ≤ lo) (hcE : ca ≤ cE) (hsE : sl ≤ sE)
    (h : qI own cc fr lo b h0 (pc + 3) st (fun cA => wr cA ++ qw b cA σ' K) (n) (ca) (sl) wE nE cE sE) : qI own cc fr lo b h0 pc stk ws (n) (ca) (sl) wE nE cE sE :=
  fun p l ev R s m args below meth c H locs Q dC dI cA A hF hP hD hS hz hr ls hL => by
    obtain ⟨hx, hb, hml, hown, hts⟩ := id hF.1
    have hM := hs (r, σ') rfl l dC dI cA
    have cw := callB_of (R := R) (s := s) (args := args) (own := own) (index := index) (y := y) (bytes := cc') (maxL := nL') (ret := none) (rm := { frames := fr', cells := 0, slots := 0, locals := lo' }) na hts (q_gi hy.1) rfl rfl rfl (hts _ hy.2.1) (hts _ hl) hy.2.2 ⟨Nat.le_trans hroom.1 hF.2.2.1.1, Nat.le_trans hroom.2 hF.2.2.1.2.1⟩
    have hPc : va_P (dC, dI) qcl (qw b cA σ K) H := by
      intro i q hiq
      have h1 : (isC.map (fun i => (ws cA)[i]?))[i]? = some (some q) := by rw [hC cA, List.getElem?_map, hiq]; rfl
      rw [List.getElem?_map] at h1
      cases hq : isC[i]? with
      | none => rw [hq] at h1; cases h1
      | some a => rw [hq] at h1; exact hP a q (Option.some.inj h1)
    have hFc : ∀ q, va_A (qw b cA σ K) H.size q → A q := va_free hD hS hF.2.2.2.2 isC (hC cA)
    have hqA : ∀ q, qA b K q → va_A (qw b cA σ K) H.size q := fun q hq => by
      obtain ⟨k', hk', rfl⟩ := hq
      obtain ⟨i, -, hi'⟩ := qw_at (b := b) (cA := cA) (σ := σ) hk'
      exact Or.inl ⟨i, _, hi'⟩
    obtain ⟨q0, -, he⟩ := qw_at (b := b) (cA := cA) (σ := σ) hk.1
    have he2 : qent b cA σ k = .inr (ci, qfs b σ k ci) := by unfold qent; rw [hk.2, if_pos hci]
    rw [he2] at he
    have hrun := va_runV (C := C) (As := As) (rest := st) (b := b + k) (H := H) (locs := locs) (cells := ca) (slots := sl) (mc := 0) (ms := 0) (l := l) (e := ev) (below := below) (meth := meth) (g := F0 m pc ls stk) ⟨hx, hb, hml, hown, hts⟩ hM ⟨cw, hts _ hi.1, hts _ hi.2⟩ ⟨q_blind, va_recv hF.2.2.2.1.1 hPc hc he, fun U hU hW => ⟨rfl, by rw [hU]; exact hPc, qKK.moved hW hF.2.2.2.1⟩⟩ rfl hna hL.1 hstk (lv_room hw) hd ⟨Nat.le_trans hcE hF.2.2.1.2.2.1, Nat.le_trans hsE hF.2.2.1.2.2.2⟩
    intro T hT X
    obtain ⟨v', st₀, t, T', L, h0, X', hL', e1, e2, ⟨⟨hv, hPt⟩, hzz, hkk⟩, go⟩ := hrun T hT X
    cases hv
    rw [h0] at hzz hkk
    have hk2 : ∀ q : Nat, q < H.size → ¬ va_A (qw b cA σ K) H.size q → t.heap[q]? = H[q]? := fun q h1 h2 => hkk q h1 (fun z => h2 (hqA q z))
    obtain ⟨hP', hD'⟩ := va_join (wr := wr cA) (w1 := qw b cA σ' K) (H1 := t.heap) hP hD isC isR (hC cA) (hR cA) hnd hdis hk2 hFc hPt (qw_D hKn (fun k' hk' => hqA _ ⟨k', hk', rfl⟩))
    obtain ⟨t2, a1, b1⟩ := h p l ev R s m args below meth c T'.heap (locs ++ L) Q dC dI cA A hF (by rw [e1]; exact hP') hD' ⟨Nat.le_trans hS.1 (by rw [e1]; exact hzz), fun q h1 h2 => by rw [e1, hk2 q (Nat.lt_of_lt_of_le h1 hS.1) (fun z => h2 (hFc q z))]; exact hS.2.1 q h1 h2, fun q hq' => by
      rcases List.mem_append.mp hq' with h | h
      · exact hS.2.2 q h
      · exact hFc _ (hqA _ (hL' q h))⟩ ⟨by rw [e1]; omega, hz.2⟩ hr ls hL T' rfl X'
    exact ⟨t2, go t2 a1, b1⟩

end QI
end
