section
-- ===== PART A: goes FIRST, ahead of the names: the tables' words, and 'selects' of the private methods out of them =====
/-- a private method of a class that the tables say can be made, by its rows of tables_1 -/
def lw_okq (q : MethodName × Nat) : Prop := (q.1.cls ≠ "java/lang/invoke/MethodHandle" ∧ q.1.cls ≠ "java/lang/invoke/VarHandle") ∧ Cond.instantiable q.1.cls q.2 ∈ tables_1 ∧ Cond.privateMethod q.1 ∈ tables_1 ∧ Cond.instanceMethod q.1 ∈ tables_1
theorem lw_p0 : lw_okq (⟨"MonitorDesk", "doStep", "(I)V"⟩, 17) := ⟨⟨by decide +kernel, by decide +kernel⟩, List.mem_of_getElem? (i := 6) (by decide +kernel), List.mem_of_getElem? (i := 90) (by decide +kernel), List.mem_of_getElem? (i := 91) (by decide +kernel)⟩
theorem lw_p1 : lw_okq (⟨"MonitorDesk", "perform", "(I)I"⟩, 17) := ⟨⟨by decide +kernel, by decide +kernel⟩, List.mem_of_getElem? (i := 6) (by decide +kernel), List.mem_of_getElem? (i := 94) (by decide +kernel), List.mem_of_getElem? (i := 95) (by decide +kernel)⟩
theorem lw_p2 : lw_okq (⟨"MonitorDesk", "endBlock", "(I)I"⟩, 17) := ⟨⟨by decide +kernel, by decide +kernel⟩, List.mem_of_getElem? (i := 6) (by decide +kernel), List.mem_of_getElem? (i := 101) (by decide +kernel), List.mem_of_getElem? (i := 102) (by decide +kernel)⟩
theorem lw_p3 : lw_okq (⟨"MonitorDesk", "isEnter", "(I)Z"⟩, 17) := ⟨⟨by decide +kernel, by decide +kernel⟩, List.mem_of_getElem? (i := 6) (by decide +kernel), List.mem_of_getElem? (i := 105) (by decide +kernel), List.mem_of_getElem? (i := 106) (by decide +kernel)⟩
theorem lw_p4 : lw_okq (⟨"MonitorDesk", "giveBack", "(I)I"⟩, 17) := ⟨⟨by decide +kernel, by decide +kernel⟩, List.mem_of_getElem? (i := 6) (by decide +kernel), List.mem_of_getElem? (i := 109) (by decide +kernel), List.mem_of_getElem? (i := 110) (by decide +kernel)⟩
theorem lw_p5 : lw_okq (⟨"MonitorDesk", "leastHandle", "(I)I"⟩, 17) := ⟨⟨by decide +kernel, by decide +kernel⟩, List.mem_of_getElem? (i := 6) (by decide +kernel), List.mem_of_getElem? (i := 113) (by decide +kernel), List.mem_of_getElem? (i := 114) (by decide +kernel)⟩
theorem lw_p6 : lw_okq (⟨"MonitorDesk", "enter", "(I)I"⟩, 17) := ⟨⟨by decide +kernel, by decide +kernel⟩, List.mem_of_getElem? (i := 6) (by decide +kernel), List.mem_of_getElem? (i := 117) (by decide +kernel), List.mem_of_getElem? (i := 118) (by decide +kernel)⟩
theorem lw_p7 : lw_okq (⟨"MonitorDesk", "raise", "(I)I"⟩, 17) := ⟨⟨by decide +kernel, by decide +kernel⟩, List.mem_of_getElem? (i := 6) (by decide +kernel), List.mem_of_getElem? (i := 121) (by decide +kernel), List.mem_of_getElem? (i := 122) (by decide +kernel)⟩
theorem lw_p8 : lw_okq (⟨"MonitorDesk", "notifyWaiting", "(I)I"⟩, 17) := ⟨⟨by decide +kernel, by decide +kernel⟩, List.mem_of_getElem? (i := 6) (by decide +kernel), List.mem_of_getElem? (i := 125) (by decide +kernel), List.mem_of_getElem? (i := 126) (by decide +kernel)⟩
theorem lw_p9 : lw_okq (⟨"MonitorDesk", "holdsLock", "(I)I"⟩, 17) := ⟨⟨by decide +kernel, by decide +kernel⟩, List.mem_of_getElem? (i := 6) (by decide +kernel), List.mem_of_getElem? (i := 129) (by decide +kernel), List.mem_of_getElem? (i := 130) (by decide +kernel)⟩
theorem lw_p10 : lw_okq (⟨"MonitorDesk", "awaitNotice", "(I)I"⟩, 17) := ⟨⟨by decide +kernel, by decide +kernel⟩, List.mem_of_getElem? (i := 6) (by decide +kernel), List.mem_of_getElem? (i := 136) (by decide +kernel), List.mem_of_getElem? (i := 137) (by decide +kernel)⟩
theorem lw_p11 : lw_okq (⟨"MonitorDesk", "takeFlag", "()Z"⟩, 17) := ⟨⟨by decide +kernel, by decide +kernel⟩, List.mem_of_getElem? (i := 6) (by decide +kernel), List.mem_of_getElem? (i := 144) (by decide +kernel), List.mem_of_getElem? (i := 145) (by decide +kernel)⟩
theorem lw_p12 : lw_okq (⟨"MonitorDesk", "sleep", "(I)I"⟩, 17) := ⟨⟨by decide +kernel, by decide +kernel⟩, List.mem_of_getElem? (i := 6) (by decide +kernel), List.mem_of_getElem? (i := 148) (by decide +kernel), List.mem_of_getElem? (i := 149) (by decide +kernel)⟩
theorem lw_p13 : lw_okq (⟨"MonitorDesk", "start", "(I)I"⟩, 17) := ⟨⟨by decide +kernel, by decide +kernel⟩, List.mem_of_getElem? (i := 6) (by decide +kernel), List.mem_of_getElem? (i := 152) (by decide +kernel), List.mem_of_getElem? (i := 153) (by decide +kernel)⟩
theorem lw_p14 : lw_okq (⟨"MonitorDesk", "leaveBlocks", "(I)V"⟩, 17) := ⟨⟨by decide +kernel, by decide +kernel⟩, List.mem_of_getElem? (i := 6) (by decide +kernel), List.mem_of_getElem? (i := 156) (by decide +kernel), List.mem_of_getElem? (i := 157) (by decide +kernel)⟩
theorem lw_p15 : lw_okq (⟨"MonitorDesk", "countEnded", "()I"⟩, 17) := ⟨⟨by decide +kernel, by decide +kernel⟩, List.mem_of_getElem? (i := 6) (by decide +kernel), List.mem_of_getElem? (i := 172) (by decide +kernel), List.mem_of_getElem? (i := 173) (by decide +kernel)⟩
def lw_privs_1 : List (MethodName × Nat) := [(⟨"MonitorDesk", "doStep", "(I)V"⟩, 17), (⟨"MonitorDesk", "perform", "(I)I"⟩, 17), (⟨"MonitorDesk", "endBlock", "(I)I"⟩, 17), (⟨"MonitorDesk", "isEnter", "(I)Z"⟩, 17), (⟨"MonitorDesk", "giveBack", "(I)I"⟩, 17), (⟨"MonitorDesk", "leastHandle", "(I)I"⟩, 17), (⟨"MonitorDesk", "enter", "(I)I"⟩, 17), (⟨"MonitorDesk", "raise", "(I)I"⟩, 17), (⟨"MonitorDesk", "notifyWaiting", "(I)I"⟩, 17), (⟨"MonitorDesk", "holdsLock", "(I)I"⟩, 17), (⟨"MonitorDesk", "awaitNotice", "(I)I"⟩, 17), (⟨"MonitorDesk", "takeFlag", "()Z"⟩, 17), (⟨"MonitorDesk", "sleep", "(I)I"⟩, 17), (⟨"MonitorDesk", "start", "(I)I"⟩, 17), (⟨"MonitorDesk", "leaveBlocks", "(I)V"⟩, 17), (⟨"MonitorDesk", "countEnded", "()I"⟩, 17)]
theorem lw_r1 : ∀ q ∈ lw_privs_1, lw_okq q := List.forall_mem_cons.mpr ⟨lw_p0, List.forall_mem_cons.mpr ⟨lw_p1, List.forall_mem_cons.mpr ⟨lw_p2, List.forall_mem_cons.mpr ⟨lw_p3, List.forall_mem_cons.mpr ⟨lw_p4, List.forall_mem_cons.mpr ⟨lw_p5, List.forall_mem_cons.mpr ⟨lw_p6, List.forall_mem_cons.mpr ⟨lw_p7, List.forall_mem_cons.mpr ⟨lw_p8, List.forall_mem_cons.mpr ⟨lw_p9, List.forall_mem_cons.mpr ⟨lw_p10, List.forall_mem_cons.mpr ⟨lw_p11, List.forall_mem_cons.mpr ⟨lw_p12, List.forall_mem_cons.mpr ⟨lw_p13, List.forall_mem_cons.mpr ⟨lw_p14, List.forall_mem_cons.mpr ⟨lw_p15, fun _ h => absurd h List.not_mem_nil⟩⟩⟩⟩⟩⟩⟩⟩⟩⟩⟩⟩⟩⟩⟩⟩
theorem lw_p16 : lw_okq (⟨"MonitorDesk", "handleState", "(I)I"⟩, 17) := ⟨⟨by decide +kernel, by decide +kernel⟩, List.mem_of_getElem? (i := 6) (by decide +kernel), List.mem_of_getElem? (i := 176) (by decide +kernel), List.mem_of_getElem? (i := 177) (by decide +kernel)⟩
theorem lw_p17 : lw_okq (⟨"MonitorDeskModel", "work", "(I)I"⟩, 15) := ⟨⟨by decide +kernel, by decide +kernel⟩, List.mem_of_getElem? (i := 180) (by decide +kernel), List.mem_of_getElem? (i := 251) (by decide +kernel), List.mem_of_getElem? (i := 252) (by decide +kernel)⟩
theorem lw_p18 : lw_okq (⟨"MonitorDeskModel", "close", "()I"⟩, 15) := ⟨⟨by decide +kernel, by decide +kernel⟩, List.mem_of_getElem? (i := 180) (by decide +kernel), List.mem_of_getElem? (i := 255) (by decide +kernel), List.mem_of_getElem? (i := 256) (by decide +kernel)⟩
theorem lw_p19 : lw_okq (⟨"MonitorDeskModel", "lockOf", "(I)I"⟩, 15) := ⟨⟨by decide +kernel, by decide +kernel⟩, List.mem_of_getElem? (i := 180) (by decide +kernel), List.mem_of_getElem? (i := 259) (by decide +kernel), List.mem_of_getElem? (i := 260) (by decide +kernel)⟩
theorem lw_p20 : lw_okq (⟨"MonitorDeskModel", "enter", "(I)I"⟩, 15) := ⟨⟨by decide +kernel, by decide +kernel⟩, List.mem_of_getElem? (i := 180) (by decide +kernel), List.mem_of_getElem? (i := 266) (by decide +kernel), List.mem_of_getElem? (i := 267) (by decide +kernel)⟩
theorem lw_p21 : lw_okq (⟨"MonitorDeskModel", "monitor", "(IZ)I"⟩, 15) := ⟨⟨by decide +kernel, by decide +kernel⟩, List.mem_of_getElem? (i := 180) (by decide +kernel), List.mem_of_getElem? (i := 270) (by decide +kernel), List.mem_of_getElem? (i := 271) (by decide +kernel)⟩
theorem lw_p22 : lw_okq (⟨"MonitorDeskModel", "pause", "(I)I"⟩, 15) := ⟨⟨by decide +kernel, by decide +kernel⟩, List.mem_of_getElem? (i := 180) (by decide +kernel), List.mem_of_getElem? (i := 274) (by decide +kernel), List.mem_of_getElem? (i := 275) (by decide +kernel)⟩
theorem lw_p23 : lw_okq (⟨"MonitorDeskModel", "interrupted", "()V"⟩, 15) := ⟨⟨by decide +kernel, by decide +kernel⟩, List.mem_of_getElem? (i := 180) (by decide +kernel), List.mem_of_getElem? (i := 279) (by decide +kernel), List.mem_of_getElem? (i := 280) (by decide +kernel)⟩
theorem lw_p24 : lw_okq (⟨"MonitorDeskModel", "thread", "(I)I"⟩, 15) := ⟨⟨by decide +kernel, by decide +kernel⟩, List.mem_of_getElem? (i := 180) (by decide +kernel), List.mem_of_getElem? (i := 283) (by decide +kernel), List.mem_of_getElem? (i := 284) (by decide +kernel)⟩
theorem lw_p25 : lw_okq (⟨"MonitorDeskModel", "others", "(I)I"⟩, 15) := ⟨⟨by decide +kernel, by decide +kernel⟩, List.mem_of_getElem? (i := 180) (by decide +kernel), List.mem_of_getElem? (i := 287) (by decide +kernel), List.mem_of_getElem? (i := 288) (by decide +kernel)⟩
theorem lw_p26 : lw_okq (⟨"MonitorDeskModel", "unwind", "()I"⟩, 15) := ⟨⟨by decide +kernel, by decide +kernel⟩, List.mem_of_getElem? (i := 180) (by decide +kernel), List.mem_of_getElem? (i := 291) (by decide +kernel), List.mem_of_getElem? (i := 292) (by decide +kernel)⟩
theorem lw_p27 : lw_okq (⟨"MonitorDeskModel", "behind", "(I)I"⟩, 15) := ⟨⟨by decide +kernel, by decide +kernel⟩, List.mem_of_getElem? (i := 180) (by decide +kernel), List.mem_of_getElem? (i := 295) (by decide +kernel), List.mem_of_getElem? (i := 296) (by decide +kernel)⟩
def lw_privs_2 : List (MethodName × Nat) := [(⟨"MonitorDesk", "handleState", "(I)I"⟩, 17), (⟨"MonitorDeskModel", "work", "(I)I"⟩, 15), (⟨"MonitorDeskModel", "close", "()I"⟩, 15), (⟨"MonitorDeskModel", "lockOf", "(I)I"⟩, 15), (⟨"MonitorDeskModel", "enter", "(I)I"⟩, 15), (⟨"MonitorDeskModel", "monitor", "(IZ)I"⟩, 15), (⟨"MonitorDeskModel", "pause", "(I)I"⟩, 15), (⟨"MonitorDeskModel", "interrupted", "()V"⟩, 15), (⟨"MonitorDeskModel", "thread", "(I)I"⟩, 15), (⟨"MonitorDeskModel", "others", "(I)I"⟩, 15), (⟨"MonitorDeskModel", "unwind", "()I"⟩, 15), (⟨"MonitorDeskModel", "behind", "(I)I"⟩, 15)]
theorem lw_r2 : ∀ q ∈ lw_privs_2, lw_okq q := List.forall_mem_cons.mpr ⟨lw_p16, List.forall_mem_cons.mpr ⟨lw_p17, List.forall_mem_cons.mpr ⟨lw_p18, List.forall_mem_cons.mpr ⟨lw_p19, List.forall_mem_cons.mpr ⟨lw_p20, List.forall_mem_cons.mpr ⟨lw_p21, List.forall_mem_cons.mpr ⟨lw_p22, List.forall_mem_cons.mpr ⟨lw_p23, List.forall_mem_cons.mpr ⟨lw_p24, List.forall_mem_cons.mpr ⟨lw_p25, List.forall_mem_cons.mpr ⟨lw_p26, List.forall_mem_cons.mpr ⟨lw_p27, fun _ h => absurd h List.not_mem_nil⟩⟩⟩⟩⟩⟩⟩⟩⟩⟩⟩⟩
def lw_privs : List (MethodName × Nat) := lw_privs_1 ++ (lw_privs_2)
def lw_tbl : List Cond := k2_sels lw_privs ++ tables_1
theorem lw_privs_ok : ∀ q ∈ lw_privs, lw_okq q := by
  show ∀ q ∈ lw_privs_1 ++ (lw_privs_2), lw_okq q
  exact List.forall_mem_append.mpr ⟨lw_r1, lw_r2⟩
-- ===== end of PART A; then your names; then what follows =====
/-! ===== BEGIN words of one list among another's, by their places ===== -/
theorem goodIn_r {big : List Cond} (ws : List Cond) (ps : List Nat) (hp : ws = ps.filterMap (fun i => big[i]?)) (h : ws.all goodWord = true) : GoodIn big ws := by
  intro w hw
  have h1 := List.all_eq_true.mp h w hw
  rw [hp] at hw
  obtain ⟨i, -, hi⟩ := List.mem_filterMap.mp hw
  have hm : w ∈ big := by first | exact List.mem_of_getElem? hi | exact List.getElem?_mem hi
  exact ⟨hm, good_of_word h1⟩
theorem goodIn_app {big a b : List Cond} (ha : GoodIn big a) (hb : GoodIn big b) : GoodIn big (a ++ b) := fun w h => (List.mem_append.mp h).elim (ha w) (hb w)
theorem goodIn_ca {big a b : List Cond} {c : Cond} (ha : GoodIn big (c :: a)) (hb : GoodIn big b) : GoodIn big (c :: (a ++ b)) := fun w h => (List.mem_cons.mp h).elim (fun e => ha w (List.mem_cons.mpr (Or.inl e))) (fun h => (List.mem_append.mp h).elim (fun h => ha w (List.mem_cons.mpr (Or.inr h))) (hb w))
theorem goodIn_sub {big ws : List Cond} (hm : ∀ w ∈ ws, w ∈ big) (h : ws.all goodWord = true) : GoodIn big ws := fun w hw => ⟨hm w hw, good_of_word (List.all_eq_true.mp h w hw)⟩
/-! ===== END ===== -/

/-! ===== BEGIN printed: names, fields, word lists, decode rows ===== -/
def RX0 : String := "MonitorDesk"
def TX0 : u_T := fun k => match k with
  | 0 => ("MonitorDesk", "locks", "[I", true)
  | 1 => ("MonitorDesk", "locksMade", "I", false)
  | 2 => ("MonitorDesk", "ended", "[Z", true)
  | 3 => ("MonitorDesk", "total", "I", false)
  | 4 => ("MonitorDesk", "flag", "Z", false)
  | 5 => ("MonitorDesk", "operations", "[I", true)
  | 6 => ("MonitorDesk", "arguments", "[I", true)
  | 7 => ("MonitorDesk", "around", "[I", true)
  | 8 => ("MonitorDesk", "ends", "[I", true)
  | 9 => ("MonitorDesk", "stepCount", "I", false)
  | 10 => ("MonitorDesk", "openCount", "I", false)
  | 11 => ("MonitorDesk", "latestOpen", "I", false)
  | 12 => ("MonitorDesk", "results", "[I", true)
  | 13 => ("MonitorDesk", "latestFailure", "I", false)
  | 14 => ("MonitorDesk", "held", "[I", true)
  | 15 => ("MonitorDesk", "raised", "I", false)
  | _ => ("MonitorDesk", "resumeAt", "I", false)
def tyX0 : Nat → FieldType := fun k => match k with
  | 0 => .array .int
  | 1 => .int
  | 2 => .array .boolean
  | 3 => .int
  | 4 => .boolean
  | 5 => .array .int
  | 6 => .array .int
  | 7 => .array .int
  | 8 => .array .int
  | 9 => .int
  | 10 => .int
  | 11 => .int
  | 12 => .array .int
  | 13 => .int
  | 14 => .array .int
  | 15 => .int
  | _ => .int
abbrev wsX00 : List Cond := u_ws RX0 TX0 17
theorem nmX0 : ∀ a, a < 17 → ∀ b, b < 17 → a ≠ b → (TX0 a).2.1 ≠ (TX0 b).2.1 := by decide +kernel
theorem tyX0_ok : ∀ k, k < 17 → parseFieldDescriptor (TX0 k).2.2.1 = some (tyX0 k) := by decide +kernel
abbrev cX0_init : ByteArray := prog_1_method_1_code
def yX0_init : MethodName := ⟨RX0, "<init>", "()V"⟩
abbrev cX0_hold : ByteArray := prog_1_method_2_code
def yX0_hold : MethodName := ⟨RX0, "hold", "(II)I"⟩
abbrev cX0_step : ByteArray := prog_1_method_3_code
def yX0_step : MethodName := ⟨RX0, "step", "(II)I"⟩
abbrev cX0_clear : ByteArray := prog_1_method_4_code
def yX0_clear : MethodName := ⟨RX0, "clear", "()I"⟩
abbrev cX0_run : ByteArray := prog_1_method_5_code
def yX0_run : MethodName := ⟨RX0, "run", "()I"⟩
abbrev cX0_result : ByteArray := prog_1_method_6_code
def yX0_result : MethodName := ⟨RX0, "result", "(I)I"⟩
abbrev cX0_failure : ByteArray := prog_1_method_7_code
def yX0_failure : MethodName := ⟨RX0, "failure", "()I"⟩
abbrev cX0_state : ByteArray := prog_1_method_8_code
def yX0_state : MethodName := ⟨RX0, "state", "(I)I"⟩
abbrev cX0_handleState : ByteArray := prog_1_method_9_code
def yX0_handleState : MethodName := ⟨RX0, "handleState", "(I)I"⟩
abbrev cX0_countEnded : ByteArray := prog_1_method_10_code
def yX0_countEnded : MethodName := ⟨RX0, "countEnded", "()I"⟩
abbrev cX0_opensBlock : ByteArray := prog_1_method_11_code
def yX0_opensBlock : MethodName := ⟨RX0, "opensBlock", "(I)Z"⟩
abbrev cX0_asNumber : ByteArray := prog_1_method_12_code
def yX0_asNumber : MethodName := ⟨RX0, "asNumber", "(Z)I"⟩
abbrev cX0_leastHandle : ByteArray := prog_1_method_13_code
def yX0_leastHandle : MethodName := ⟨RX0, "leastHandle", "(I)I"⟩
abbrev cX0_doStep : ByteArray := prog_1_method_14_code
def yX0_doStep : MethodName := ⟨RX0, "doStep", "(I)V"⟩
abbrev cX0_perform : ByteArray := prog_1_method_15_code
def yX0_perform : MethodName := ⟨RX0, "perform", "(I)I"⟩
abbrev cX0_raise : ByteArray := prog_1_method_16_code
def yX0_raise : MethodName := ⟨RX0, "raise", "(I)I"⟩
abbrev cX0_leaveBlocks : ByteArray := prog_1_method_17_code
def yX0_leaveBlocks : MethodName := ⟨RX0, "leaveBlocks", "(I)V"⟩
abbrev cX0_endBlock : ByteArray := prog_1_method_18_code
def yX0_endBlock : MethodName := ⟨RX0, "endBlock", "(I)I"⟩
abbrev cX0_isEnter : ByteArray := prog_1_method_19_code
def yX0_isEnter : MethodName := ⟨RX0, "isEnter", "(I)Z"⟩
abbrev cX0_giveBack : ByteArray := prog_1_method_20_code
def yX0_giveBack : MethodName := ⟨RX0, "giveBack", "(I)I"⟩
abbrev cX0_enter : ByteArray := prog_1_method_21_code
def yX0_enter : MethodName := ⟨RX0, "enter", "(I)I"⟩
abbrev cX0_notifyWaiting : ByteArray := prog_1_method_22_code
def yX0_notifyWaiting : MethodName := ⟨RX0, "notifyWaiting", "(I)I"⟩
abbrev cX0_holdsLock : ByteArray := prog_1_method_23_code
def yX0_holdsLock : MethodName := ⟨RX0, "holdsLock", "(I)I"⟩
abbrev cX0_awaitNotice : ByteArray := prog_1_method_24_code
def yX0_awaitNotice : MethodName := ⟨RX0, "awaitNotice", "(I)I"⟩
abbrev cX0_sleep : ByteArray := prog_1_method_25_code
def yX0_sleep : MethodName := ⟨RX0, "sleep", "(I)I"⟩
abbrev cX0_takeFlag : ByteArray := prog_1_method_26_code
def yX0_takeFlag : MethodName := ⟨RX0, "takeFlag", "()Z"⟩
abbrev cX0_start : ByteArray := prog_1_method_27_code
def yX0_start : MethodName := ⟨RX0, "start", "(I)I"⟩
def RX1 : String := "MonitorDeskModel"
def TX1 : u_T := fun k => match k with
  | 0 => ("MonitorDeskModel", "lock", "[I", true)
  | 1 => ("MonitorDeskModel", "held", "[I", true)
  | 2 => ("MonitorDeskModel", "locks", "I", false)
  | 3 => ("MonitorDeskModel", "ended", "[Z", true)
  | 4 => ("MonitorDeskModel", "total", "I", false)
  | 5 => ("MonitorDeskModel", "flag", "Z", false)
  | 6 => ("MonitorDeskModel", "operation", "[I", true)
  | 7 => ("MonitorDeskModel", "argument", "[I", true)
  | 8 => ("MonitorDeskModel", "steps", "I", false)
  | 9 => ("MonitorDeskModel", "open", "I", false)
  | 10 => ("MonitorDeskModel", "result", "[I", true)
  | 11 => ("MonitorDeskModel", "failure", "I", false)
  | 12 => ("MonitorDeskModel", "block", "[I", true)
  | 13 => ("MonitorDeskModel", "depth", "I", false)
  | _ => ("MonitorDeskModel", "code", "I", false)
def tyX1 : Nat → FieldType := fun k => match k with
  | 0 => .array .int
  | 1 => .array .int
  | 2 => .int
  | 3 => .array .boolean
  | 4 => .int
  | 5 => .boolean
  | 6 => .array .int
  | 7 => .array .int
  | 8 => .int
  | 9 => .int
  | 10 => .array .int
  | 11 => .int
  | 12 => .array .int
  | 13 => .int
  | _ => .int
abbrev wsX10 : List Cond := u_ws RX1 TX1 15
theorem nmX1 : ∀ a, a < 15 → ∀ b, b < 15 → a ≠ b → (TX1 a).2.1 ≠ (TX1 b).2.1 := by decide +kernel
theorem tyX1_ok : ∀ k, k < 15 → parseFieldDescriptor (TX1 k).2.2.1 = some (tyX1 k) := by decide +kernel
abbrev cX1_init : ByteArray := prog_3_method_1_code
def yX1_init : MethodName := ⟨RX1, "<init>", "()V"⟩
abbrev cX1_in : ByteArray := prog_3_method_2_code
def yX1_in : MethodName := ⟨RX1, "in", "(II)Z"⟩
abbrev cX1_modulo : ByteArray := prog_3_method_3_code
def yX1_modulo : MethodName := ⟨RX1, "modulo", "(II)I"⟩
abbrev cX1_hold : ByteArray := prog_3_method_4_code
def yX1_hold : MethodName := ⟨RX1, "hold", "(II)I"⟩
abbrev cX1_step : ByteArray := prog_3_method_5_code
def yX1_step : MethodName := ⟨RX1, "step", "(II)I"⟩
abbrev cX1_clear : ByteArray := prog_3_method_6_code
def yX1_clear : MethodName := ⟨RX1, "clear", "()I"⟩
abbrev cX1_behind : ByteArray := prog_3_method_7_code
def yX1_behind : MethodName := ⟨RX1, "behind", "(I)I"⟩
abbrev cX1_lockOf : ByteArray := prog_3_method_8_code
def yX1_lockOf : MethodName := ⟨RX1, "lockOf", "(I)I"⟩
abbrev cX1_monitor : ByteArray := prog_3_method_9_code
def yX1_monitor : MethodName := ⟨RX1, "monitor", "(IZ)I"⟩
abbrev cX1_pause : ByteArray := prog_3_method_10_code
def yX1_pause : MethodName := ⟨RX1, "pause", "(I)I"⟩
abbrev cX1_interrupted : ByteArray := prog_3_method_11_code
def yX1_interrupted : MethodName := ⟨RX1, "interrupted", "()V"⟩
abbrev cX1_close : ByteArray := prog_3_method_12_code
def yX1_close : MethodName := ⟨RX1, "close", "()I"⟩
abbrev cX1_enter : ByteArray := prog_3_method_13_code
def yX1_enter : MethodName := ⟨RX1, "enter", "(I)I"⟩
abbrev cX1_thread : ByteArray := prog_3_method_14_code
def yX1_thread : MethodName := ⟨RX1, "thread", "(I)I"⟩
abbrev cX1_others : ByteArray := prog_3_method_15_code
def yX1_others : MethodName := ⟨RX1, "others", "(I)I"⟩
abbrev cX1_work : ByteArray := prog_3_method_16_code
def yX1_work : MethodName := ⟨RX1, "work", "(I)I"⟩
abbrev cX1_unwind : ByteArray := prog_3_method_17_code
def yX1_unwind : MethodName := ⟨RX1, "unwind", "()I"⟩
abbrev cX1_run : ByteArray := prog_3_method_18_code
def yX1_run : MethodName := ⟨RX1, "run", "()I"⟩
abbrev cX1_result : ByteArray := prog_3_method_19_code
def yX1_result : MethodName := ⟨RX1, "result", "(I)I"⟩
abbrev cX1_failure : ByteArray := prog_3_method_20_code
def yX1_failure : MethodName := ⟨RX1, "failure", "()I"⟩
abbrev cX1_state : ByteArray := prog_3_method_21_code
def yX1_state : MethodName := ⟨RX1, "state", "(I)I"⟩
def RJ9 : String := "java/lang/Math"
def TJ9 : u_T := fun k => match k with
  | _ => ("", "", "", false)
def tyJ9 : Nat → FieldType := fun k => match k with
  | _ => .int
abbrev wsJ90 : List Cond := u_ws RJ9 TJ9 0
theorem nmJ9 : ∀ a, a < 0 → ∀ b, b < 0 → a ≠ b → (TJ9 a).2.1 ≠ (TJ9 b).2.1 := by decide +kernel
theorem tyJ9_ok : ∀ k, k < 0 → parseFieldDescriptor (TJ9 k).2.2.1 = some (tyJ9 k) := by decide +kernel
abbrev cJ9_floorMod_7cf53 : ByteArray := prog_4_method_50_code
def yJ9_floorMod_7cf53 : MethodName := ⟨RJ9, "floorMod", "(II)I"⟩
abbrev cJ9_abs_0f7a4 : ByteArray := prog_4_method_59_code
def yJ9_abs_0f7a4 : MethodName := ⟨RJ9, "abs", "(I)I"⟩
def RJ7 : String := "java/util/Arrays"
def TJ7 : u_T := fun k => match k with
  | _ => ("", "", "", false)
def tyJ7 : Nat → FieldType := fun k => match k with
  | _ => .int
abbrev wsJ70 : List Cond := u_ws RJ7 TJ7 0
theorem nmJ7 : ∀ a, a < 0 → ∀ b, b < 0 → a ≠ b → (TJ7 a).2.1 ≠ (TJ7 b).2.1 := by decide +kernel
theorem tyJ7_ok : ∀ k, k < 0 → parseFieldDescriptor (TJ7 k).2.2.1 = some (tyJ7 k) := by decide +kernel
abbrev cJ7_fill_53178 : ByteArray := prog_5_method_103_code
def yJ7_fill_53178 : MethodName := ⟨RJ7, "fill", "([II)V"⟩
def RL : String := "MonitorDeskLaw"
abbrev cL_law : ByteArray := code
def yL_law : MethodName := ⟨RL, "law", "([I)Z"⟩
def wsJ7_fill_53178 : List Cond := .code yJ7_fill_53178 cJ7_fill_53178 4 none :: ([])
def wsX0_init_r1 : List Cond := [Cond.methodLink RX0 1 objectInit, Cond.instanceMethod objectInit, Cond.code objectInit ⟨#[0xb1]⟩ 1 none, Cond.arrayClass .int, Cond.fieldLink RX0 9 "MonitorDesk" "locks" "[I", Cond.fieldLink RX0 13 "MonitorDesk" "locksMade" "I", Cond.arrayClass .boolean, Cond.fieldLink RX0 17 "MonitorDesk" "ended" "[Z", Cond.fieldLink RX0 21 "MonitorDesk" "total" "I", Cond.fieldLink RX0 24 "MonitorDesk" "flag" "Z", Cond.fieldLink RX0 28 "MonitorDesk" "operations" "[I", Cond.fieldLink RX0 31 "MonitorDesk" "arguments" "[I", Cond.fieldLink RX0 34 "MonitorDesk" "around" "[I", Cond.fieldLink RX0 37 "MonitorDesk" "ends" "[I", Cond.fieldLink RX0 40 "MonitorDesk" "stepCount" "I", Cond.fieldLink RX0 43 "MonitorDesk" "openCount" "I", Cond.fieldLink RX0 46 "MonitorDesk" "latestOpen" "I", Cond.fieldLink RX0 49 "MonitorDesk" "results" "[I", Cond.fieldLink RX0 52 "MonitorDesk" "latestFailure" "I", Cond.fieldLink RX0 55 "MonitorDesk" "held" "[I", Cond.fieldLink RX0 58 "MonitorDesk" "raised" "I", Cond.fieldLink RX0 61 "MonitorDesk" "resumeAt" "I", Cond.methodLink RX0 64 yJ7_fill_53178, Cond.static yJ7_fill_53178]
def wsX0_init_r2 : List Cond := [Cond.initialized RJ7, Cond.code yJ7_fill_53178 cJ7_fill_53178 4 none]
def wsX0_init : List Cond := .code yX0_init cX0_init 1 none :: ((wsX0_init_r1 ++ wsX0_init_r2) ++ wsX00)
def wsX0_hold : List Cond := .code yX0_hold cX0_hold 3 (some .int) :: ([.fieldLink RX0 13 "MonitorDesk" "locksMade" "I", .fieldLink RX0 9 "MonitorDesk" "locks" "[I"] ++ wsX00)
def wsX0_opensBlock : List Cond := .code yX0_opensBlock cX0_opensBlock 1 (some .boolean) :: ([])
def wsX0_step : List Cond := .code yX0_step cX0_step 3 (some .int) :: ([.fieldLink RX0 40 "MonitorDesk" "stepCount" "I", .fieldLink RX0 46 "MonitorDesk" "latestOpen" "I", .fieldLink RX0 43 "MonitorDesk" "openCount" "I", .fieldLink RX0 28 "MonitorDesk" "operations" "[I", .fieldLink RX0 31 "MonitorDesk" "arguments" "[I", .fieldLink RX0 34 "MonitorDesk" "around" "[I", .fieldLink RX0 37 "MonitorDesk" "ends" "[I", .methodLink RX0 70 yX0_opensBlock, .static yX0_opensBlock, .initialized RX0, .code yX0_opensBlock cX0_opensBlock 1 (some .boolean)] ++ wsX00)
def wsX0_clear : List Cond := .code yX0_clear cX0_clear 2 (some .int) :: ([.fieldLink RX0 40 "MonitorDesk" "stepCount" "I", .fieldLink RX0 43 "MonitorDesk" "openCount" "I", .fieldLink RX0 46 "MonitorDesk" "latestOpen" "I"] ++ wsX00)
def wsJ9_floorMod_7cf53 : List Cond := .code yJ9_floorMod_7cf53 cJ9_floorMod_7cf53 3 (some .int) :: ([])
def wsX0_isEnter : List Cond := .code yX0_isEnter cX0_isEnter 2 (some .boolean) :: ([.fieldLink RX0 28 "MonitorDesk" "operations" "[I"] ++ wsX00)
def wsX0_leastHandle : List Cond := .code yX0_leastHandle cX0_leastHandle 3 (some .int) :: ([.fieldLink RX0 9 "MonitorDesk" "locks" "[I"] ++ wsX00)
def wsX0_giveBack : List Cond := .code yX0_giveBack cX0_giveBack 3 (some .int) :: ([.fieldLink RX0 31 "MonitorDesk" "arguments" "[I", .fieldLink RX0 55 "MonitorDesk" "held" "[I", .methodLink RX0 99 yJ9_floorMod_7cf53, .static yJ9_floorMod_7cf53, .initialized RJ9, .code yJ9_floorMod_7cf53 cJ9_floorMod_7cf53 3 (some .int), .methodLink RX0 90 yX0_leastHandle, .instanceMethod yX0_leastHandle, .selects RX0 yX0_leastHandle yX0_leastHandle, .initialized RX0, .code yX0_leastHandle cX0_leastHandle 3 (some .int), .fieldLink RX0 9 "MonitorDesk" "locks" "[I"] ++ wsX00)
def wsX0_endBlock : List Cond := .code yX0_endBlock cX0_endBlock 2 (some .int) :: ([.methodLink RX0 133 yX0_isEnter, .instanceMethod yX0_isEnter, .selects RX0 yX0_isEnter yX0_isEnter, .initialized RX0, .code yX0_isEnter cX0_isEnter 2 (some .boolean), .fieldLink RX0 28 "MonitorDesk" "operations" "[I", .methodLink RX0 136 yX0_giveBack, .instanceMethod yX0_giveBack, .selects RX0 yX0_giveBack yX0_giveBack, .code yX0_giveBack cX0_giveBack 3 (some .int), .fieldLink RX0 31 "MonitorDesk" "arguments" "[I", .fieldLink RX0 55 "MonitorDesk" "held" "[I", .methodLink RX0 99 yJ9_floorMod_7cf53, .static yJ9_floorMod_7cf53, .initialized RJ9, .code yJ9_floorMod_7cf53 cJ9_floorMod_7cf53 3 (some .int), .methodLink RX0 90 yX0_leastHandle, .instanceMethod yX0_leastHandle, .selects RX0 yX0_leastHandle yX0_leastHandle, .code yX0_leastHandle cX0_leastHandle 3 (some .int), .fieldLink RX0 9 "MonitorDesk" "locks" "[I"] ++ wsX00)
def wsX0_raise : List Cond := .code yX0_raise cX0_raise 2 (some .int) :: ([.fieldLink RX0 58 "MonitorDesk" "raised" "I"] ++ wsX00)
def wsX0_enter : List Cond := .code yX0_enter cX0_enter 3 (some .int) :: ([.fieldLink RX0 9 "MonitorDesk" "locks" "[I", .fieldLink RX0 55 "MonitorDesk" "held" "[I", .methodLink RX0 127 yX0_raise, .instanceMethod yX0_raise, .selects RX0 yX0_raise yX0_raise, .initialized RX0, .code yX0_raise cX0_raise 2 (some .int), .fieldLink RX0 58 "MonitorDesk" "raised" "I", .methodLink RX0 90 yX0_leastHandle, .instanceMethod yX0_leastHandle, .selects RX0 yX0_leastHandle yX0_leastHandle, .code yX0_leastHandle cX0_leastHandle 3 (some .int)] ++ wsX00)
def wsX0_notifyWaiting : List Cond := .code yX0_notifyWaiting cX0_notifyWaiting 2 (some .int) :: ([.fieldLink RX0 9 "MonitorDesk" "locks" "[I", .fieldLink RX0 55 "MonitorDesk" "held" "[I", .methodLink RX0 127 yX0_raise, .instanceMethod yX0_raise, .selects RX0 yX0_raise yX0_raise, .initialized RX0, .code yX0_raise cX0_raise 2 (some .int), .fieldLink RX0 58 "MonitorDesk" "raised" "I", .methodLink RX0 90 yX0_leastHandle, .instanceMethod yX0_leastHandle, .selects RX0 yX0_leastHandle yX0_leastHandle, .code yX0_leastHandle cX0_leastHandle 3 (some .int)] ++ wsX00)
def wsX0_asNumber : List Cond := .code yX0_asNumber cX0_asNumber 1 (some .int) :: ([])
def wsX0_holdsLock : List Cond := .code yX0_holdsLock cX0_holdsLock 2 (some .int) :: ([.fieldLink RX0 9 "MonitorDesk" "locks" "[I", .fieldLink RX0 55 "MonitorDesk" "held" "[I", .methodLink RX0 127 yX0_raise, .instanceMethod yX0_raise, .selects RX0 yX0_raise yX0_raise, .initialized RX0, .code yX0_raise cX0_raise 2 (some .int), .fieldLink RX0 58 "MonitorDesk" "raised" "I", .methodLink RX0 90 yX0_leastHandle, .instanceMethod yX0_leastHandle, .selects RX0 yX0_leastHandle yX0_leastHandle, .code yX0_leastHandle cX0_leastHandle 3 (some .int), .methodLink RX0 78 yX0_asNumber, .static yX0_asNumber, .code yX0_asNumber cX0_asNumber 1 (some .int)] ++ wsX00)
def wsX0_takeFlag : List Cond := .code yX0_takeFlag cX0_takeFlag 2 (some .boolean) :: ([.fieldLink RX0 24 "MonitorDesk" "flag" "Z"] ++ wsX00)
def wsX0_awaitNotice : List Cond := .code yX0_awaitNotice cX0_awaitNotice 3 (some .int) :: ([.constant RX0 141 (-2147483648), .methodLink RX0 142 Lib.Math.abs.name, .static Lib.Math.abs.name, .initialized "java/lang/Math", .code Lib.Math.abs.name Lib.Math.abs.code 1 (some .int), .fieldLink RX0 9 "MonitorDesk" "locks" "[I", .fieldLink RX0 55 "MonitorDesk" "held" "[I", .methodLink RX0 127 yX0_raise, .instanceMethod yX0_raise, .selects RX0 yX0_raise yX0_raise, .initialized RX0, .code yX0_raise cX0_raise 2 (some .int), .fieldLink RX0 58 "MonitorDesk" "raised" "I", .methodLink RX0 90 yX0_leastHandle, .instanceMethod yX0_leastHandle, .selects RX0 yX0_leastHandle yX0_leastHandle, .code yX0_leastHandle cX0_leastHandle 3 (some .int), .methodLink RX0 120 yX0_takeFlag, .instanceMethod yX0_takeFlag, .selects RX0 yX0_takeFlag yX0_takeFlag, .code yX0_takeFlag cX0_takeFlag 2 (some .boolean), .fieldLink RX0 24 "MonitorDesk" "flag" "Z"] ++ wsX00)
def wsX0_sleep : List Cond := .code yX0_sleep cX0_sleep 2 (some .int) :: ([.methodLink RX0 127 yX0_raise, .instanceMethod yX0_raise, .selects RX0 yX0_raise yX0_raise, .initialized RX0, .code yX0_raise cX0_raise 2 (some .int), .fieldLink RX0 58 "MonitorDesk" "raised" "I", .methodLink RX0 120 yX0_takeFlag, .instanceMethod yX0_takeFlag, .selects RX0 yX0_takeFlag yX0_takeFlag, .code yX0_takeFlag cX0_takeFlag 2 (some .boolean), .fieldLink RX0 24 "MonitorDesk" "flag" "Z"] ++ wsX00)
def wsX0_start : List Cond := .code yX0_start cX0_start 2 (some .int) :: ([.fieldLink RX0 17 "MonitorDesk" "ended" "[Z", .fieldLink RX0 21 "MonitorDesk" "total" "I", .methodLink RX0 127 yX0_raise, .instanceMethod yX0_raise, .selects RX0 yX0_raise yX0_raise, .initialized RX0, .code yX0_raise cX0_raise 2 (some .int), .fieldLink RX0 58 "MonitorDesk" "raised" "I"] ++ wsX00)
def wsX0_perform_r1 : List Cond := [Cond.fieldLink RX0 31 "MonitorDesk" "arguments" "[I", Cond.fieldLink RX0 28 "MonitorDesk" "operations" "[I", Cond.fieldLink RX0 34 "MonitorDesk" "around" "[I", Cond.fieldLink RX0 24 "MonitorDesk" "flag" "Z", Cond.fieldLink RX0 17 "MonitorDesk" "ended" "[Z", Cond.fieldLink RX0 21 "MonitorDesk" "total" "I", Cond.methodLink RX0 99 yJ9_floorMod_7cf53, Cond.static yJ9_floorMod_7cf53, Cond.initialized RJ9, Cond.code yJ9_floorMod_7cf53 cJ9_floorMod_7cf53 3 (some .int), Cond.methodLink RX0 105 yX0_endBlock, Cond.instanceMethod yX0_endBlock, Cond.selects RX0 yX0_endBlock yX0_endBlock, Cond.initialized RX0, Cond.code yX0_endBlock cX0_endBlock 2 (some .int), Cond.methodLink RX0 133 yX0_isEnter, Cond.instanceMethod yX0_isEnter, Cond.selects RX0 yX0_isEnter yX0_isEnter, Cond.code yX0_isEnter cX0_isEnter 2 (some .boolean), Cond.methodLink RX0 136 yX0_giveBack, Cond.instanceMethod yX0_giveBack, Cond.selects RX0 yX0_giveBack yX0_giveBack, Cond.code yX0_giveBack cX0_giveBack 3 (some .int), Cond.fieldLink RX0 55 "MonitorDesk" "held" "[I"]
def wsX0_perform_r2 : List Cond := [Cond.methodLink RX0 90 yX0_leastHandle, Cond.instanceMethod yX0_leastHandle, Cond.selects RX0 yX0_leastHandle yX0_leastHandle, Cond.code yX0_leastHandle cX0_leastHandle 3 (some .int), Cond.fieldLink RX0 9 "MonitorDesk" "locks" "[I", Cond.methodLink RX0 108 yX0_enter, Cond.instanceMethod yX0_enter, Cond.selects RX0 yX0_enter yX0_enter, Cond.code yX0_enter cX0_enter 3 (some .int), Cond.methodLink RX0 127 yX0_raise, Cond.instanceMethod yX0_raise, Cond.selects RX0 yX0_raise yX0_raise, Cond.code yX0_raise cX0_raise 2 (some .int), Cond.fieldLink RX0 58 "MonitorDesk" "raised" "I", Cond.methodLink RX0 111 yX0_notifyWaiting, Cond.instanceMethod yX0_notifyWaiting, Cond.selects RX0 yX0_notifyWaiting yX0_notifyWaiting, Cond.code yX0_notifyWaiting cX0_notifyWaiting 2 (some .int), Cond.methodLink RX0 114 yX0_holdsLock, Cond.instanceMethod yX0_holdsLock, Cond.selects RX0 yX0_holdsLock yX0_holdsLock, Cond.code yX0_holdsLock cX0_holdsLock 2 (some .int), Cond.methodLink RX0 78 yX0_asNumber, Cond.static yX0_asNumber]
def wsX0_perform_r3 : List Cond := [Cond.code yX0_asNumber cX0_asNumber 1 (some .int), Cond.methodLink RX0 117 yX0_awaitNotice, Cond.instanceMethod yX0_awaitNotice, Cond.selects RX0 yX0_awaitNotice yX0_awaitNotice, Cond.code yX0_awaitNotice cX0_awaitNotice 3 (some .int), Cond.constant RX0 141 (-2147483648), Cond.methodLink RX0 142 Lib.Math.abs.name, Cond.static Lib.Math.abs.name, Cond.initialized "java/lang/Math", Cond.code Lib.Math.abs.name Lib.Math.abs.code 1 (some .int), Cond.methodLink RX0 120 yX0_takeFlag, Cond.instanceMethod yX0_takeFlag, Cond.selects RX0 yX0_takeFlag yX0_takeFlag, Cond.code yX0_takeFlag cX0_takeFlag 2 (some .boolean), Cond.methodLink RX0 124 yX0_sleep, Cond.instanceMethod yX0_sleep, Cond.selects RX0 yX0_sleep yX0_sleep, Cond.code yX0_sleep cX0_sleep 2 (some .int), Cond.methodLink RX0 130 yX0_start, Cond.instanceMethod yX0_start, Cond.selects RX0 yX0_start yX0_start, Cond.code yX0_start cX0_start 2 (some .int)]
def wsX0_perform : List Cond := .code yX0_perform cX0_perform 5 (some .int) :: ((wsX0_perform_r1 ++ (wsX0_perform_r2 ++ wsX0_perform_r3)) ++ wsX00)
def wsX0_leaveBlocks_r1 : List Cond := [Cond.fieldLink RX0 34 "MonitorDesk" "around" "[I", Cond.fieldLink RX0 58 "MonitorDesk" "raised" "I", Cond.fieldLink RX0 52 "MonitorDesk" "latestFailure" "I", Cond.fieldLink RX0 40 "MonitorDesk" "stepCount" "I", Cond.fieldLink RX0 61 "MonitorDesk" "resumeAt" "I", Cond.fieldLink RX0 49 "MonitorDesk" "results" "[I", Cond.fieldLink RX0 37 "MonitorDesk" "ends" "[I", Cond.methodLink RX0 133 yX0_isEnter, Cond.instanceMethod yX0_isEnter, Cond.selects RX0 yX0_isEnter yX0_isEnter, Cond.initialized RX0, Cond.code yX0_isEnter cX0_isEnter 2 (some .boolean), Cond.fieldLink RX0 28 "MonitorDesk" "operations" "[I", Cond.methodLink RX0 136 yX0_giveBack, Cond.instanceMethod yX0_giveBack, Cond.selects RX0 yX0_giveBack yX0_giveBack, Cond.code yX0_giveBack cX0_giveBack 3 (some .int), Cond.fieldLink RX0 31 "MonitorDesk" "arguments" "[I", Cond.fieldLink RX0 55 "MonitorDesk" "held" "[I", Cond.methodLink RX0 99 yJ9_floorMod_7cf53, Cond.static yJ9_floorMod_7cf53, Cond.initialized RJ9, Cond.code yJ9_floorMod_7cf53 cJ9_floorMod_7cf53 3 (some .int), Cond.methodLink RX0 90 yX0_leastHandle]
def wsX0_leaveBlocks_r2 : List Cond := [Cond.instanceMethod yX0_leastHandle, Cond.selects RX0 yX0_leastHandle yX0_leastHandle, Cond.code yX0_leastHandle cX0_leastHandle 3 (some .int), Cond.fieldLink RX0 9 "MonitorDesk" "locks" "[I"]
def wsX0_leaveBlocks : List Cond := .code yX0_leaveBlocks cX0_leaveBlocks 4 none :: ((wsX0_leaveBlocks_r1 ++ wsX0_leaveBlocks_r2) ++ wsX00)
def wsX0_doStep_r1 : List Cond := [Cond.fieldLink RX0 58 "MonitorDesk" "raised" "I", Cond.fieldLink RX0 49 "MonitorDesk" "results" "[I", Cond.methodLink RX0 93 yX0_perform, Cond.instanceMethod yX0_perform, Cond.selects RX0 yX0_perform yX0_perform, Cond.initialized RX0, Cond.code yX0_perform cX0_perform 5 (some .int), Cond.fieldLink RX0 31 "MonitorDesk" "arguments" "[I", Cond.fieldLink RX0 28 "MonitorDesk" "operations" "[I", Cond.fieldLink RX0 34 "MonitorDesk" "around" "[I", Cond.fieldLink RX0 24 "MonitorDesk" "flag" "Z", Cond.fieldLink RX0 17 "MonitorDesk" "ended" "[Z", Cond.fieldLink RX0 21 "MonitorDesk" "total" "I", Cond.methodLink RX0 99 yJ9_floorMod_7cf53, Cond.static yJ9_floorMod_7cf53, Cond.initialized RJ9, Cond.code yJ9_floorMod_7cf53 cJ9_floorMod_7cf53 3 (some .int), Cond.methodLink RX0 105 yX0_endBlock, Cond.instanceMethod yX0_endBlock, Cond.selects RX0 yX0_endBlock yX0_endBlock, Cond.code yX0_endBlock cX0_endBlock 2 (some .int), Cond.methodLink RX0 133 yX0_isEnter, Cond.instanceMethod yX0_isEnter, Cond.selects RX0 yX0_isEnter yX0_isEnter]
def wsX0_doStep_r2 : List Cond := [Cond.code yX0_isEnter cX0_isEnter 2 (some .boolean), Cond.methodLink RX0 136 yX0_giveBack, Cond.instanceMethod yX0_giveBack, Cond.selects RX0 yX0_giveBack yX0_giveBack, Cond.code yX0_giveBack cX0_giveBack 3 (some .int), Cond.fieldLink RX0 55 "MonitorDesk" "held" "[I", Cond.methodLink RX0 90 yX0_leastHandle, Cond.instanceMethod yX0_leastHandle, Cond.selects RX0 yX0_leastHandle yX0_leastHandle, Cond.code yX0_leastHandle cX0_leastHandle 3 (some .int), Cond.fieldLink RX0 9 "MonitorDesk" "locks" "[I", Cond.methodLink RX0 108 yX0_enter, Cond.instanceMethod yX0_enter, Cond.selects RX0 yX0_enter yX0_enter, Cond.code yX0_enter cX0_enter 3 (some .int), Cond.methodLink RX0 127 yX0_raise, Cond.instanceMethod yX0_raise, Cond.selects RX0 yX0_raise yX0_raise, Cond.code yX0_raise cX0_raise 2 (some .int), Cond.methodLink RX0 111 yX0_notifyWaiting, Cond.instanceMethod yX0_notifyWaiting, Cond.selects RX0 yX0_notifyWaiting yX0_notifyWaiting, Cond.code yX0_notifyWaiting cX0_notifyWaiting 2 (some .int), Cond.methodLink RX0 114 yX0_holdsLock]
def wsX0_doStep_r3 : List Cond := [Cond.instanceMethod yX0_holdsLock, Cond.selects RX0 yX0_holdsLock yX0_holdsLock, Cond.code yX0_holdsLock cX0_holdsLock 2 (some .int), Cond.methodLink RX0 78 yX0_asNumber, Cond.static yX0_asNumber, Cond.code yX0_asNumber cX0_asNumber 1 (some .int), Cond.methodLink RX0 117 yX0_awaitNotice, Cond.instanceMethod yX0_awaitNotice, Cond.selects RX0 yX0_awaitNotice yX0_awaitNotice, Cond.code yX0_awaitNotice cX0_awaitNotice 3 (some .int), Cond.constant RX0 141 (-2147483648), Cond.methodLink RX0 142 Lib.Math.abs.name, Cond.static Lib.Math.abs.name, Cond.initialized "java/lang/Math", Cond.code Lib.Math.abs.name Lib.Math.abs.code 1 (some .int), Cond.methodLink RX0 120 yX0_takeFlag, Cond.instanceMethod yX0_takeFlag, Cond.selects RX0 yX0_takeFlag yX0_takeFlag, Cond.code yX0_takeFlag cX0_takeFlag 2 (some .boolean), Cond.methodLink RX0 124 yX0_sleep, Cond.instanceMethod yX0_sleep, Cond.selects RX0 yX0_sleep yX0_sleep, Cond.code yX0_sleep cX0_sleep 2 (some .int), Cond.methodLink RX0 130 yX0_start]
def wsX0_doStep_r4 : List Cond := [Cond.instanceMethod yX0_start, Cond.selects RX0 yX0_start yX0_start, Cond.code yX0_start cX0_start 2 (some .int), Cond.methodLink RX0 96 yX0_leaveBlocks, Cond.instanceMethod yX0_leaveBlocks, Cond.selects RX0 yX0_leaveBlocks yX0_leaveBlocks, Cond.code yX0_leaveBlocks cX0_leaveBlocks 4 none, Cond.fieldLink RX0 52 "MonitorDesk" "latestFailure" "I", Cond.fieldLink RX0 40 "MonitorDesk" "stepCount" "I", Cond.fieldLink RX0 61 "MonitorDesk" "resumeAt" "I", Cond.fieldLink RX0 37 "MonitorDesk" "ends" "[I"]
def wsX0_doStep : List Cond := .code yX0_doStep cX0_doStep 3 none :: ((wsX0_doStep_r1 ++ (wsX0_doStep_r2 ++ (wsX0_doStep_r3 ++ wsX0_doStep_r4))) ++ wsX00)
def wsX0_run_r1 : List Cond := [Cond.fieldLink RX0 43 "MonitorDesk" "openCount" "I", Cond.fieldLink RX0 49 "MonitorDesk" "results" "[I", Cond.fieldLink RX0 55 "MonitorDesk" "held" "[I", Cond.fieldLink RX0 52 "MonitorDesk" "latestFailure" "I", Cond.fieldLink RX0 61 "MonitorDesk" "resumeAt" "I", Cond.fieldLink RX0 40 "MonitorDesk" "stepCount" "I", Cond.methodLink RX0 64 yJ7_fill_53178, Cond.static yJ7_fill_53178, Cond.initialized RJ7, Cond.code yJ7_fill_53178 cJ7_fill_53178 4 none, Cond.methodLink RX0 74 yX0_doStep, Cond.instanceMethod yX0_doStep, Cond.selects RX0 yX0_doStep yX0_doStep, Cond.initialized RX0, Cond.code yX0_doStep cX0_doStep 3 none, Cond.fieldLink RX0 58 "MonitorDesk" "raised" "I", Cond.methodLink RX0 93 yX0_perform, Cond.instanceMethod yX0_perform, Cond.selects RX0 yX0_perform yX0_perform, Cond.code yX0_perform cX0_perform 5 (some .int), Cond.fieldLink RX0 31 "MonitorDesk" "arguments" "[I", Cond.fieldLink RX0 28 "MonitorDesk" "operations" "[I", Cond.fieldLink RX0 34 "MonitorDesk" "around" "[I", Cond.fieldLink RX0 24 "MonitorDesk" "flag" "Z"]
def wsX0_run_r2 : List Cond := [Cond.fieldLink RX0 17 "MonitorDesk" "ended" "[Z", Cond.fieldLink RX0 21 "MonitorDesk" "total" "I", Cond.methodLink RX0 99 yJ9_floorMod_7cf53, Cond.static yJ9_floorMod_7cf53, Cond.initialized RJ9, Cond.code yJ9_floorMod_7cf53 cJ9_floorMod_7cf53 3 (some .int), Cond.methodLink RX0 105 yX0_endBlock, Cond.instanceMethod yX0_endBlock, Cond.selects RX0 yX0_endBlock yX0_endBlock, Cond.code yX0_endBlock cX0_endBlock 2 (some .int), Cond.methodLink RX0 133 yX0_isEnter, Cond.instanceMethod yX0_isEnter, Cond.selects RX0 yX0_isEnter yX0_isEnter, Cond.code yX0_isEnter cX0_isEnter 2 (some .boolean), Cond.methodLink RX0 136 yX0_giveBack, Cond.instanceMethod yX0_giveBack, Cond.selects RX0 yX0_giveBack yX0_giveBack, Cond.code yX0_giveBack cX0_giveBack 3 (some .int), Cond.methodLink RX0 90 yX0_leastHandle, Cond.instanceMethod yX0_leastHandle, Cond.selects RX0 yX0_leastHandle yX0_leastHandle, Cond.code yX0_leastHandle cX0_leastHandle 3 (some .int), Cond.fieldLink RX0 9 "MonitorDesk" "locks" "[I", Cond.methodLink RX0 108 yX0_enter]
def wsX0_run_r3 : List Cond := [Cond.instanceMethod yX0_enter, Cond.selects RX0 yX0_enter yX0_enter, Cond.code yX0_enter cX0_enter 3 (some .int), Cond.methodLink RX0 127 yX0_raise, Cond.instanceMethod yX0_raise, Cond.selects RX0 yX0_raise yX0_raise, Cond.code yX0_raise cX0_raise 2 (some .int), Cond.methodLink RX0 111 yX0_notifyWaiting, Cond.instanceMethod yX0_notifyWaiting, Cond.selects RX0 yX0_notifyWaiting yX0_notifyWaiting, Cond.code yX0_notifyWaiting cX0_notifyWaiting 2 (some .int), Cond.methodLink RX0 114 yX0_holdsLock, Cond.instanceMethod yX0_holdsLock, Cond.selects RX0 yX0_holdsLock yX0_holdsLock, Cond.code yX0_holdsLock cX0_holdsLock 2 (some .int), Cond.methodLink RX0 78 yX0_asNumber, Cond.static yX0_asNumber, Cond.code yX0_asNumber cX0_asNumber 1 (some .int), Cond.methodLink RX0 117 yX0_awaitNotice, Cond.instanceMethod yX0_awaitNotice, Cond.selects RX0 yX0_awaitNotice yX0_awaitNotice, Cond.code yX0_awaitNotice cX0_awaitNotice 3 (some .int), Cond.constant RX0 141 (-2147483648), Cond.methodLink RX0 142 Lib.Math.abs.name]
def wsX0_run_r4 : List Cond := [Cond.static Lib.Math.abs.name, Cond.initialized "java/lang/Math", Cond.code Lib.Math.abs.name Lib.Math.abs.code 1 (some .int), Cond.methodLink RX0 120 yX0_takeFlag, Cond.instanceMethod yX0_takeFlag, Cond.selects RX0 yX0_takeFlag yX0_takeFlag, Cond.code yX0_takeFlag cX0_takeFlag 2 (some .boolean), Cond.methodLink RX0 124 yX0_sleep, Cond.instanceMethod yX0_sleep, Cond.selects RX0 yX0_sleep yX0_sleep, Cond.code yX0_sleep cX0_sleep 2 (some .int), Cond.methodLink RX0 130 yX0_start, Cond.instanceMethod yX0_start, Cond.selects RX0 yX0_start yX0_start, Cond.code yX0_start cX0_start 2 (some .int), Cond.methodLink RX0 96 yX0_leaveBlocks, Cond.instanceMethod yX0_leaveBlocks, Cond.selects RX0 yX0_leaveBlocks yX0_leaveBlocks, Cond.code yX0_leaveBlocks cX0_leaveBlocks 4 none, Cond.fieldLink RX0 37 "MonitorDesk" "ends" "[I"]
def wsX0_run : List Cond := .code yX0_run cX0_run 3 (some .int) :: ((wsX0_run_r1 ++ (wsX0_run_r2 ++ (wsX0_run_r3 ++ wsX0_run_r4))) ++ wsX00)
def wsX0_result : List Cond := .code yX0_result cX0_result 2 (some .int) :: ([.fieldLink RX0 49 "MonitorDesk" "results" "[I"] ++ wsX00)
def wsX0_failure : List Cond := .code yX0_failure cX0_failure 1 (some .int) :: ([.fieldLink RX0 52 "MonitorDesk" "latestFailure" "I"] ++ wsX00)
def wsX0_countEnded : List Cond := .code yX0_countEnded cX0_countEnded 3 (some .int) :: ([.fieldLink RX0 17 "MonitorDesk" "ended" "[Z", .methodLink RX0 78 yX0_asNumber, .static yX0_asNumber, .initialized RX0, .code yX0_asNumber cX0_asNumber 1 (some .int)] ++ wsX00)
def wsX0_handleState : List Cond := .code yX0_handleState cX0_handleState 3 (some .int) :: ([.fieldLink RX0 9 "MonitorDesk" "locks" "[I", .methodLink RX0 90 yX0_leastHandle, .instanceMethod yX0_leastHandle, .selects RX0 yX0_leastHandle yX0_leastHandle, .initialized RX0, .code yX0_leastHandle cX0_leastHandle 3 (some .int)] ++ wsX00)
def wsX0_state : List Cond := .code yX0_state cX0_state 2 (some .int) :: ([.fieldLink RX0 40 "MonitorDesk" "stepCount" "I", .fieldLink RX0 43 "MonitorDesk" "openCount" "I", .fieldLink RX0 21 "MonitorDesk" "total" "I", .fieldLink RX0 24 "MonitorDesk" "flag" "Z", .methodLink RX0 78 yX0_asNumber, .static yX0_asNumber, .initialized RX0, .code yX0_asNumber cX0_asNumber 1 (some .int), .methodLink RX0 82 yX0_countEnded, .instanceMethod yX0_countEnded, .selects RX0 yX0_countEnded yX0_countEnded, .code yX0_countEnded cX0_countEnded 3 (some .int), .fieldLink RX0 17 "MonitorDesk" "ended" "[Z", .methodLink RX0 86 yX0_handleState, .instanceMethod yX0_handleState, .selects RX0 yX0_handleState yX0_handleState, .code yX0_handleState cX0_handleState 3 (some .int), .fieldLink RX0 9 "MonitorDesk" "locks" "[I", .methodLink RX0 90 yX0_leastHandle, .instanceMethod yX0_leastHandle, .selects RX0 yX0_leastHandle yX0_leastHandle, .code yX0_leastHandle cX0_leastHandle 3 (some .int)] ++ wsX00)
def wsX1_init : List Cond := .code yX1_init cX1_init 2 none :: ([.methodLink RX1 1 objectInit, .instanceMethod objectInit, .code objectInit ⟨#[0xb1]⟩ 1 none, .arrayClass .int, .fieldLink RX1 7 "MonitorDeskModel" "lock" "[I", .fieldLink RX1 13 "MonitorDeskModel" "held" "[I", .arrayClass .boolean, .fieldLink RX1 16 "MonitorDeskModel" "ended" "[Z", .fieldLink RX1 20 "MonitorDeskModel" "operation" "[I", .fieldLink RX1 23 "MonitorDeskModel" "argument" "[I", .fieldLink RX1 26 "MonitorDeskModel" "result" "[I", .fieldLink RX1 29 "MonitorDeskModel" "block" "[I"] ++ wsX10)
def wsX1_in : List Cond := .code yX1_in cX1_in 2 (some .boolean) :: ([])
def wsX1_modulo : List Cond := .code yX1_modulo cX1_modulo 2 (some .int) :: ([])
def wsX1_hold : List Cond := .code yX1_hold cX1_hold 3 (some .int) :: ([.fieldLink RX1 36 "MonitorDeskModel" "locks" "I", .fieldLink RX1 7 "MonitorDeskModel" "lock" "[I", .methodLink RX1 32 yX1_in, .static yX1_in, .initialized RX1, .code yX1_in cX1_in 2 (some .boolean)] ++ wsX10)
def wsX1_step : List Cond := .code yX1_step cX1_step 4 (some .int) :: ([.fieldLink RX1 40 "MonitorDeskModel" "steps" "I", .fieldLink RX1 43 "MonitorDeskModel" "open" "I", .fieldLink RX1 20 "MonitorDeskModel" "operation" "[I", .fieldLink RX1 23 "MonitorDeskModel" "argument" "[I", .methodLink RX1 32 yX1_in, .static yX1_in, .initialized RX1, .code yX1_in cX1_in 2 (some .boolean)] ++ wsX10)
def wsX1_clear : List Cond := .code yX1_clear cX1_clear 2 (some .int) :: ([.fieldLink RX1 40 "MonitorDeskModel" "steps" "I", .fieldLink RX1 43 "MonitorDeskModel" "open" "I"] ++ wsX10)
def wsX1_behind : List Cond := .code yX1_behind cX1_behind 4 (some .int) :: ([.fieldLink RX1 40 "MonitorDeskModel" "steps" "I", .fieldLink RX1 20 "MonitorDeskModel" "operation" "[I"] ++ wsX10)
def wsX1_lockOf : List Cond := .code yX1_lockOf cX1_lockOf 2 (some .int) :: ([.fieldLink RX1 7 "MonitorDeskModel" "lock" "[I", .fieldLink RX1 23 "MonitorDeskModel" "argument" "[I", .methodLink RX1 46 yX1_modulo, .static yX1_modulo, .initialized RX1, .code yX1_modulo cX1_modulo 2 (some .int)] ++ wsX10)
def wsX1_monitor : List Cond := .code yX1_monitor cX1_monitor 4 (some .int) :: ([.fieldLink RX1 54 "MonitorDeskModel" "code" "I", .fieldLink RX1 13 "MonitorDeskModel" "held" "[I", .methodLink RX1 50 yX1_lockOf, .instanceMethod yX1_lockOf, .selects RX1 yX1_lockOf yX1_lockOf, .initialized RX1, .code yX1_lockOf cX1_lockOf 2 (some .int), .fieldLink RX1 7 "MonitorDeskModel" "lock" "[I", .fieldLink RX1 23 "MonitorDeskModel" "argument" "[I", .methodLink RX1 46 yX1_modulo, .static yX1_modulo, .code yX1_modulo cX1_modulo 2 (some .int)] ++ wsX10)
def wsX1_interrupted : List Cond := .code yX1_interrupted cX1_interrupted 1 none :: ([.fieldLink RX1 61 "MonitorDeskModel" "flag" "Z", .fieldLink RX1 54 "MonitorDeskModel" "code" "I"] ++ wsX10)
def wsX1_pause : List Cond := .code yX1_pause cX1_pause 5 (some .int) :: ([.fieldLink RX1 23 "MonitorDeskModel" "argument" "[I", .constant RX1 57 (-2147483648), .fieldLink RX1 7 "MonitorDeskModel" "lock" "[I", .fieldLink RX1 54 "MonitorDeskModel" "code" "I", .fieldLink RX1 13 "MonitorDeskModel" "held" "[I", .methodLink RX1 58 yX1_interrupted, .instanceMethod yX1_interrupted, .selects RX1 yX1_interrupted yX1_interrupted, .initialized RX1, .code yX1_interrupted cX1_interrupted 1 none, .fieldLink RX1 61 "MonitorDeskModel" "flag" "Z"] ++ wsX10)
def wsX1_close : List Cond := .code yX1_close cX1_close 3 (some .int) :: ([.fieldLink RX1 65 "MonitorDeskModel" "depth" "I", .fieldLink RX1 29 "MonitorDeskModel" "block" "[I", .fieldLink RX1 20 "MonitorDeskModel" "operation" "[I", .fieldLink RX1 13 "MonitorDeskModel" "held" "[I", .methodLink RX1 50 yX1_lockOf, .instanceMethod yX1_lockOf, .selects RX1 yX1_lockOf yX1_lockOf, .initialized RX1, .code yX1_lockOf cX1_lockOf 2 (some .int), .fieldLink RX1 7 "MonitorDeskModel" "lock" "[I", .fieldLink RX1 23 "MonitorDeskModel" "argument" "[I", .methodLink RX1 46 yX1_modulo, .static yX1_modulo, .code yX1_modulo cX1_modulo 2 (some .int)] ++ wsX10)
def wsX1_enter : List Cond := .code yX1_enter cX1_enter 3 (some .int) :: ([.fieldLink RX1 54 "MonitorDeskModel" "code" "I", .fieldLink RX1 13 "MonitorDeskModel" "held" "[I", .fieldLink RX1 29 "MonitorDeskModel" "block" "[I", .fieldLink RX1 65 "MonitorDeskModel" "depth" "I", .methodLink RX1 68 yX1_monitor, .instanceMethod yX1_monitor, .selects RX1 yX1_monitor yX1_monitor, .initialized RX1, .code yX1_monitor cX1_monitor 4 (some .int), .methodLink RX1 50 yX1_lockOf, .instanceMethod yX1_lockOf, .selects RX1 yX1_lockOf yX1_lockOf, .code yX1_lockOf cX1_lockOf 2 (some .int), .fieldLink RX1 7 "MonitorDeskModel" "lock" "[I", .fieldLink RX1 23 "MonitorDeskModel" "argument" "[I", .methodLink RX1 46 yX1_modulo, .static yX1_modulo, .code yX1_modulo cX1_modulo 2 (some .int)] ++ wsX10)
def wsX1_thread : List Cond := .code yX1_thread cX1_thread 3 (some .int) :: ([.fieldLink RX1 23 "MonitorDeskModel" "argument" "[I", .fieldLink RX1 20 "MonitorDeskModel" "operation" "[I", .fieldLink RX1 16 "MonitorDeskModel" "ended" "[Z", .fieldLink RX1 54 "MonitorDeskModel" "code" "I", .fieldLink RX1 72 "MonitorDeskModel" "total" "I", .methodLink RX1 46 yX1_modulo, .static yX1_modulo, .initialized RX1, .code yX1_modulo cX1_modulo 2 (some .int)] ++ wsX10)
def wsX1_others : List Cond := .code yX1_others cX1_others 4 (some .int) :: ([.fieldLink RX1 23 "MonitorDeskModel" "argument" "[I", .fieldLink RX1 61 "MonitorDeskModel" "flag" "Z", .fieldLink RX1 20 "MonitorDeskModel" "operation" "[I", .fieldLink RX1 54 "MonitorDeskModel" "code" "I", .fieldLink RX1 72 "MonitorDeskModel" "total" "I", .methodLink RX1 58 yX1_interrupted, .instanceMethod yX1_interrupted, .selects RX1 yX1_interrupted yX1_interrupted, .initialized RX1, .code yX1_interrupted cX1_interrupted 1 none, .methodLink RX1 46 yX1_modulo, .static yX1_modulo, .code yX1_modulo cX1_modulo 2 (some .int)] ++ wsX10)
def wsX1_work_r1 : List Cond := [Cond.fieldLink RX1 20 "MonitorDeskModel" "operation" "[I", Cond.fieldLink RX1 29 "MonitorDeskModel" "block" "[I", Cond.fieldLink RX1 65 "MonitorDeskModel" "depth" "I", Cond.fieldLink RX1 13 "MonitorDeskModel" "held" "[I", Cond.methodLink RX1 75 yX1_close, Cond.instanceMethod yX1_close, Cond.selects RX1 yX1_close yX1_close, Cond.initialized RX1, Cond.code yX1_close cX1_close 3 (some .int), Cond.methodLink RX1 50 yX1_lockOf, Cond.instanceMethod yX1_lockOf, Cond.selects RX1 yX1_lockOf yX1_lockOf, Cond.code yX1_lockOf cX1_lockOf 2 (some .int), Cond.fieldLink RX1 7 "MonitorDeskModel" "lock" "[I", Cond.fieldLink RX1 23 "MonitorDeskModel" "argument" "[I", Cond.methodLink RX1 46 yX1_modulo, Cond.static yX1_modulo, Cond.code yX1_modulo cX1_modulo 2 (some .int), Cond.methodLink RX1 79 yX1_enter, Cond.instanceMethod yX1_enter, Cond.selects RX1 yX1_enter yX1_enter, Cond.code yX1_enter cX1_enter 3 (some .int), Cond.fieldLink RX1 54 "MonitorDeskModel" "code" "I", Cond.methodLink RX1 68 yX1_monitor]
def wsX1_work_r2 : List Cond := [Cond.instanceMethod yX1_monitor, Cond.selects RX1 yX1_monitor yX1_monitor, Cond.code yX1_monitor cX1_monitor 4 (some .int), Cond.methodLink RX1 82 yX1_pause, Cond.instanceMethod yX1_pause, Cond.selects RX1 yX1_pause yX1_pause, Cond.code yX1_pause cX1_pause 5 (some .int), Cond.constant RX1 57 (-2147483648), Cond.methodLink RX1 58 yX1_interrupted, Cond.instanceMethod yX1_interrupted, Cond.selects RX1 yX1_interrupted yX1_interrupted, Cond.code yX1_interrupted cX1_interrupted 1 none, Cond.fieldLink RX1 61 "MonitorDeskModel" "flag" "Z", Cond.methodLink RX1 85 yX1_thread, Cond.instanceMethod yX1_thread, Cond.selects RX1 yX1_thread yX1_thread, Cond.code yX1_thread cX1_thread 3 (some .int), Cond.fieldLink RX1 16 "MonitorDeskModel" "ended" "[Z", Cond.fieldLink RX1 72 "MonitorDeskModel" "total" "I", Cond.methodLink RX1 88 yX1_others, Cond.instanceMethod yX1_others, Cond.selects RX1 yX1_others yX1_others, Cond.code yX1_others cX1_others 4 (some .int)]
def wsX1_work : List Cond := .code yX1_work cX1_work 4 (some .int) :: ((wsX1_work_r1 ++ wsX1_work_r2) ++ wsX10)
def wsX1_unwind_r1 : List Cond := [Cond.fieldLink RX1 65 "MonitorDeskModel" "depth" "I", Cond.fieldLink RX1 29 "MonitorDeskModel" "block" "[I", Cond.fieldLink RX1 20 "MonitorDeskModel" "operation" "[I", Cond.fieldLink RX1 26 "MonitorDeskModel" "result" "[I", Cond.fieldLink RX1 54 "MonitorDeskModel" "code" "I", Cond.fieldLink RX1 94 "MonitorDeskModel" "failure" "I", Cond.fieldLink RX1 40 "MonitorDeskModel" "steps" "I", Cond.methodLink RX1 75 yX1_close, Cond.instanceMethod yX1_close, Cond.selects RX1 yX1_close yX1_close, Cond.initialized RX1, Cond.code yX1_close cX1_close 3 (some .int), Cond.fieldLink RX1 13 "MonitorDeskModel" "held" "[I", Cond.methodLink RX1 50 yX1_lockOf, Cond.instanceMethod yX1_lockOf, Cond.selects RX1 yX1_lockOf yX1_lockOf, Cond.code yX1_lockOf cX1_lockOf 2 (some .int), Cond.fieldLink RX1 7 "MonitorDeskModel" "lock" "[I", Cond.fieldLink RX1 23 "MonitorDeskModel" "argument" "[I", Cond.methodLink RX1 46 yX1_modulo, Cond.static yX1_modulo, Cond.code yX1_modulo cX1_modulo 2 (some .int), Cond.methodLink RX1 91 yX1_behind, Cond.instanceMethod yX1_behind]
def wsX1_unwind_r2 : List Cond := [Cond.selects RX1 yX1_behind yX1_behind, Cond.code yX1_behind cX1_behind 4 (some .int)]
def wsX1_unwind : List Cond := .code yX1_unwind cX1_unwind 3 (some .int) :: ((wsX1_unwind_r1 ++ wsX1_unwind_r2) ++ wsX10)
def wsX1_run_r1 : List Cond := [Cond.fieldLink RX1 43 "MonitorDeskModel" "open" "I", Cond.fieldLink RX1 26 "MonitorDeskModel" "result" "[I", Cond.fieldLink RX1 94 "MonitorDeskModel" "failure" "I", Cond.fieldLink RX1 65 "MonitorDeskModel" "depth" "I", Cond.fieldLink RX1 40 "MonitorDeskModel" "steps" "I", Cond.fieldLink RX1 54 "MonitorDeskModel" "code" "I", Cond.methodLink RX1 97 yX1_work, Cond.instanceMethod yX1_work, Cond.selects RX1 yX1_work yX1_work, Cond.initialized RX1, Cond.code yX1_work cX1_work 4 (some .int), Cond.fieldLink RX1 20 "MonitorDeskModel" "operation" "[I", Cond.fieldLink RX1 29 "MonitorDeskModel" "block" "[I", Cond.fieldLink RX1 13 "MonitorDeskModel" "held" "[I", Cond.methodLink RX1 75 yX1_close, Cond.instanceMethod yX1_close, Cond.selects RX1 yX1_close yX1_close, Cond.code yX1_close cX1_close 3 (some .int), Cond.methodLink RX1 50 yX1_lockOf, Cond.instanceMethod yX1_lockOf, Cond.selects RX1 yX1_lockOf yX1_lockOf, Cond.code yX1_lockOf cX1_lockOf 2 (some .int), Cond.fieldLink RX1 7 "MonitorDeskModel" "lock" "[I", Cond.fieldLink RX1 23 "MonitorDeskModel" "argument" "[I"]
def wsX1_run_r2 : List Cond := [Cond.methodLink RX1 46 yX1_modulo, Cond.static yX1_modulo, Cond.code yX1_modulo cX1_modulo 2 (some .int), Cond.methodLink RX1 79 yX1_enter, Cond.instanceMethod yX1_enter, Cond.selects RX1 yX1_enter yX1_enter, Cond.code yX1_enter cX1_enter 3 (some .int), Cond.methodLink RX1 68 yX1_monitor, Cond.instanceMethod yX1_monitor, Cond.selects RX1 yX1_monitor yX1_monitor, Cond.code yX1_monitor cX1_monitor 4 (some .int), Cond.methodLink RX1 82 yX1_pause, Cond.instanceMethod yX1_pause, Cond.selects RX1 yX1_pause yX1_pause, Cond.code yX1_pause cX1_pause 5 (some .int), Cond.constant RX1 57 (-2147483648), Cond.methodLink RX1 58 yX1_interrupted, Cond.instanceMethod yX1_interrupted, Cond.selects RX1 yX1_interrupted yX1_interrupted, Cond.code yX1_interrupted cX1_interrupted 1 none, Cond.fieldLink RX1 61 "MonitorDeskModel" "flag" "Z", Cond.methodLink RX1 85 yX1_thread, Cond.instanceMethod yX1_thread, Cond.selects RX1 yX1_thread yX1_thread]
def wsX1_run_r3 : List Cond := [Cond.code yX1_thread cX1_thread 3 (some .int), Cond.fieldLink RX1 16 "MonitorDeskModel" "ended" "[Z", Cond.fieldLink RX1 72 "MonitorDeskModel" "total" "I", Cond.methodLink RX1 88 yX1_others, Cond.instanceMethod yX1_others, Cond.selects RX1 yX1_others yX1_others, Cond.code yX1_others cX1_others 4 (some .int), Cond.methodLink RX1 100 yX1_unwind, Cond.instanceMethod yX1_unwind, Cond.selects RX1 yX1_unwind yX1_unwind, Cond.code yX1_unwind cX1_unwind 3 (some .int), Cond.methodLink RX1 91 yX1_behind, Cond.instanceMethod yX1_behind, Cond.selects RX1 yX1_behind yX1_behind, Cond.code yX1_behind cX1_behind 4 (some .int)]
def wsX1_run : List Cond := .code yX1_run cX1_run 4 (some .int) :: ((wsX1_run_r1 ++ (wsX1_run_r2 ++ wsX1_run_r3)) ++ wsX10)
def wsX1_result : List Cond := .code yX1_result cX1_result 2 (some .int) :: ([.fieldLink RX1 26 "MonitorDeskModel" "result" "[I", .methodLink RX1 32 yX1_in, .static yX1_in, .initialized RX1, .code yX1_in cX1_in 2 (some .boolean)] ++ wsX10)
def wsX1_failure : List Cond := .code yX1_failure cX1_failure 1 (some .int) :: ([.fieldLink RX1 94 "MonitorDeskModel" "failure" "I"] ++ wsX10)
def wsX1_state : List Cond := .code yX1_state cX1_state 4 (some .int) :: ([.fieldLink RX1 40 "MonitorDeskModel" "steps" "I", .fieldLink RX1 43 "MonitorDeskModel" "open" "I", .fieldLink RX1 72 "MonitorDeskModel" "total" "I", .fieldLink RX1 61 "MonitorDeskModel" "flag" "Z", .fieldLink RX1 16 "MonitorDeskModel" "ended" "[Z", .fieldLink RX1 7 "MonitorDeskModel" "lock" "[I", .methodLink RX1 32 yX1_in, .static yX1_in, .initialized RX1, .code yX1_in cX1_in 2 (some .boolean)] ++ wsX10)
def wsJ9_abs_0f7a4 : List Cond := .code yJ9_abs_0f7a4 cJ9_abs_0f7a4 1 (some .int) :: ([])
def wsL_law_r1 : List Cond := [Cond.classLink RL 7 RX0, Cond.instantiable RX0 17, Cond.initialized RX0, Cond.classLink RL 10 RX1, Cond.instantiable RX1 15, Cond.initialized RX1, Cond.methodLink RL 9 yX0_init, Cond.instanceMethod yX0_init, Cond.code yX0_init cX0_init 1 none, Cond.methodLink RX0 1 objectInit, Cond.instanceMethod objectInit, Cond.code objectInit ⟨#[0xb1]⟩ 1 none, Cond.arrayClass .int, Cond.fieldLink RX0 9 "MonitorDesk" "locks" "[I", Cond.fieldLink RX0 13 "MonitorDesk" "locksMade" "I", Cond.arrayClass .boolean, Cond.fieldLink RX0 17 "MonitorDesk" "ended" "[Z", Cond.fieldLink RX0 21 "MonitorDesk" "total" "I", Cond.fieldLink RX0 24 "MonitorDesk" "flag" "Z", Cond.fieldLink RX0 28 "MonitorDesk" "operations" "[I", Cond.fieldLink RX0 31 "MonitorDesk" "arguments" "[I", Cond.fieldLink RX0 34 "MonitorDesk" "around" "[I", Cond.fieldLink RX0 37 "MonitorDesk" "ends" "[I", Cond.fieldLink RX0 40 "MonitorDesk" "stepCount" "I"]
def wsL_law_r2 : List Cond := [Cond.fieldLink RX0 43 "MonitorDesk" "openCount" "I", Cond.fieldLink RX0 46 "MonitorDesk" "latestOpen" "I", Cond.fieldLink RX0 49 "MonitorDesk" "results" "[I", Cond.fieldLink RX0 52 "MonitorDesk" "latestFailure" "I", Cond.fieldLink RX0 55 "MonitorDesk" "held" "[I", Cond.fieldLink RX0 58 "MonitorDesk" "raised" "I", Cond.fieldLink RX0 61 "MonitorDesk" "resumeAt" "I", Cond.methodLink RX0 64 yJ7_fill_53178, Cond.static yJ7_fill_53178, Cond.initialized RJ7, Cond.code yJ7_fill_53178 cJ7_fill_53178 4 none, Cond.methodLink RL 12 yX1_init, Cond.instanceMethod yX1_init, Cond.code yX1_init cX1_init 2 none, Cond.methodLink RX1 1 objectInit, Cond.fieldLink RX1 7 "MonitorDeskModel" "lock" "[I", Cond.fieldLink RX1 13 "MonitorDeskModel" "held" "[I", Cond.fieldLink RX1 16 "MonitorDeskModel" "ended" "[Z", Cond.fieldLink RX1 20 "MonitorDeskModel" "operation" "[I", Cond.fieldLink RX1 23 "MonitorDeskModel" "argument" "[I", Cond.fieldLink RX1 26 "MonitorDeskModel" "result" "[I", Cond.fieldLink RX1 29 "MonitorDeskModel" "block" "[I", Cond.methodLink RL 13 yX0_hold, Cond.instanceMethod yX0_hold]
def wsL_law_r3 : List Cond := [Cond.selects RX0 yX0_hold yX0_hold, Cond.code yX0_hold cX0_hold 3 (some .int), Cond.methodLink RL 17 yX1_hold, Cond.instanceMethod yX1_hold, Cond.selects RX1 yX1_hold yX1_hold, Cond.code yX1_hold cX1_hold 3 (some .int), Cond.fieldLink RX1 36 "MonitorDeskModel" "locks" "I", Cond.methodLink RX1 32 yX1_in, Cond.static yX1_in, Cond.code yX1_in cX1_in 2 (some .boolean), Cond.methodLink RL 18 yX0_step, Cond.instanceMethod yX0_step, Cond.selects RX0 yX0_step yX0_step, Cond.code yX0_step cX0_step 3 (some .int), Cond.methodLink RX0 70 yX0_opensBlock, Cond.static yX0_opensBlock, Cond.code yX0_opensBlock cX0_opensBlock 1 (some .boolean), Cond.methodLink RL 21 yX1_step, Cond.instanceMethod yX1_step, Cond.selects RX1 yX1_step yX1_step, Cond.code yX1_step cX1_step 4 (some .int), Cond.fieldLink RX1 40 "MonitorDeskModel" "steps" "I", Cond.fieldLink RX1 43 "MonitorDeskModel" "open" "I", Cond.methodLink RL 22 yX0_clear]
def wsL_law_r4 : List Cond := [Cond.instanceMethod yX0_clear, Cond.selects RX0 yX0_clear yX0_clear, Cond.code yX0_clear cX0_clear 2 (some .int), Cond.methodLink RL 26 yX1_clear, Cond.instanceMethod yX1_clear, Cond.selects RX1 yX1_clear yX1_clear, Cond.code yX1_clear cX1_clear 2 (some .int), Cond.methodLink RL 27 yX0_run, Cond.instanceMethod yX0_run, Cond.selects RX0 yX0_run yX0_run, Cond.code yX0_run cX0_run 3 (some .int), Cond.methodLink RX0 74 yX0_doStep, Cond.instanceMethod yX0_doStep, Cond.selects RX0 yX0_doStep yX0_doStep, Cond.code yX0_doStep cX0_doStep 3 none, Cond.methodLink RX0 93 yX0_perform, Cond.instanceMethod yX0_perform, Cond.selects RX0 yX0_perform yX0_perform, Cond.code yX0_perform cX0_perform 5 (some .int), Cond.methodLink RX0 99 yJ9_floorMod_7cf53, Cond.static yJ9_floorMod_7cf53, Cond.initialized RJ9, Cond.code yJ9_floorMod_7cf53 cJ9_floorMod_7cf53 3 (some .int), Cond.methodLink RX0 105 yX0_endBlock]
def wsL_law_r5 : List Cond := [Cond.instanceMethod yX0_endBlock, Cond.selects RX0 yX0_endBlock yX0_endBlock, Cond.code yX0_endBlock cX0_endBlock 2 (some .int), Cond.methodLink RX0 133 yX0_isEnter, Cond.instanceMethod yX0_isEnter, Cond.selects RX0 yX0_isEnter yX0_isEnter, Cond.code yX0_isEnter cX0_isEnter 2 (some .boolean), Cond.methodLink RX0 136 yX0_giveBack, Cond.instanceMethod yX0_giveBack, Cond.selects RX0 yX0_giveBack yX0_giveBack, Cond.code yX0_giveBack cX0_giveBack 3 (some .int), Cond.methodLink RX0 90 yX0_leastHandle, Cond.instanceMethod yX0_leastHandle, Cond.selects RX0 yX0_leastHandle yX0_leastHandle, Cond.code yX0_leastHandle cX0_leastHandle 3 (some .int), Cond.methodLink RX0 108 yX0_enter, Cond.instanceMethod yX0_enter, Cond.selects RX0 yX0_enter yX0_enter, Cond.code yX0_enter cX0_enter 3 (some .int), Cond.methodLink RX0 127 yX0_raise, Cond.instanceMethod yX0_raise, Cond.selects RX0 yX0_raise yX0_raise, Cond.code yX0_raise cX0_raise 2 (some .int), Cond.methodLink RX0 111 yX0_notifyWaiting]
def wsL_law_r6 : List Cond := [Cond.instanceMethod yX0_notifyWaiting, Cond.selects RX0 yX0_notifyWaiting yX0_notifyWaiting, Cond.code yX0_notifyWaiting cX0_notifyWaiting 2 (some .int), Cond.methodLink RX0 114 yX0_holdsLock, Cond.instanceMethod yX0_holdsLock, Cond.selects RX0 yX0_holdsLock yX0_holdsLock, Cond.code yX0_holdsLock cX0_holdsLock 2 (some .int), Cond.methodLink RX0 78 yX0_asNumber, Cond.static yX0_asNumber, Cond.code yX0_asNumber cX0_asNumber 1 (some .int), Cond.methodLink RX0 117 yX0_awaitNotice, Cond.instanceMethod yX0_awaitNotice, Cond.selects RX0 yX0_awaitNotice yX0_awaitNotice, Cond.code yX0_awaitNotice cX0_awaitNotice 3 (some .int), Cond.constant RX0 141 (-2147483648), Cond.methodLink RX0 142 Lib.Math.abs.name, Cond.static Lib.Math.abs.name, Cond.initialized "java/lang/Math", Cond.code Lib.Math.abs.name Lib.Math.abs.code 1 (some .int), Cond.methodLink RX0 120 yX0_takeFlag, Cond.instanceMethod yX0_takeFlag, Cond.selects RX0 yX0_takeFlag yX0_takeFlag, Cond.code yX0_takeFlag cX0_takeFlag 2 (some .boolean), Cond.methodLink RX0 124 yX0_sleep]
def wsL_law_r7 : List Cond := [Cond.instanceMethod yX0_sleep, Cond.selects RX0 yX0_sleep yX0_sleep, Cond.code yX0_sleep cX0_sleep 2 (some .int), Cond.methodLink RX0 130 yX0_start, Cond.instanceMethod yX0_start, Cond.selects RX0 yX0_start yX0_start, Cond.code yX0_start cX0_start 2 (some .int), Cond.methodLink RX0 96 yX0_leaveBlocks, Cond.instanceMethod yX0_leaveBlocks, Cond.selects RX0 yX0_leaveBlocks yX0_leaveBlocks, Cond.code yX0_leaveBlocks cX0_leaveBlocks 4 none, Cond.methodLink RL 30 yX1_run, Cond.instanceMethod yX1_run, Cond.selects RX1 yX1_run yX1_run, Cond.code yX1_run cX1_run 4 (some .int), Cond.fieldLink RX1 94 "MonitorDeskModel" "failure" "I", Cond.fieldLink RX1 65 "MonitorDeskModel" "depth" "I", Cond.fieldLink RX1 54 "MonitorDeskModel" "code" "I", Cond.methodLink RX1 97 yX1_work, Cond.instanceMethod yX1_work, Cond.selects RX1 yX1_work yX1_work, Cond.code yX1_work cX1_work 4 (some .int), Cond.methodLink RX1 75 yX1_close, Cond.instanceMethod yX1_close]
def wsL_law_r8 : List Cond := [Cond.selects RX1 yX1_close yX1_close, Cond.code yX1_close cX1_close 3 (some .int), Cond.methodLink RX1 50 yX1_lockOf, Cond.instanceMethod yX1_lockOf, Cond.selects RX1 yX1_lockOf yX1_lockOf, Cond.code yX1_lockOf cX1_lockOf 2 (some .int), Cond.methodLink RX1 46 yX1_modulo, Cond.static yX1_modulo, Cond.code yX1_modulo cX1_modulo 2 (some .int), Cond.methodLink RX1 79 yX1_enter, Cond.instanceMethod yX1_enter, Cond.selects RX1 yX1_enter yX1_enter, Cond.code yX1_enter cX1_enter 3 (some .int), Cond.methodLink RX1 68 yX1_monitor, Cond.instanceMethod yX1_monitor, Cond.selects RX1 yX1_monitor yX1_monitor, Cond.code yX1_monitor cX1_monitor 4 (some .int), Cond.methodLink RX1 82 yX1_pause, Cond.instanceMethod yX1_pause, Cond.selects RX1 yX1_pause yX1_pause, Cond.code yX1_pause cX1_pause 5 (some .int), Cond.constant RX1 57 (-2147483648), Cond.methodLink RX1 58 yX1_interrupted, Cond.instanceMethod yX1_interrupted]
def wsL_law_r9 : List Cond := [Cond.selects RX1 yX1_interrupted yX1_interrupted, Cond.code yX1_interrupted cX1_interrupted 1 none, Cond.fieldLink RX1 61 "MonitorDeskModel" "flag" "Z", Cond.methodLink RX1 85 yX1_thread, Cond.instanceMethod yX1_thread, Cond.selects RX1 yX1_thread yX1_thread, Cond.code yX1_thread cX1_thread 3 (some .int), Cond.fieldLink RX1 72 "MonitorDeskModel" "total" "I", Cond.methodLink RX1 88 yX1_others, Cond.instanceMethod yX1_others, Cond.selects RX1 yX1_others yX1_others, Cond.code yX1_others cX1_others 4 (some .int), Cond.methodLink RX1 100 yX1_unwind, Cond.instanceMethod yX1_unwind, Cond.selects RX1 yX1_unwind yX1_unwind, Cond.code yX1_unwind cX1_unwind 3 (some .int), Cond.methodLink RX1 91 yX1_behind, Cond.instanceMethod yX1_behind, Cond.selects RX1 yX1_behind yX1_behind, Cond.code yX1_behind cX1_behind 4 (some .int), Cond.methodLink RL 31 yX0_result, Cond.instanceMethod yX0_result, Cond.selects RX0 yX0_result yX0_result, Cond.code yX0_result cX0_result 2 (some .int)]
def wsL_law_r10 : List Cond := [Cond.methodLink RL 35 yX1_result, Cond.instanceMethod yX1_result, Cond.selects RX1 yX1_result yX1_result, Cond.code yX1_result cX1_result 2 (some .int), Cond.methodLink RL 36 yX0_failure, Cond.instanceMethod yX0_failure, Cond.selects RX0 yX0_failure yX0_failure, Cond.code yX0_failure cX0_failure 1 (some .int), Cond.methodLink RL 39 yX1_failure, Cond.instanceMethod yX1_failure, Cond.selects RX1 yX1_failure yX1_failure, Cond.code yX1_failure cX1_failure 1 (some .int), Cond.methodLink RL 40 yX0_state, Cond.instanceMethod yX0_state, Cond.selects RX0 yX0_state yX0_state, Cond.code yX0_state cX0_state 2 (some .int), Cond.methodLink RX0 82 yX0_countEnded, Cond.instanceMethod yX0_countEnded, Cond.selects RX0 yX0_countEnded yX0_countEnded, Cond.code yX0_countEnded cX0_countEnded 3 (some .int), Cond.methodLink RX0 86 yX0_handleState, Cond.instanceMethod yX0_handleState, Cond.selects RX0 yX0_handleState yX0_handleState, Cond.code yX0_handleState cX0_handleState 3 (some .int)]
def wsL_law_r11 : List Cond := [Cond.methodLink RL 43 yX1_state, Cond.instanceMethod yX1_state, Cond.selects RX1 yX1_state yX1_state, Cond.code yX1_state cX1_state 4 (some .int)]
def wsL_law : List Cond := (wsL_law_r1 ++ (wsL_law_r2 ++ (wsL_law_r3 ++ (wsL_law_r4 ++ (wsL_law_r5 ++ (wsL_law_r6 ++ (wsL_law_r7 ++ (wsL_law_r8 ++ (wsL_law_r9 ++ (wsL_law_r10 ++ wsL_law_r11)))))))))) ++ wsX00 ++ wsX10 ++ ([] : List Cond)
set_option maxRecDepth 20000 in
theorem wsL_law_in : ∀ w ∈ wsL_law, w ∈ lw_tbl := fun w h => (goodIn_p wsL_law [37, 40, 43, 211, 101, 262, 265, 105, 108, 269, 112, 273, 116, 120, 124, 127, 131, 135, 139, 143, 147, 151, 155, 159, 162, 166, 170, 174, 178, 182, 186, 277, 281, 285, 289, 292, 296, 300, 304, 309, 313, 317, 321, 325, 190, 329, 194, 333, 198, 202, 206, 337] (by decide +kernel) (by decide +kernel) w h).1
theorem inlX0 : ∀ w ∈ wsX00, w ∈ wsL_law := fun _ h => List.mem_append_left _ (List.mem_append_left _ (List.mem_append_right _ h))
theorem inX0 : ∀ w ∈ wsX00, w ∈ lw_tbl := fun w h => wsL_law_in w (inlX0 w h)
theorem inlX1 : ∀ w ∈ wsX10, w ∈ wsL_law := fun _ h => List.mem_append_left _ (List.mem_append_right _ h)
theorem inX1 : ∀ w ∈ wsX10, w ∈ lw_tbl := fun w h => wsL_law_in w (inlX1 w h)
theorem inJ9 : ∀ w ∈ wsJ90, w ∈ lw_tbl := by decide +kernel
theorem inJ7 : ∀ w ∈ wsJ70, w ∈ lw_tbl := by decide +kernel
set_option maxRecDepth 20000 in
theorem ggX0_init_J7_fill_53178 : GoodIn wsX0_init wsJ7_fill_53178 := goodIn_r _ [26] (by decide +kernel) (by decide +kernel)
set_option maxRecDepth 20000 in
theorem gX0_init_J7_fill_53178 : GoodIn wsX0_init (va_wsS RX0 64 yJ7_fill_53178 wsJ7_fill_53178) := goodIn_app (goodIn_of _ (by decide +kernel)) ggX0_init_J7_fill_53178
theorem dX0_init_0 : decode cX0_init 0 = .ok (.aload_n 0, 1) := by decide +kernel
theorem dX0_init_1 : decode cX0_init 1 = .ok (.invokespecial 1, 3) := by decide +kernel
theorem dX0_init_4 : decode cX0_init 4 = .ok (.aload_n 0, 1) := by decide +kernel
theorem dX0_init_5 : decode cX0_init 5 = .ok (.iconst 5, 1) := by decide +kernel
theorem dX0_init_6 : decode cX0_init 6 = .ok (.newarray .int, 2) := by decide +kernel
theorem dX0_init_8 : decode cX0_init 8 = .ok (.putfield 9, 3) := by decide +kernel
theorem dX0_init_11 : decode cX0_init 11 = .ok (.aload_n 0, 1) := by decide +kernel
theorem dX0_init_12 : decode cX0_init 12 = .ok (.iconst 0, 1) := by decide +kernel
theorem dX0_init_13 : decode cX0_init 13 = .ok (.putfield 13, 3) := by decide +kernel
theorem dX0_init_16 : decode cX0_init 16 = .ok (.aload_n 0, 1) := by decide +kernel
theorem dX0_init_17 : decode cX0_init 17 = .ok (.iconst 4, 1) := by decide +kernel
theorem dX0_init_18 : decode cX0_init 18 = .ok (.newarray .boolean, 2) := by decide +kernel
theorem dX0_init_20 : decode cX0_init 20 = .ok (.putfield 17, 3) := by decide +kernel
theorem dX0_init_23 : decode cX0_init 23 = .ok (.aload_n 0, 1) := by decide +kernel
theorem dX0_init_24 : decode cX0_init 24 = .ok (.iconst 0, 1) := by decide +kernel
theorem dX0_init_25 : decode cX0_init 25 = .ok (.putfield 21, 3) := by decide +kernel
theorem dX0_init_28 : decode cX0_init 28 = .ok (.aload_n 0, 1) := by decide +kernel
theorem dX0_init_29 : decode cX0_init 29 = .ok (.iconst 0, 1) := by decide +kernel
theorem dX0_init_30 : decode cX0_init 30 = .ok (.putfield 24, 3) := by decide +kernel
theorem dX0_init_33 : decode cX0_init 33 = .ok (.aload_n 0, 1) := by decide +kernel
theorem dX0_init_34 : decode cX0_init 34 = .ok (.bipush 24, 2) := by decide +kernel
theorem dX0_init_36 : decode cX0_init 36 = .ok (.newarray .int, 2) := by decide +kernel
theorem dX0_init_38 : decode cX0_init 38 = .ok (.putfield 28, 3) := by decide +kernel
theorem dX0_init_41 : decode cX0_init 41 = .ok (.aload_n 0, 1) := by decide +kernel
theorem dX0_init_42 : decode cX0_init 42 = .ok (.bipush 24, 2) := by decide +kernel
theorem dX0_init_44 : decode cX0_init 44 = .ok (.newarray .int, 2) := by decide +kernel
theorem dX0_init_46 : decode cX0_init 46 = .ok (.putfield 31, 3) := by decide +kernel
theorem dX0_init_49 : decode cX0_init 49 = .ok (.aload_n 0, 1) := by decide +kernel
theorem dX0_init_50 : decode cX0_init 50 = .ok (.bipush 24, 2) := by decide +kernel
theorem dX0_init_52 : decode cX0_init 52 = .ok (.newarray .int, 2) := by decide +kernel
theorem dX0_init_54 : decode cX0_init 54 = .ok (.putfield 34, 3) := by decide +kernel
theorem dX0_init_57 : decode cX0_init 57 = .ok (.aload_n 0, 1) := by decide +kernel
theorem dX0_init_58 : decode cX0_init 58 = .ok (.bipush 24, 2) := by decide +kernel
theorem dX0_init_60 : decode cX0_init 60 = .ok (.newarray .int, 2) := by decide +kernel
theorem dX0_init_62 : decode cX0_init 62 = .ok (.putfield 37, 3) := by decide +kernel
theorem dX0_init_65 : decode cX0_init 65 = .ok (.aload_n 0, 1) := by decide +kernel
theorem dX0_init_66 : decode cX0_init 66 = .ok (.iconst 0, 1) := by decide +kernel
theorem dX0_init_67 : decode cX0_init 67 = .ok (.putfield 40, 3) := by decide +kernel
theorem dX0_init_70 : decode cX0_init 70 = .ok (.aload_n 0, 1) := by decide +kernel
theorem dX0_init_71 : decode cX0_init 71 = .ok (.iconst 0, 1) := by decide +kernel
theorem dX0_init_72 : decode cX0_init 72 = .ok (.putfield 43, 3) := by decide +kernel
theorem dX0_init_75 : decode cX0_init 75 = .ok (.aload_n 0, 1) := by decide +kernel
theorem dX0_init_76 : decode cX0_init 76 = .ok (.iconst (-1), 1) := by decide +kernel
theorem dX0_init_77 : decode cX0_init 77 = .ok (.putfield 46, 3) := by decide +kernel
theorem dX0_init_80 : decode cX0_init 80 = .ok (.aload_n 0, 1) := by decide +kernel
theorem dX0_init_81 : decode cX0_init 81 = .ok (.bipush 24, 2) := by decide +kernel
theorem dX0_init_83 : decode cX0_init 83 = .ok (.newarray .int, 2) := by decide +kernel
theorem dX0_init_85 : decode cX0_init 85 = .ok (.putfield 49, 3) := by decide +kernel
theorem dX0_init_88 : decode cX0_init 88 = .ok (.aload_n 0, 1) := by decide +kernel
theorem dX0_init_89 : decode cX0_init 89 = .ok (.iconst 0, 1) := by decide +kernel
theorem dX0_init_90 : decode cX0_init 90 = .ok (.putfield 52, 3) := by decide +kernel
theorem dX0_init_93 : decode cX0_init 93 = .ok (.aload_n 0, 1) := by decide +kernel
theorem dX0_init_94 : decode cX0_init 94 = .ok (.iconst 5, 1) := by decide +kernel
theorem dX0_init_95 : decode cX0_init 95 = .ok (.newarray .int, 2) := by decide +kernel
theorem dX0_init_97 : decode cX0_init 97 = .ok (.putfield 55, 3) := by decide +kernel
theorem dX0_init_100 : decode cX0_init 100 = .ok (.aload_n 0, 1) := by decide +kernel
theorem dX0_init_101 : decode cX0_init 101 = .ok (.iconst 0, 1) := by decide +kernel
theorem dX0_init_102 : decode cX0_init 102 = .ok (.putfield 58, 3) := by decide +kernel
theorem dX0_init_105 : decode cX0_init 105 = .ok (.aload_n 0, 1) := by decide +kernel
theorem dX0_init_106 : decode cX0_init 106 = .ok (.iconst 0, 1) := by decide +kernel
theorem dX0_init_107 : decode cX0_init 107 = .ok (.putfield 61, 3) := by decide +kernel
theorem dX0_init_110 : decode cX0_init 110 = .ok (.aload_n 0, 1) := by decide +kernel
theorem dX0_init_111 : decode cX0_init 111 = .ok (.getfield 49, 3) := by decide +kernel
theorem dX0_init_114 : decode cX0_init 114 = .ok (.bipush (-9), 2) := by decide +kernel
theorem dX0_init_116 : decode cX0_init 116 = .ok (.invokestatic 64, 3) := by decide +kernel
theorem dX0_init_119 : decode cX0_init 119 = .ok (.return_, 1) := by decide +kernel
theorem dX0_hold_0 : decode cX0_hold 0 = .ok (.iload_n 1, 1) := by decide +kernel
theorem dX0_hold_1 : decode cX0_hold 1 = .ok (.ifCond .lt 19, 3) := by decide +kernel
theorem dX0_hold_4 : decode cX0_hold 4 = .ok (.iload_n 1, 1) := by decide +kernel
theorem dX0_hold_5 : decode cX0_hold 5 = .ok (.iconst 5, 1) := by decide +kernel
theorem dX0_hold_6 : decode cX0_hold 6 = .ok (.if_icmp .ge 14, 3) := by decide +kernel
theorem dX0_hold_9 : decode cX0_hold 9 = .ok (.iload_n 2, 1) := by decide +kernel
theorem dX0_hold_10 : decode cX0_hold 10 = .ok (.bipush (-2), 2) := by decide +kernel
theorem dX0_hold_12 : decode cX0_hold 12 = .ok (.if_icmp .lt 8, 3) := by decide +kernel
theorem dX0_hold_15 : decode cX0_hold 15 = .ok (.iload_n 2, 1) := by decide +kernel
theorem dX0_hold_16 : decode cX0_hold 16 = .ok (.iconst 5, 1) := by decide +kernel
theorem dX0_hold_17 : decode cX0_hold 17 = .ok (.if_icmp .lt 5, 3) := by decide +kernel
theorem dX0_hold_20 : decode cX0_hold 20 = .ok (.iconst (-1), 1) := by decide +kernel
theorem dX0_hold_21 : decode cX0_hold 21 = .ok (.ireturn, 1) := by decide +kernel
theorem dX0_hold_22 : decode cX0_hold 22 = .ok (.iload_n 2, 1) := by decide +kernel
theorem dX0_hold_23 : decode cX0_hold 23 = .ok (.bipush (-2), 2) := by decide +kernel
theorem dX0_hold_25 : decode cX0_hold 25 = .ok (.if_icmp .ne 26, 3) := by decide +kernel
theorem dX0_hold_28 : decode cX0_hold 28 = .ok (.aload_n 0, 1) := by decide +kernel
theorem dX0_hold_29 : decode cX0_hold 29 = .ok (.dup, 1) := by decide +kernel
theorem dX0_hold_30 : decode cX0_hold 30 = .ok (.getfield 13, 3) := by decide +kernel
theorem dX0_hold_33 : decode cX0_hold 33 = .ok (.iconst 1, 1) := by decide +kernel
theorem dX0_hold_34 : decode cX0_hold 34 = .ok (.iadd, 1) := by decide +kernel
theorem dX0_hold_35 : decode cX0_hold 35 = .ok (.putfield 13, 3) := by decide +kernel
theorem dX0_hold_38 : decode cX0_hold 38 = .ok (.aload_n 0, 1) := by decide +kernel
theorem dX0_hold_39 : decode cX0_hold 39 = .ok (.getfield 9, 3) := by decide +kernel
theorem dX0_hold_42 : decode cX0_hold 42 = .ok (.iload_n 1, 1) := by decide +kernel
theorem dX0_hold_43 : decode cX0_hold 43 = .ok (.aload_n 0, 1) := by decide +kernel
theorem dX0_hold_44 : decode cX0_hold 44 = .ok (.getfield 13, 3) := by decide +kernel
theorem dX0_hold_47 : decode cX0_hold 47 = .ok (.iastore, 1) := by decide +kernel
theorem dX0_hold_48 : decode cX0_hold 48 = .ok (.goto 30, 3) := by decide +kernel
theorem dX0_hold_51 : decode cX0_hold 51 = .ok (.iload_n 2, 1) := by decide +kernel
theorem dX0_hold_52 : decode cX0_hold 52 = .ok (.iconst (-1), 1) := by decide +kernel
theorem dX0_hold_53 : decode cX0_hold 53 = .ok (.if_icmp .ne 13, 3) := by decide +kernel
theorem dX0_hold_56 : decode cX0_hold 56 = .ok (.aload_n 0, 1) := by decide +kernel
theorem dX0_hold_57 : decode cX0_hold 57 = .ok (.getfield 9, 3) := by decide +kernel
theorem dX0_hold_60 : decode cX0_hold 60 = .ok (.iload_n 1, 1) := by decide +kernel
theorem dX0_hold_61 : decode cX0_hold 61 = .ok (.iconst 0, 1) := by decide +kernel
theorem dX0_hold_62 : decode cX0_hold 62 = .ok (.iastore, 1) := by decide +kernel
theorem dX0_hold_63 : decode cX0_hold 63 = .ok (.goto 15, 3) := by decide +kernel
theorem dX0_hold_66 : decode cX0_hold 66 = .ok (.aload_n 0, 1) := by decide +kernel
theorem dX0_hold_67 : decode cX0_hold 67 = .ok (.getfield 9, 3) := by decide +kernel
theorem dX0_hold_70 : decode cX0_hold 70 = .ok (.iload_n 1, 1) := by decide +kernel
theorem dX0_hold_71 : decode cX0_hold 71 = .ok (.aload_n 0, 1) := by decide +kernel
theorem dX0_hold_72 : decode cX0_hold 72 = .ok (.getfield 9, 3) := by decide +kernel
theorem dX0_hold_75 : decode cX0_hold 75 = .ok (.iload_n 2, 1) := by decide +kernel
theorem dX0_hold_76 : decode cX0_hold 76 = .ok (.iaload, 1) := by decide +kernel
theorem dX0_hold_77 : decode cX0_hold 77 = .ok (.iastore, 1) := by decide +kernel
theorem dX0_hold_78 : decode cX0_hold 78 = .ok (.iconst 0, 1) := by decide +kernel
theorem dX0_hold_79 : decode cX0_hold 79 = .ok (.ireturn, 1) := by decide +kernel
set_option maxRecDepth 20000 in
theorem ggX0_step_X0_opensBlock : GoodIn wsX0_step wsX0_opensBlock := goodIn_r _ [11] (by decide +kernel) (by decide +kernel)
set_option maxRecDepth 20000 in
theorem gX0_step_X0_opensBlock : GoodIn wsX0_step (va_wsS RX0 70 yX0_opensBlock wsX0_opensBlock) := goodIn_app (goodIn_of _ (by decide +kernel)) ggX0_step_X0_opensBlock
theorem dX0_step_0 : decode cX0_step 0 = .ok (.iload_n 1, 1) := by decide +kernel
theorem dX0_step_1 : decode cX0_step 1 = .ok (.ifCond .lt 18, 3) := by decide +kernel
theorem dX0_step_4 : decode cX0_step 4 = .ok (.iload_n 1, 1) := by decide +kernel
theorem dX0_step_5 : decode cX0_step 5 = .ok (.bipush 15, 2) := by decide +kernel
theorem dX0_step_7 : decode cX0_step 7 = .ok (.if_icmp .gt 12, 3) := by decide +kernel
theorem dX0_step_10 : decode cX0_step 10 = .ok (.aload_n 0, 1) := by decide +kernel
theorem dX0_step_11 : decode cX0_step 11 = .ok (.getfield 40, 3) := by decide +kernel
theorem dX0_step_14 : decode cX0_step 14 = .ok (.bipush 24, 2) := by decide +kernel
theorem dX0_step_16 : decode cX0_step 16 = .ok (.if_icmp .lt 5, 3) := by decide +kernel
theorem dX0_step_19 : decode cX0_step 19 = .ok (.iconst (-1), 1) := by decide +kernel
theorem dX0_step_20 : decode cX0_step 20 = .ok (.ireturn, 1) := by decide +kernel
theorem dX0_step_21 : decode cX0_step 21 = .ok (.iload_n 1, 1) := by decide +kernel
theorem dX0_step_22 : decode cX0_step 22 = .ok (.ifCond .ne 13, 3) := by decide +kernel
theorem dX0_step_25 : decode cX0_step 25 = .ok (.aload_n 0, 1) := by decide +kernel
theorem dX0_step_26 : decode cX0_step 26 = .ok (.getfield 46, 3) := by decide +kernel
theorem dX0_step_29 : decode cX0_step 29 = .ok (.iconst (-1), 1) := by decide +kernel
theorem dX0_step_30 : decode cX0_step 30 = .ok (.if_icmp .ne 5, 3) := by decide +kernel
theorem dX0_step_33 : decode cX0_step 33 = .ok (.iconst (-1), 1) := by decide +kernel
theorem dX0_step_34 : decode cX0_step 34 = .ok (.ireturn, 1) := by decide +kernel
theorem dX0_step_35 : decode cX0_step 35 = .ok (.iload_n 1, 1) := by decide +kernel
theorem dX0_step_36 : decode cX0_step 36 = .ok (.invokestatic 70, 3) := by decide +kernel
theorem dX0_step_39 : decode cX0_step 39 = .ok (.ifCond .eq 14, 3) := by decide +kernel
theorem dX0_step_42 : decode cX0_step 42 = .ok (.aload_n 0, 1) := by decide +kernel
theorem dX0_step_43 : decode cX0_step 43 = .ok (.getfield 43, 3) := by decide +kernel
theorem dX0_step_46 : decode cX0_step 46 = .ok (.bipush 8, 2) := by decide +kernel
theorem dX0_step_48 : decode cX0_step 48 = .ok (.if_icmp .lt 5, 3) := by decide +kernel
theorem dX0_step_51 : decode cX0_step 51 = .ok (.iconst (-1), 1) := by decide +kernel
theorem dX0_step_52 : decode cX0_step 52 = .ok (.ireturn, 1) := by decide +kernel
theorem dX0_step_53 : decode cX0_step 53 = .ok (.aload_n 0, 1) := by decide +kernel
theorem dX0_step_54 : decode cX0_step 54 = .ok (.getfield 28, 3) := by decide +kernel
theorem dX0_step_57 : decode cX0_step 57 = .ok (.aload_n 0, 1) := by decide +kernel
theorem dX0_step_58 : decode cX0_step 58 = .ok (.getfield 40, 3) := by decide +kernel
theorem dX0_step_61 : decode cX0_step 61 = .ok (.iload_n 1, 1) := by decide +kernel
theorem dX0_step_62 : decode cX0_step 62 = .ok (.iastore, 1) := by decide +kernel
theorem dX0_step_63 : decode cX0_step 63 = .ok (.aload_n 0, 1) := by decide +kernel
theorem dX0_step_64 : decode cX0_step 64 = .ok (.getfield 31, 3) := by decide +kernel
theorem dX0_step_67 : decode cX0_step 67 = .ok (.aload_n 0, 1) := by decide +kernel
theorem dX0_step_68 : decode cX0_step 68 = .ok (.getfield 40, 3) := by decide +kernel
theorem dX0_step_71 : decode cX0_step 71 = .ok (.iload_n 2, 1) := by decide +kernel
theorem dX0_step_72 : decode cX0_step 72 = .ok (.iastore, 1) := by decide +kernel
theorem dX0_step_73 : decode cX0_step 73 = .ok (.aload_n 0, 1) := by decide +kernel
theorem dX0_step_74 : decode cX0_step 74 = .ok (.getfield 34, 3) := by decide +kernel
theorem dX0_step_77 : decode cX0_step 77 = .ok (.aload_n 0, 1) := by decide +kernel
theorem dX0_step_78 : decode cX0_step 78 = .ok (.getfield 40, 3) := by decide +kernel
theorem dX0_step_81 : decode cX0_step 81 = .ok (.aload_n 0, 1) := by decide +kernel
theorem dX0_step_82 : decode cX0_step 82 = .ok (.getfield 46, 3) := by decide +kernel
theorem dX0_step_85 : decode cX0_step 85 = .ok (.iastore, 1) := by decide +kernel
theorem dX0_step_86 : decode cX0_step 86 = .ok (.iload_n 1, 1) := by decide +kernel
theorem dX0_step_87 : decode cX0_step 87 = .ok (.invokestatic 70, 3) := by decide +kernel
theorem dX0_step_90 : decode cX0_step 90 = .ok (.ifCond .eq 24, 3) := by decide +kernel
theorem dX0_step_93 : decode cX0_step 93 = .ok (.aload_n 0, 1) := by decide +kernel
theorem dX0_step_94 : decode cX0_step 94 = .ok (.aload_n 0, 1) := by decide +kernel
theorem dX0_step_95 : decode cX0_step 95 = .ok (.getfield 40, 3) := by decide +kernel
theorem dX0_step_98 : decode cX0_step 98 = .ok (.putfield 46, 3) := by decide +kernel
theorem dX0_step_101 : decode cX0_step 101 = .ok (.aload_n 0, 1) := by decide +kernel
theorem dX0_step_102 : decode cX0_step 102 = .ok (.dup, 1) := by decide +kernel
theorem dX0_step_103 : decode cX0_step 103 = .ok (.getfield 43, 3) := by decide +kernel
theorem dX0_step_106 : decode cX0_step 106 = .ok (.iconst 1, 1) := by decide +kernel
theorem dX0_step_107 : decode cX0_step 107 = .ok (.iadd, 1) := by decide +kernel
theorem dX0_step_108 : decode cX0_step 108 = .ok (.putfield 43, 3) := by decide +kernel
theorem dX0_step_111 : decode cX0_step 111 = .ok (.goto 43, 3) := by decide +kernel
theorem dX0_step_114 : decode cX0_step 114 = .ok (.iload_n 1, 1) := by decide +kernel
theorem dX0_step_115 : decode cX0_step 115 = .ok (.ifCond .ne 39, 3) := by decide +kernel
theorem dX0_step_118 : decode cX0_step 118 = .ok (.aload_n 0, 1) := by decide +kernel
theorem dX0_step_119 : decode cX0_step 119 = .ok (.getfield 37, 3) := by decide +kernel
theorem dX0_step_122 : decode cX0_step 122 = .ok (.aload_n 0, 1) := by decide +kernel
theorem dX0_step_123 : decode cX0_step 123 = .ok (.getfield 46, 3) := by decide +kernel
theorem dX0_step_126 : decode cX0_step 126 = .ok (.aload_n 0, 1) := by decide +kernel
theorem dX0_step_127 : decode cX0_step 127 = .ok (.getfield 40, 3) := by decide +kernel
theorem dX0_step_130 : decode cX0_step 130 = .ok (.iastore, 1) := by decide +kernel
theorem dX0_step_131 : decode cX0_step 131 = .ok (.aload_n 0, 1) := by decide +kernel
theorem dX0_step_132 : decode cX0_step 132 = .ok (.aload_n 0, 1) := by decide +kernel
theorem dX0_step_133 : decode cX0_step 133 = .ok (.getfield 34, 3) := by decide +kernel
theorem dX0_step_136 : decode cX0_step 136 = .ok (.aload_n 0, 1) := by decide +kernel
theorem dX0_step_137 : decode cX0_step 137 = .ok (.getfield 46, 3) := by decide +kernel
theorem dX0_step_140 : decode cX0_step 140 = .ok (.iaload, 1) := by decide +kernel
theorem dX0_step_141 : decode cX0_step 141 = .ok (.putfield 46, 3) := by decide +kernel
theorem dX0_step_144 : decode cX0_step 144 = .ok (.aload_n 0, 1) := by decide +kernel
theorem dX0_step_145 : decode cX0_step 145 = .ok (.dup, 1) := by decide +kernel
theorem dX0_step_146 : decode cX0_step 146 = .ok (.getfield 43, 3) := by decide +kernel
theorem dX0_step_149 : decode cX0_step 149 = .ok (.iconst 1, 1) := by decide +kernel
theorem dX0_step_150 : decode cX0_step 150 = .ok (.isub, 1) := by decide +kernel
theorem dX0_step_151 : decode cX0_step 151 = .ok (.putfield 43, 3) := by decide +kernel
theorem dX0_step_154 : decode cX0_step 154 = .ok (.aload_n 0, 1) := by decide +kernel
theorem dX0_step_155 : decode cX0_step 155 = .ok (.dup, 1) := by decide +kernel
theorem dX0_step_156 : decode cX0_step 156 = .ok (.getfield 40, 3) := by decide +kernel
theorem dX0_step_159 : decode cX0_step 159 = .ok (.iconst 1, 1) := by decide +kernel
theorem dX0_step_160 : decode cX0_step 160 = .ok (.iadd, 1) := by decide +kernel
theorem dX0_step_161 : decode cX0_step 161 = .ok (.putfield 40, 3) := by decide +kernel
theorem dX0_step_164 : decode cX0_step 164 = .ok (.aload_n 0, 1) := by decide +kernel
theorem dX0_step_165 : decode cX0_step 165 = .ok (.getfield 40, 3) := by decide +kernel
theorem dX0_step_168 : decode cX0_step 168 = .ok (.ireturn, 1) := by decide +kernel
theorem dX0_clear_0 : decode cX0_clear 0 = .ok (.aload_n 0, 1) := by decide +kernel
theorem dX0_clear_1 : decode cX0_clear 1 = .ok (.getfield 40, 3) := by decide +kernel
theorem dX0_clear_4 : decode cX0_clear 4 = .ok (.istore_n 1, 1) := by decide +kernel
theorem dX0_clear_5 : decode cX0_clear 5 = .ok (.aload_n 0, 1) := by decide +kernel
theorem dX0_clear_6 : decode cX0_clear 6 = .ok (.iconst 0, 1) := by decide +kernel
theorem dX0_clear_7 : decode cX0_clear 7 = .ok (.putfield 40, 3) := by decide +kernel
theorem dX0_clear_10 : decode cX0_clear 10 = .ok (.aload_n 0, 1) := by decide +kernel
theorem dX0_clear_11 : decode cX0_clear 11 = .ok (.iconst 0, 1) := by decide +kernel
theorem dX0_clear_12 : decode cX0_clear 12 = .ok (.putfield 43, 3) := by decide +kernel
theorem dX0_clear_15 : decode cX0_clear 15 = .ok (.aload_n 0, 1) := by decide +kernel
theorem dX0_clear_16 : decode cX0_clear 16 = .ok (.iconst (-1), 1) := by decide +kernel
theorem dX0_clear_17 : decode cX0_clear 17 = .ok (.putfield 46, 3) := by decide +kernel
theorem dX0_clear_20 : decode cX0_clear 20 = .ok (.iload_n 1, 1) := by decide +kernel
theorem dX0_clear_21 : decode cX0_clear 21 = .ok (.ireturn, 1) := by decide +kernel
set_option maxRecDepth 20000 in
theorem ggX0_run_J7_fill_53178 : GoodIn wsX0_run wsJ7_fill_53178 := goodIn_r _ [10] (by decide +kernel) (by decide +kernel)
set_option maxRecDepth 20000 in
theorem gX0_run_J7_fill_53178 : GoodIn wsX0_run (va_wsS RX0 64 yJ7_fill_53178 wsJ7_fill_53178) := goodIn_app (goodIn_of _ (by decide +kernel)) ggX0_run_J7_fill_53178
set_option maxRecDepth 20000 in
theorem ggX0_run_X0_doStep : GoodIn wsX0_run wsX0_doStep := goodIn_r _ [15, 16, 2, 17, 18, 19, 14, 20, 21, 22, 23, 24, 25, 26, 27, 28, 29, 30, 31, 32, 33, 34, 35, 36, 37, 38, 39, 40, 41, 42, 3, 43, 44, 45, 46, 47, 48, 49, 50, 51, 52, 53, 54, 55, 56, 57, 58, 59, 60, 61, 62, 63, 64, 65, 66, 67, 68, 69, 70, 71, 72, 73, 74, 75, 76, 77, 78, 79, 80, 81, 82, 83, 84, 85, 86, 87, 88, 89, 90, 91, 4, 6, 5, 92, 93, 94, 95, 96, 97, 98, 99, 100, 101, 102, 103, 104, 105, 106, 107, 108, 109] (by decide +kernel) (by decide +kernel)
set_option maxRecDepth 20000 in
theorem gX0_run_X0_doStep : GoodIn wsX0_run (wsV RX0 74 RX0 yX0_doStep wsX0_doStep) := goodIn_app (goodIn_of _ (by decide +kernel)) ggX0_run_X0_doStep
theorem dX0_run_0 : decode cX0_run 0 = .ok (.aload_n 0, 1) := by decide +kernel
theorem dX0_run_1 : decode cX0_run 1 = .ok (.getfield 43, 3) := by decide +kernel
theorem dX0_run_4 : decode cX0_run 4 = .ok (.ifCond .eq 5, 3) := by decide +kernel
theorem dX0_run_7 : decode cX0_run 7 = .ok (.iconst (-1), 1) := by decide +kernel
theorem dX0_run_8 : decode cX0_run 8 = .ok (.ireturn, 1) := by decide +kernel
theorem dX0_run_9 : decode cX0_run 9 = .ok (.aload_n 0, 1) := by decide +kernel
theorem dX0_run_10 : decode cX0_run 10 = .ok (.getfield 49, 3) := by decide +kernel
theorem dX0_run_13 : decode cX0_run 13 = .ok (.bipush (-9), 2) := by decide +kernel
theorem dX0_run_15 : decode cX0_run 15 = .ok (.invokestatic 64, 3) := by decide +kernel
theorem dX0_run_18 : decode cX0_run 18 = .ok (.aload_n 0, 1) := by decide +kernel
theorem dX0_run_19 : decode cX0_run 19 = .ok (.getfield 55, 3) := by decide +kernel
theorem dX0_run_22 : decode cX0_run 22 = .ok (.iconst 0, 1) := by decide +kernel
theorem dX0_run_23 : decode cX0_run 23 = .ok (.invokestatic 64, 3) := by decide +kernel
theorem dX0_run_26 : decode cX0_run 26 = .ok (.aload_n 0, 1) := by decide +kernel
theorem dX0_run_27 : decode cX0_run 27 = .ok (.iconst 0, 1) := by decide +kernel
theorem dX0_run_28 : decode cX0_run 28 = .ok (.putfield 52, 3) := by decide +kernel
theorem dX0_run_31 : decode cX0_run 31 = .ok (.aload_n 0, 1) := by decide +kernel
theorem dX0_run_32 : decode cX0_run 32 = .ok (.iconst 0, 1) := by decide +kernel
theorem dX0_run_33 : decode cX0_run 33 = .ok (.putfield 61, 3) := by decide +kernel
theorem dX0_run_36 : decode cX0_run 36 = .ok (.iconst 0, 1) := by decide +kernel
theorem dX0_run_37 : decode cX0_run 37 = .ok (.istore_n 1, 1) := by decide +kernel
theorem dX0_run_38 : decode cX0_run 38 = .ok (.iconst 0, 1) := by decide +kernel
theorem dX0_run_39 : decode cX0_run 39 = .ok (.istore_n 2, 1) := by decide +kernel
theorem dX0_run_40 : decode cX0_run 40 = .ok (.iload_n 2, 1) := by decide +kernel
theorem dX0_run_41 : decode cX0_run 41 = .ok (.aload_n 0, 1) := by decide +kernel
theorem dX0_run_42 : decode cX0_run 42 = .ok (.getfield 40, 3) := by decide +kernel
theorem dX0_run_45 : decode cX0_run 45 = .ok (.if_icmp .ge 25, 3) := by decide +kernel
theorem dX0_run_48 : decode cX0_run 48 = .ok (.iload_n 2, 1) := by decide +kernel
theorem dX0_run_49 : decode cX0_run 49 = .ok (.aload_n 0, 1) := by decide +kernel
theorem dX0_run_50 : decode cX0_run 50 = .ok (.getfield 61, 3) := by decide +kernel
theorem dX0_run_53 : decode cX0_run 53 = .ok (.if_icmp .lt 11, 3) := by decide +kernel
theorem dX0_run_56 : decode cX0_run 56 = .ok (.aload_n 0, 1) := by decide +kernel
theorem dX0_run_57 : decode cX0_run 57 = .ok (.iload_n 2, 1) := by decide +kernel
theorem dX0_run_58 : decode cX0_run 58 = .ok (.invokevirtual 74, 3) := by decide +kernel
theorem dX0_run_61 : decode cX0_run 61 = .ok (.iinc 1 1, 3) := by decide +kernel
theorem dX0_run_64 : decode cX0_run 64 = .ok (.iinc 2 1, 3) := by decide +kernel
theorem dX0_run_67 : decode cX0_run 67 = .ok (.goto (-27), 3) := by decide +kernel
theorem dX0_run_70 : decode cX0_run 70 = .ok (.iload_n 1, 1) := by decide +kernel
theorem dX0_run_71 : decode cX0_run 71 = .ok (.ireturn, 1) := by decide +kernel
theorem dX0_result_0 : decode cX0_result 0 = .ok (.iload_n 1, 1) := by decide +kernel
theorem dX0_result_1 : decode cX0_result 1 = .ok (.ifCond .lt 9, 3) := by decide +kernel
theorem dX0_result_4 : decode cX0_result 4 = .ok (.iload_n 1, 1) := by decide +kernel
theorem dX0_result_5 : decode cX0_result 5 = .ok (.bipush 24, 2) := by decide +kernel
theorem dX0_result_7 : decode cX0_result 7 = .ok (.if_icmp .lt 5, 3) := by decide +kernel
theorem dX0_result_10 : decode cX0_result 10 = .ok (.iconst (-1), 1) := by decide +kernel
theorem dX0_result_11 : decode cX0_result 11 = .ok (.ireturn, 1) := by decide +kernel
theorem dX0_result_12 : decode cX0_result 12 = .ok (.aload_n 0, 1) := by decide +kernel
theorem dX0_result_13 : decode cX0_result 13 = .ok (.getfield 49, 3) := by decide +kernel
theorem dX0_result_16 : decode cX0_result 16 = .ok (.iload_n 1, 1) := by decide +kernel
theorem dX0_result_17 : decode cX0_result 17 = .ok (.iaload, 1) := by decide +kernel
theorem dX0_result_18 : decode cX0_result 18 = .ok (.ireturn, 1) := by decide +kernel
theorem dX0_failure_0 : decode cX0_failure 0 = .ok (.aload_n 0, 1) := by decide +kernel
theorem dX0_failure_1 : decode cX0_failure 1 = .ok (.getfield 52, 3) := by decide +kernel
theorem dX0_failure_4 : decode cX0_failure 4 = .ok (.ireturn, 1) := by decide +kernel
set_option maxRecDepth 20000 in
theorem ggX0_state_X0_asNumber : GoodIn wsX0_state wsX0_asNumber := goodIn_r _ [8] (by decide +kernel) (by decide +kernel)
set_option maxRecDepth 20000 in
theorem gX0_state_X0_asNumber : GoodIn wsX0_state (va_wsS RX0 78 yX0_asNumber wsX0_asNumber) := goodIn_app (goodIn_of _ (by decide +kernel)) ggX0_state_X0_asNumber
set_option maxRecDepth 20000 in
theorem ggX0_state_X0_countEnded : GoodIn wsX0_state wsX0_countEnded := goodIn_r _ [12, 13, 5, 6, 7, 8, 23, 24, 25, 26, 27, 28, 29, 30, 31, 32, 33, 34, 35, 36, 37, 38, 39] (by decide +kernel) (by decide +kernel)
set_option maxRecDepth 20000 in
theorem gX0_state_X0_countEnded : GoodIn wsX0_state (wsV RX0 82 RX0 yX0_countEnded wsX0_countEnded) := goodIn_app (goodIn_of _ (by decide +kernel)) ggX0_state_X0_countEnded
set_option maxRecDepth 20000 in
theorem ggX0_state_X0_handleState : GoodIn wsX0_state wsX0_handleState := goodIn_r _ [17, 18, 19, 20, 21, 7, 22, 23, 24, 25, 26, 27, 28, 29, 30, 31, 32, 33, 34, 35, 36, 37, 38, 39] (by decide +kernel) (by decide +kernel)
set_option maxRecDepth 20000 in
theorem gX0_state_X0_handleState : GoodIn wsX0_state (wsV RX0 86 RX0 yX0_handleState wsX0_handleState) := goodIn_app (goodIn_of _ (by decide +kernel)) ggX0_state_X0_handleState
theorem dX0_state_0 : decode cX0_state 0 = .ok (.iload_n 1, 1) := by decide +kernel
theorem dX0_state_1 : decode cX0_state 1 = .ok (.tableswitch 63 0 4 #[35, 40, 45, 50, 58], 35) := by decide +kernel
theorem dX0_state_36 : decode cX0_state 36 = .ok (.aload_n 0, 1) := by decide +kernel
theorem dX0_state_37 : decode cX0_state 37 = .ok (.getfield 40, 3) := by decide +kernel
theorem dX0_state_40 : decode cX0_state 40 = .ok (.ireturn, 1) := by decide +kernel
theorem dX0_state_41 : decode cX0_state 41 = .ok (.aload_n 0, 1) := by decide +kernel
theorem dX0_state_42 : decode cX0_state 42 = .ok (.getfield 43, 3) := by decide +kernel
theorem dX0_state_45 : decode cX0_state 45 = .ok (.ireturn, 1) := by decide +kernel
theorem dX0_state_46 : decode cX0_state 46 = .ok (.aload_n 0, 1) := by decide +kernel
theorem dX0_state_47 : decode cX0_state 47 = .ok (.getfield 21, 3) := by decide +kernel
theorem dX0_state_50 : decode cX0_state 50 = .ok (.ireturn, 1) := by decide +kernel
theorem dX0_state_51 : decode cX0_state 51 = .ok (.aload_n 0, 1) := by decide +kernel
theorem dX0_state_52 : decode cX0_state 52 = .ok (.getfield 24, 3) := by decide +kernel
theorem dX0_state_55 : decode cX0_state 55 = .ok (.invokestatic 78, 3) := by decide +kernel
theorem dX0_state_58 : decode cX0_state 58 = .ok (.ireturn, 1) := by decide +kernel
theorem dX0_state_59 : decode cX0_state 59 = .ok (.aload_n 0, 1) := by decide +kernel
theorem dX0_state_60 : decode cX0_state 60 = .ok (.invokevirtual 82, 3) := by decide +kernel
theorem dX0_state_63 : decode cX0_state 63 = .ok (.ireturn, 1) := by decide +kernel
theorem dX0_state_64 : decode cX0_state 64 = .ok (.aload_n 0, 1) := by decide +kernel
theorem dX0_state_65 : decode cX0_state 65 = .ok (.iload_n 1, 1) := by decide +kernel
theorem dX0_state_66 : decode cX0_state 66 = .ok (.invokevirtual 86, 3) := by decide +kernel
theorem dX0_state_69 : decode cX0_state 69 = .ok (.ireturn, 1) := by decide +kernel
set_option maxRecDepth 20000 in
theorem ggX0_handleState_X0_leastHandle : GoodIn wsX0_handleState wsX0_leastHandle := goodIn_r _ [6, 1, 7, 8, 9, 10, 11, 12, 13, 14, 15, 16, 17, 18, 19, 20, 21, 22, 23] (by decide +kernel) (by decide +kernel)
set_option maxRecDepth 20000 in
theorem gX0_handleState_X0_leastHandle : GoodIn wsX0_handleState (wsV RX0 90 RX0 yX0_leastHandle wsX0_leastHandle) := goodIn_app (goodIn_of _ (by decide +kernel)) ggX0_handleState_X0_leastHandle
theorem dX0_handleState_0 : decode cX0_handleState 0 = .ok (.iload_n 1, 1) := by decide +kernel
theorem dX0_handleState_1 : decode cX0_handleState 1 = .ok (.iconst 5, 1) := by decide +kernel
theorem dX0_handleState_2 : decode cX0_handleState 2 = .ok (.if_icmp .lt 9, 3) := by decide +kernel
theorem dX0_handleState_5 : decode cX0_handleState 5 = .ok (.iload_n 1, 1) := by decide +kernel
theorem dX0_handleState_6 : decode cX0_handleState 6 = .ok (.bipush 10, 2) := by decide +kernel
theorem dX0_handleState_8 : decode cX0_handleState 8 = .ok (.if_icmp .lt 5, 3) := by decide +kernel
theorem dX0_handleState_11 : decode cX0_handleState 11 = .ok (.iconst (-1), 1) := by decide +kernel
theorem dX0_handleState_12 : decode cX0_handleState 12 = .ok (.ireturn, 1) := by decide +kernel
theorem dX0_handleState_13 : decode cX0_handleState 13 = .ok (.iload_n 1, 1) := by decide +kernel
theorem dX0_handleState_14 : decode cX0_handleState 14 = .ok (.iconst 5, 1) := by decide +kernel
theorem dX0_handleState_15 : decode cX0_handleState 15 = .ok (.isub, 1) := by decide +kernel
theorem dX0_handleState_16 : decode cX0_handleState 16 = .ok (.istore_n 2, 1) := by decide +kernel
theorem dX0_handleState_17 : decode cX0_handleState 17 = .ok (.aload_n 0, 1) := by decide +kernel
theorem dX0_handleState_18 : decode cX0_handleState 18 = .ok (.getfield 9, 3) := by decide +kernel
theorem dX0_handleState_21 : decode cX0_handleState 21 = .ok (.iload_n 2, 1) := by decide +kernel
theorem dX0_handleState_22 : decode cX0_handleState 22 = .ok (.iaload, 1) := by decide +kernel
theorem dX0_handleState_23 : decode cX0_handleState 23 = .ok (.ifCond .ne 8, 3) := by decide +kernel
theorem dX0_handleState_26 : decode cX0_handleState 26 = .ok (.bipush (-2), 2) := by decide +kernel
theorem dX0_handleState_28 : decode cX0_handleState 28 = .ok (.goto 8, 3) := by decide +kernel
theorem dX0_handleState_31 : decode cX0_handleState 31 = .ok (.aload_n 0, 1) := by decide +kernel
theorem dX0_handleState_32 : decode cX0_handleState 32 = .ok (.iload_n 2, 1) := by decide +kernel
theorem dX0_handleState_33 : decode cX0_handleState 33 = .ok (.invokevirtual 90, 3) := by decide +kernel
theorem dX0_handleState_36 : decode cX0_handleState 36 = .ok (.ireturn, 1) := by decide +kernel
set_option maxRecDepth 20000 in
theorem ggX0_countEnded_X0_asNumber : GoodIn wsX0_countEnded wsX0_asNumber := goodIn_r _ [5] (by decide +kernel) (by decide +kernel)
set_option maxRecDepth 20000 in
theorem gX0_countEnded_X0_asNumber : GoodIn wsX0_countEnded (va_wsS RX0 78 yX0_asNumber wsX0_asNumber) := goodIn_app (goodIn_of _ (by decide +kernel)) ggX0_countEnded_X0_asNumber
theorem dX0_countEnded_0 : decode cX0_countEnded 0 = .ok (.iconst 0, 1) := by decide +kernel
theorem dX0_countEnded_1 : decode cX0_countEnded 1 = .ok (.istore_n 1, 1) := by decide +kernel
theorem dX0_countEnded_2 : decode cX0_countEnded 2 = .ok (.iconst 0, 1) := by decide +kernel
theorem dX0_countEnded_3 : decode cX0_countEnded 3 = .ok (.istore_n 2, 1) := by decide +kernel
theorem dX0_countEnded_4 : decode cX0_countEnded 4 = .ok (.iload_n 2, 1) := by decide +kernel
theorem dX0_countEnded_5 : decode cX0_countEnded 5 = .ok (.iconst 4, 1) := by decide +kernel
theorem dX0_countEnded_6 : decode cX0_countEnded 6 = .ok (.if_icmp .ge 21, 3) := by decide +kernel
theorem dX0_countEnded_9 : decode cX0_countEnded 9 = .ok (.iload_n 1, 1) := by decide +kernel
theorem dX0_countEnded_10 : decode cX0_countEnded 10 = .ok (.aload_n 0, 1) := by decide +kernel
theorem dX0_countEnded_11 : decode cX0_countEnded 11 = .ok (.getfield 17, 3) := by decide +kernel
theorem dX0_countEnded_14 : decode cX0_countEnded 14 = .ok (.iload_n 2, 1) := by decide +kernel
theorem dX0_countEnded_15 : decode cX0_countEnded 15 = .ok (.baload, 1) := by decide +kernel
theorem dX0_countEnded_16 : decode cX0_countEnded 16 = .ok (.invokestatic 78, 3) := by decide +kernel
theorem dX0_countEnded_19 : decode cX0_countEnded 19 = .ok (.iadd, 1) := by decide +kernel
theorem dX0_countEnded_20 : decode cX0_countEnded 20 = .ok (.istore_n 1, 1) := by decide +kernel
theorem dX0_countEnded_21 : decode cX0_countEnded 21 = .ok (.iinc 2 1, 3) := by decide +kernel
theorem dX0_countEnded_24 : decode cX0_countEnded 24 = .ok (.goto (-20), 3) := by decide +kernel
theorem dX0_countEnded_27 : decode cX0_countEnded 27 = .ok (.iload_n 1, 1) := by decide +kernel
theorem dX0_countEnded_28 : decode cX0_countEnded 28 = .ok (.ireturn, 1) := by decide +kernel
theorem dX0_opensBlock_0 : decode cX0_opensBlock 0 = .ok (.iload_n 0, 1) := by decide +kernel
theorem dX0_opensBlock_1 : decode cX0_opensBlock 1 = .ok (.iconst 1, 1) := by decide +kernel
theorem dX0_opensBlock_2 : decode cX0_opensBlock 2 = .ok (.if_icmp .eq 8, 3) := by decide +kernel
theorem dX0_opensBlock_5 : decode cX0_opensBlock 5 = .ok (.iload_n 0, 1) := by decide +kernel
theorem dX0_opensBlock_6 : decode cX0_opensBlock 6 = .ok (.iconst 2, 1) := by decide +kernel
theorem dX0_opensBlock_7 : decode cX0_opensBlock 7 = .ok (.if_icmp .ne 7, 3) := by decide +kernel
theorem dX0_opensBlock_10 : decode cX0_opensBlock 10 = .ok (.iconst 1, 1) := by decide +kernel
theorem dX0_opensBlock_11 : decode cX0_opensBlock 11 = .ok (.goto 4, 3) := by decide +kernel
theorem dX0_opensBlock_14 : decode cX0_opensBlock 14 = .ok (.iconst 0, 1) := by decide +kernel
theorem dX0_opensBlock_15 : decode cX0_opensBlock 15 = .ok (.ireturn, 1) := by decide +kernel
theorem dX0_asNumber_0 : decode cX0_asNumber 0 = .ok (.iload_n 0, 1) := by decide +kernel
theorem dX0_asNumber_1 : decode cX0_asNumber 1 = .ok (.ifCond .eq 7, 3) := by decide +kernel
theorem dX0_asNumber_4 : decode cX0_asNumber 4 = .ok (.iconst 1, 1) := by decide +kernel
theorem dX0_asNumber_5 : decode cX0_asNumber 5 = .ok (.goto 4, 3) := by decide +kernel
theorem dX0_asNumber_8 : decode cX0_asNumber 8 = .ok (.iconst 0, 1) := by decide +kernel
theorem dX0_asNumber_9 : decode cX0_asNumber 9 = .ok (.ireturn, 1) := by decide +kernel
theorem dX0_leastHandle_0 : decode cX0_leastHandle 0 = .ok (.iconst 0, 1) := by decide +kernel
theorem dX0_leastHandle_1 : decode cX0_leastHandle 1 = .ok (.istore_n 2, 1) := by decide +kernel
theorem dX0_leastHandle_2 : decode cX0_leastHandle 2 = .ok (.iload_n 2, 1) := by decide +kernel
theorem dX0_leastHandle_3 : decode cX0_leastHandle 3 = .ok (.iload_n 1, 1) := by decide +kernel
theorem dX0_leastHandle_4 : decode cX0_leastHandle 4 = .ok (.if_icmp .ge 26, 3) := by decide +kernel
theorem dX0_leastHandle_7 : decode cX0_leastHandle 7 = .ok (.aload_n 0, 1) := by decide +kernel
theorem dX0_leastHandle_8 : decode cX0_leastHandle 8 = .ok (.getfield 9, 3) := by decide +kernel
theorem dX0_leastHandle_11 : decode cX0_leastHandle 11 = .ok (.iload_n 2, 1) := by decide +kernel
theorem dX0_leastHandle_12 : decode cX0_leastHandle 12 = .ok (.iaload, 1) := by decide +kernel
theorem dX0_leastHandle_13 : decode cX0_leastHandle 13 = .ok (.aload_n 0, 1) := by decide +kernel
theorem dX0_leastHandle_14 : decode cX0_leastHandle 14 = .ok (.getfield 9, 3) := by decide +kernel
theorem dX0_leastHandle_17 : decode cX0_leastHandle 17 = .ok (.iload_n 1, 1) := by decide +kernel
theorem dX0_leastHandle_18 : decode cX0_leastHandle 18 = .ok (.iaload, 1) := by decide +kernel
theorem dX0_leastHandle_19 : decode cX0_leastHandle 19 = .ok (.if_icmp .ne 5, 3) := by decide +kernel
theorem dX0_leastHandle_22 : decode cX0_leastHandle 22 = .ok (.iload_n 2, 1) := by decide +kernel
theorem dX0_leastHandle_23 : decode cX0_leastHandle 23 = .ok (.ireturn, 1) := by decide +kernel
theorem dX0_leastHandle_24 : decode cX0_leastHandle 24 = .ok (.iinc 2 1, 3) := by decide +kernel
theorem dX0_leastHandle_27 : decode cX0_leastHandle 27 = .ok (.goto (-25), 3) := by decide +kernel
theorem dX0_leastHandle_30 : decode cX0_leastHandle 30 = .ok (.iload_n 1, 1) := by decide +kernel
theorem dX0_leastHandle_31 : decode cX0_leastHandle 31 = .ok (.ireturn, 1) := by decide +kernel
set_option maxRecDepth 20000 in
theorem ggX0_doStep_X0_perform : GoodIn wsX0_doStep wsX0_perform := goodIn_r _ [7, 8, 9, 10, 11, 12, 13, 14, 15, 16, 17, 18, 19, 20, 6, 21, 22, 23, 24, 25, 26, 27, 28, 29, 30, 31, 32, 33, 34, 35, 36, 37, 38, 39, 40, 41, 42, 43, 1, 44, 45, 46, 47, 48, 49, 50, 51, 52, 53, 54, 55, 56, 57, 58, 59, 60, 61, 62, 63, 64, 65, 66, 67, 68, 69, 70, 71, 72, 73, 74, 75, 84, 85, 86, 87, 88, 89, 90, 91, 92, 93, 94, 95, 96, 97, 98, 99, 100] (by decide +kernel) (by decide +kernel)
set_option maxRecDepth 20000 in
theorem gX0_doStep_X0_perform : GoodIn wsX0_doStep (wsV RX0 93 RX0 yX0_perform wsX0_perform) := goodIn_app (goodIn_of _ (by decide +kernel)) ggX0_doStep_X0_perform
set_option maxRecDepth 20000 in
theorem ggX0_doStep_X0_leaveBlocks : GoodIn wsX0_doStep wsX0_leaveBlocks := goodIn_r _ [79, 10, 1, 80, 81, 82, 2, 83, 22, 23, 24, 6, 25, 9, 26, 27, 28, 29, 8, 30, 14, 15, 16, 17, 31, 32, 33, 34, 35, 84, 85, 86, 87, 88, 89, 90, 91, 92, 93, 94, 95, 96, 97, 98, 99, 100] (by decide +kernel) (by decide +kernel)
set_option maxRecDepth 20000 in
theorem gX0_doStep_X0_leaveBlocks : GoodIn wsX0_doStep (wsV RX0 96 RX0 yX0_leaveBlocks wsX0_leaveBlocks) := goodIn_app (goodIn_of _ (by decide +kernel)) ggX0_doStep_X0_leaveBlocks
theorem dX0_doStep_0 : decode cX0_doStep 0 = .ok (.aload_n 0, 1) := by decide +kernel
theorem dX0_doStep_1 : decode cX0_doStep 1 = .ok (.iconst 0, 1) := by decide +kernel
theorem dX0_doStep_2 : decode cX0_doStep 2 = .ok (.putfield 58, 3) := by decide +kernel
theorem dX0_doStep_5 : decode cX0_doStep 5 = .ok (.aload_n 0, 1) := by decide +kernel
theorem dX0_doStep_6 : decode cX0_doStep 6 = .ok (.iload_n 1, 1) := by decide +kernel
theorem dX0_doStep_7 : decode cX0_doStep 7 = .ok (.invokevirtual 93, 3) := by decide +kernel
theorem dX0_doStep_10 : decode cX0_doStep 10 = .ok (.istore_n 2, 1) := by decide +kernel
theorem dX0_doStep_11 : decode cX0_doStep 11 = .ok (.aload_n 0, 1) := by decide +kernel
theorem dX0_doStep_12 : decode cX0_doStep 12 = .ok (.getfield 58, 3) := by decide +kernel
theorem dX0_doStep_15 : decode cX0_doStep 15 = .ok (.ifCond .ne 13, 3) := by decide +kernel
theorem dX0_doStep_18 : decode cX0_doStep 18 = .ok (.aload_n 0, 1) := by decide +kernel
theorem dX0_doStep_19 : decode cX0_doStep 19 = .ok (.getfield 49, 3) := by decide +kernel
theorem dX0_doStep_22 : decode cX0_doStep 22 = .ok (.iload_n 1, 1) := by decide +kernel
theorem dX0_doStep_23 : decode cX0_doStep 23 = .ok (.iload_n 2, 1) := by decide +kernel
theorem dX0_doStep_24 : decode cX0_doStep 24 = .ok (.iastore, 1) := by decide +kernel
theorem dX0_doStep_25 : decode cX0_doStep 25 = .ok (.goto 22, 3) := by decide +kernel
theorem dX0_doStep_28 : decode cX0_doStep 28 = .ok (.aload_n 0, 1) := by decide +kernel
theorem dX0_doStep_29 : decode cX0_doStep 29 = .ok (.getfield 49, 3) := by decide +kernel
theorem dX0_doStep_32 : decode cX0_doStep 32 = .ok (.iload_n 1, 1) := by decide +kernel
theorem dX0_doStep_33 : decode cX0_doStep 33 = .ok (.aload_n 0, 1) := by decide +kernel
theorem dX0_doStep_34 : decode cX0_doStep 34 = .ok (.getfield 58, 3) := by decide +kernel
theorem dX0_doStep_37 : decode cX0_doStep 37 = .ok (.sipush (-1000), 3) := by decide +kernel
theorem dX0_doStep_40 : decode cX0_doStep 40 = .ok (.iadd, 1) := by decide +kernel
theorem dX0_doStep_41 : decode cX0_doStep 41 = .ok (.iastore, 1) := by decide +kernel
theorem dX0_doStep_42 : decode cX0_doStep 42 = .ok (.aload_n 0, 1) := by decide +kernel
theorem dX0_doStep_43 : decode cX0_doStep 43 = .ok (.iload_n 1, 1) := by decide +kernel
theorem dX0_doStep_44 : decode cX0_doStep 44 = .ok (.invokevirtual 96, 3) := by decide +kernel
theorem dX0_doStep_47 : decode cX0_doStep 47 = .ok (.return_, 1) := by decide +kernel
set_option maxRecDepth 20000 in
theorem ggX0_perform_J9_floorMod_7cf53 : GoodIn wsX0_perform wsJ9_floorMod_7cf53 := goodIn_r _ [10] (by decide +kernel) (by decide +kernel)
set_option maxRecDepth 20000 in
theorem gX0_perform_J9_floorMod_7cf53 : GoodIn wsX0_perform (va_wsS RX0 99 yJ9_floorMod_7cf53 wsJ9_floorMod_7cf53) := goodIn_app (goodIn_of _ (by decide +kernel)) ggX0_perform_J9_floorMod_7cf53
set_option maxRecDepth 20000 in
theorem ggX0_perform_X0_endBlock : GoodIn wsX0_perform wsX0_endBlock := goodIn_r _ [15, 16, 17, 18, 14, 19, 2, 20, 21, 22, 23, 1, 24, 7, 8, 9, 10, 25, 26, 27, 28, 29, 71, 72, 73, 74, 75, 76, 77, 78, 79, 80, 81, 82, 83, 84, 85, 86, 87] (by decide +kernel) (by decide +kernel)
set_option maxRecDepth 20000 in
theorem gX0_perform_X0_endBlock : GoodIn wsX0_perform (wsV RX0 105 RX0 yX0_endBlock wsX0_endBlock) := goodIn_app (goodIn_of _ (by decide +kernel)) ggX0_perform_X0_endBlock
set_option maxRecDepth 20000 in
theorem ggX0_perform_X0_enter : GoodIn wsX0_perform wsX0_enter := goodIn_r _ [33, 29, 24, 34, 35, 36, 14, 37, 38, 25, 26, 27, 28, 71, 72, 73, 74, 75, 76, 77, 78, 79, 80, 81, 82, 83, 84, 85, 86, 87] (by decide +kernel) (by decide +kernel)
set_option maxRecDepth 20000 in
theorem gX0_perform_X0_enter : GoodIn wsX0_perform (wsV RX0 108 RX0 yX0_enter wsX0_enter) := goodIn_app (goodIn_of _ (by decide +kernel)) ggX0_perform_X0_enter
set_option maxRecDepth 20000 in
theorem ggX0_perform_X0_notifyWaiting : GoodIn wsX0_perform wsX0_notifyWaiting := goodIn_r _ [42, 29, 24, 34, 35, 36, 14, 37, 38, 25, 26, 27, 28, 71, 72, 73, 74, 75, 76, 77, 78, 79, 80, 81, 82, 83, 84, 85, 86, 87] (by decide +kernel) (by decide +kernel)
set_option maxRecDepth 20000 in
theorem gX0_perform_X0_notifyWaiting : GoodIn wsX0_perform (wsV RX0 111 RX0 yX0_notifyWaiting wsX0_notifyWaiting) := goodIn_app (goodIn_of _ (by decide +kernel)) ggX0_perform_X0_notifyWaiting
set_option maxRecDepth 20000 in
theorem ggX0_perform_X0_holdsLock : GoodIn wsX0_perform wsX0_holdsLock := goodIn_r _ [46, 29, 24, 34, 35, 36, 14, 37, 38, 25, 26, 27, 28, 47, 48, 49, 71, 72, 73, 74, 75, 76, 77, 78, 79, 80, 81, 82, 83, 84, 85, 86, 87] (by decide +kernel) (by decide +kernel)
set_option maxRecDepth 20000 in
theorem gX0_perform_X0_holdsLock : GoodIn wsX0_perform (wsV RX0 114 RX0 yX0_holdsLock wsX0_holdsLock) := goodIn_app (goodIn_of _ (by decide +kernel)) ggX0_perform_X0_holdsLock
set_option maxRecDepth 20000 in
theorem ggX0_perform_X0_awaitNotice : GoodIn wsX0_perform wsX0_awaitNotice := goodIn_r _ [53, 54, 55, 56, 57, 58, 29, 24, 34, 35, 36, 14, 37, 38, 25, 26, 27, 28, 59, 60, 61, 62, 4, 71, 72, 73, 74, 75, 76, 77, 78, 79, 80, 81, 82, 83, 84, 85, 86, 87] (by decide +kernel) (by decide +kernel)
set_option maxRecDepth 20000 in
theorem gX0_perform_X0_awaitNotice : GoodIn wsX0_perform (wsV RX0 117 RX0 yX0_awaitNotice wsX0_awaitNotice) := goodIn_app (goodIn_of _ (by decide +kernel)) ggX0_perform_X0_awaitNotice
set_option maxRecDepth 20000 in
theorem ggX0_perform_X0_takeFlag : GoodIn wsX0_perform wsX0_takeFlag := goodIn_r _ [62, 4, 71, 72, 73, 74, 75, 76, 77, 78, 79, 80, 81, 82, 83, 84, 85, 86, 87] (by decide +kernel) (by decide +kernel)
set_option maxRecDepth 20000 in
theorem gX0_perform_X0_takeFlag : GoodIn wsX0_perform (wsV RX0 120 RX0 yX0_takeFlag wsX0_takeFlag) := goodIn_app (goodIn_of _ (by decide +kernel)) ggX0_perform_X0_takeFlag
set_option maxRecDepth 20000 in
theorem ggX0_perform_X0_asNumber : GoodIn wsX0_perform wsX0_asNumber := goodIn_r _ [49] (by decide +kernel) (by decide +kernel)
set_option maxRecDepth 20000 in
theorem gX0_perform_X0_asNumber : GoodIn wsX0_perform (va_wsS RX0 78 yX0_asNumber wsX0_asNumber) := goodIn_app (goodIn_of _ (by decide +kernel)) ggX0_perform_X0_asNumber
set_option maxRecDepth 20000 in
theorem ggX0_perform_X0_sleep : GoodIn wsX0_perform wsX0_sleep := goodIn_r _ [66, 34, 35, 36, 14, 37, 38, 59, 60, 61, 62, 4, 71, 72, 73, 74, 75, 76, 77, 78, 79, 80, 81, 82, 83, 84, 85, 86, 87] (by decide +kernel) (by decide +kernel)
set_option maxRecDepth 20000 in
theorem gX0_perform_X0_sleep : GoodIn wsX0_perform (wsV RX0 124 RX0 yX0_sleep wsX0_sleep) := goodIn_app (goodIn_of _ (by decide +kernel)) ggX0_perform_X0_sleep
set_option maxRecDepth 20000 in
theorem ggX0_perform_X0_raise : GoodIn wsX0_perform wsX0_raise := goodIn_r _ [37, 38, 71, 72, 73, 74, 75, 76, 77, 78, 79, 80, 81, 82, 83, 84, 85, 86, 87] (by decide +kernel) (by decide +kernel)
set_option maxRecDepth 20000 in
theorem gX0_perform_X0_raise : GoodIn wsX0_perform (wsV RX0 127 RX0 yX0_raise wsX0_raise) := goodIn_app (goodIn_of _ (by decide +kernel)) ggX0_perform_X0_raise
set_option maxRecDepth 20000 in
theorem ggX0_perform_X0_start : GoodIn wsX0_perform wsX0_start := goodIn_r _ [70, 5, 6, 34, 35, 36, 14, 37, 38, 71, 72, 73, 74, 75, 76, 77, 78, 79, 80, 81, 82, 83, 84, 85, 86, 87] (by decide +kernel) (by decide +kernel)
set_option maxRecDepth 20000 in
theorem gX0_perform_X0_start : GoodIn wsX0_perform (wsV RX0 130 RX0 yX0_start wsX0_start) := goodIn_app (goodIn_of _ (by decide +kernel)) ggX0_perform_X0_start
theorem dX0_perform_0 : decode cX0_perform 0 = .ok (.aload_n 0, 1) := by decide +kernel
theorem dX0_perform_1 : decode cX0_perform 1 = .ok (.getfield 31, 3) := by decide +kernel
theorem dX0_perform_4 : decode cX0_perform 4 = .ok (.iload_n 1, 1) := by decide +kernel
theorem dX0_perform_5 : decode cX0_perform 5 = .ok (.iaload, 1) := by decide +kernel
theorem dX0_perform_6 : decode cX0_perform 6 = .ok (.istore_n 2, 1) := by decide +kernel
theorem dX0_perform_7 : decode cX0_perform 7 = .ok (.iload_n 2, 1) := by decide +kernel
theorem dX0_perform_8 : decode cX0_perform 8 = .ok (.iconst 5, 1) := by decide +kernel
theorem dX0_perform_9 : decode cX0_perform 9 = .ok (.invokestatic 99, 3) := by decide +kernel
theorem dX0_perform_12 : decode cX0_perform 12 = .ok (.istore_n 3, 1) := by decide +kernel
theorem dX0_perform_13 : decode cX0_perform 13 = .ok (.iload_n 2, 1) := by decide +kernel
theorem dX0_perform_14 : decode cX0_perform 14 = .ok (.iconst 4, 1) := by decide +kernel
theorem dX0_perform_15 : decode cX0_perform 15 = .ok (.invokestatic 99, 3) := by decide +kernel
theorem dX0_perform_18 : decode cX0_perform 18 = .ok (.istore 4, 2) := by decide +kernel
theorem dX0_perform_20 : decode cX0_perform 20 = .ok (.aload_n 0, 1) := by decide +kernel
theorem dX0_perform_21 : decode cX0_perform 21 = .ok (.getfield 28, 3) := by decide +kernel
theorem dX0_perform_24 : decode cX0_perform 24 = .ok (.iload_n 1, 1) := by decide +kernel
theorem dX0_perform_25 : decode cX0_perform 25 = .ok (.iaload, 1) := by decide +kernel
theorem dX0_perform_26 : decode cX0_perform 26 = .ok (.tableswitch 189 0 15 #[78, 89, 189, 95, 95, 101, 107, 113, 120, 128, 136, 142, 156, 163, 163, 174], 78) := by decide +kernel
theorem dX0_perform_104 : decode cX0_perform 104 = .ok (.aload_n 0, 1) := by decide +kernel
theorem dX0_perform_105 : decode cX0_perform 105 = .ok (.aload_n 0, 1) := by decide +kernel
theorem dX0_perform_106 : decode cX0_perform 106 = .ok (.getfield 34, 3) := by decide +kernel
theorem dX0_perform_109 : decode cX0_perform 109 = .ok (.iload_n 1, 1) := by decide +kernel
theorem dX0_perform_110 : decode cX0_perform 110 = .ok (.iaload, 1) := by decide +kernel
theorem dX0_perform_111 : decode cX0_perform 111 = .ok (.invokevirtual 105, 3) := by decide +kernel
theorem dX0_perform_114 : decode cX0_perform 114 = .ok (.ireturn, 1) := by decide +kernel
theorem dX0_perform_115 : decode cX0_perform 115 = .ok (.aload_n 0, 1) := by decide +kernel
theorem dX0_perform_116 : decode cX0_perform 116 = .ok (.iload_n 3, 1) := by decide +kernel
theorem dX0_perform_117 : decode cX0_perform 117 = .ok (.invokevirtual 108, 3) := by decide +kernel
theorem dX0_perform_120 : decode cX0_perform 120 = .ok (.ireturn, 1) := by decide +kernel
theorem dX0_perform_121 : decode cX0_perform 121 = .ok (.aload_n 0, 1) := by decide +kernel
theorem dX0_perform_122 : decode cX0_perform 122 = .ok (.iload_n 3, 1) := by decide +kernel
theorem dX0_perform_123 : decode cX0_perform 123 = .ok (.invokevirtual 111, 3) := by decide +kernel
theorem dX0_perform_126 : decode cX0_perform 126 = .ok (.ireturn, 1) := by decide +kernel
theorem dX0_perform_127 : decode cX0_perform 127 = .ok (.aload_n 0, 1) := by decide +kernel
theorem dX0_perform_128 : decode cX0_perform 128 = .ok (.iload_n 3, 1) := by decide +kernel
theorem dX0_perform_129 : decode cX0_perform 129 = .ok (.invokevirtual 114, 3) := by decide +kernel
theorem dX0_perform_132 : decode cX0_perform 132 = .ok (.ireturn, 1) := by decide +kernel
theorem dX0_perform_133 : decode cX0_perform 133 = .ok (.aload_n 0, 1) := by decide +kernel
theorem dX0_perform_134 : decode cX0_perform 134 = .ok (.iload_n 2, 1) := by decide +kernel
theorem dX0_perform_135 : decode cX0_perform 135 = .ok (.invokevirtual 117, 3) := by decide +kernel
theorem dX0_perform_138 : decode cX0_perform 138 = .ok (.ireturn, 1) := by decide +kernel
theorem dX0_perform_139 : decode cX0_perform 139 = .ok (.aload_n 0, 1) := by decide +kernel
theorem dX0_perform_140 : decode cX0_perform 140 = .ok (.iconst 1, 1) := by decide +kernel
theorem dX0_perform_141 : decode cX0_perform 141 = .ok (.putfield 24, 3) := by decide +kernel
theorem dX0_perform_144 : decode cX0_perform 144 = .ok (.iconst 0, 1) := by decide +kernel
theorem dX0_perform_145 : decode cX0_perform 145 = .ok (.ireturn, 1) := by decide +kernel
theorem dX0_perform_146 : decode cX0_perform 146 = .ok (.aload_n 0, 1) := by decide +kernel
theorem dX0_perform_147 : decode cX0_perform 147 = .ok (.invokevirtual 120, 3) := by decide +kernel
theorem dX0_perform_150 : decode cX0_perform 150 = .ok (.invokestatic 78, 3) := by decide +kernel
theorem dX0_perform_153 : decode cX0_perform 153 = .ok (.ireturn, 1) := by decide +kernel
theorem dX0_perform_154 : decode cX0_perform 154 = .ok (.aload_n 0, 1) := by decide +kernel
theorem dX0_perform_155 : decode cX0_perform 155 = .ok (.getfield 24, 3) := by decide +kernel
theorem dX0_perform_158 : decode cX0_perform 158 = .ok (.invokestatic 78, 3) := by decide +kernel
theorem dX0_perform_161 : decode cX0_perform 161 = .ok (.ireturn, 1) := by decide +kernel
theorem dX0_perform_162 : decode cX0_perform 162 = .ok (.aload_n 0, 1) := by decide +kernel
theorem dX0_perform_163 : decode cX0_perform 163 = .ok (.iload_n 2, 1) := by decide +kernel
theorem dX0_perform_164 : decode cX0_perform 164 = .ok (.invokevirtual 124, 3) := by decide +kernel
theorem dX0_perform_167 : decode cX0_perform 167 = .ok (.ireturn, 1) := by decide +kernel
theorem dX0_perform_168 : decode cX0_perform 168 = .ok (.aload_n 0, 1) := by decide +kernel
theorem dX0_perform_169 : decode cX0_perform 169 = .ok (.bipush 100, 2) := by decide +kernel
theorem dX0_perform_171 : decode cX0_perform 171 = .ok (.iload_n 2, 1) := by decide +kernel
theorem dX0_perform_172 : decode cX0_perform 172 = .ok (.bipush 100, 2) := by decide +kernel
theorem dX0_perform_174 : decode cX0_perform 174 = .ok (.invokestatic 99, 3) := by decide +kernel
theorem dX0_perform_177 : decode cX0_perform 177 = .ok (.iadd, 1) := by decide +kernel
theorem dX0_perform_178 : decode cX0_perform 178 = .ok (.invokevirtual 127, 3) := by decide +kernel
theorem dX0_perform_181 : decode cX0_perform 181 = .ok (.ireturn, 1) := by decide +kernel
theorem dX0_perform_182 : decode cX0_perform 182 = .ok (.aload_n 0, 1) := by decide +kernel
theorem dX0_perform_183 : decode cX0_perform 183 = .ok (.iload 4, 2) := by decide +kernel
theorem dX0_perform_185 : decode cX0_perform 185 = .ok (.invokevirtual 130, 3) := by decide +kernel
theorem dX0_perform_188 : decode cX0_perform 188 = .ok (.ireturn, 1) := by decide +kernel
theorem dX0_perform_189 : decode cX0_perform 189 = .ok (.aload_n 0, 1) := by decide +kernel
theorem dX0_perform_190 : decode cX0_perform 190 = .ok (.getfield 17, 3) := by decide +kernel
theorem dX0_perform_193 : decode cX0_perform 193 = .ok (.iload 4, 2) := by decide +kernel
theorem dX0_perform_195 : decode cX0_perform 195 = .ok (.baload, 1) := by decide +kernel
theorem dX0_perform_196 : decode cX0_perform 196 = .ok (.invokestatic 78, 3) := by decide +kernel
theorem dX0_perform_199 : decode cX0_perform 199 = .ok (.ireturn, 1) := by decide +kernel
theorem dX0_perform_200 : decode cX0_perform 200 = .ok (.aload_n 0, 1) := by decide +kernel
theorem dX0_perform_201 : decode cX0_perform 201 = .ok (.dup, 1) := by decide +kernel
theorem dX0_perform_202 : decode cX0_perform 202 = .ok (.getfield 21, 3) := by decide +kernel
theorem dX0_perform_205 : decode cX0_perform 205 = .ok (.iload_n 2, 1) := by decide +kernel
theorem dX0_perform_206 : decode cX0_perform 206 = .ok (.iadd, 1) := by decide +kernel
theorem dX0_perform_207 : decode cX0_perform 207 = .ok (.putfield 21, 3) := by decide +kernel
theorem dX0_perform_210 : decode cX0_perform 210 = .ok (.aload_n 0, 1) := by decide +kernel
theorem dX0_perform_211 : decode cX0_perform 211 = .ok (.getfield 21, 3) := by decide +kernel
theorem dX0_perform_214 : decode cX0_perform 214 = .ok (.ireturn, 1) := by decide +kernel
theorem dX0_perform_215 : decode cX0_perform 215 = .ok (.iconst 0, 1) := by decide +kernel
theorem dX0_perform_216 : decode cX0_perform 216 = .ok (.ireturn, 1) := by decide +kernel
theorem dX0_raise_0 : decode cX0_raise 0 = .ok (.aload_n 0, 1) := by decide +kernel
theorem dX0_raise_1 : decode cX0_raise 1 = .ok (.iload_n 1, 1) := by decide +kernel
theorem dX0_raise_2 : decode cX0_raise 2 = .ok (.putfield 58, 3) := by decide +kernel
theorem dX0_raise_5 : decode cX0_raise 5 = .ok (.iconst 0, 1) := by decide +kernel
theorem dX0_raise_6 : decode cX0_raise 6 = .ok (.ireturn, 1) := by decide +kernel
set_option maxRecDepth 20000 in
theorem ggX0_leaveBlocks_X0_isEnter : GoodIn wsX0_leaveBlocks wsX0_isEnter := goodIn_r _ [12, 13, 29, 30, 31, 32, 33, 34, 35, 36, 37, 38, 39, 40, 41, 42, 43, 44, 45] (by decide +kernel) (by decide +kernel)
set_option maxRecDepth 20000 in
theorem gX0_leaveBlocks_X0_isEnter : GoodIn wsX0_leaveBlocks (wsV RX0 133 RX0 yX0_isEnter wsX0_isEnter) := goodIn_app (goodIn_of _ (by decide +kernel)) ggX0_leaveBlocks_X0_isEnter
set_option maxRecDepth 20000 in
theorem ggX0_leaveBlocks_X0_giveBack : GoodIn wsX0_leaveBlocks wsX0_giveBack := goodIn_r _ [17, 18, 19, 20, 21, 22, 23, 24, 25, 26, 11, 27, 28, 29, 30, 31, 32, 33, 34, 35, 36, 37, 38, 39, 40, 41, 42, 43, 44, 45] (by decide +kernel) (by decide +kernel)
set_option maxRecDepth 20000 in
theorem gX0_leaveBlocks_X0_giveBack : GoodIn wsX0_leaveBlocks (wsV RX0 136 RX0 yX0_giveBack wsX0_giveBack) := goodIn_app (goodIn_of _ (by decide +kernel)) ggX0_leaveBlocks_X0_giveBack
theorem dX0_leaveBlocks_0 : decode cX0_leaveBlocks 0 = .ok (.aload_n 0, 1) := by decide +kernel
theorem dX0_leaveBlocks_1 : decode cX0_leaveBlocks 1 = .ok (.getfield 34, 3) := by decide +kernel
theorem dX0_leaveBlocks_4 : decode cX0_leaveBlocks 4 = .ok (.iload_n 1, 1) := by decide +kernel
theorem dX0_leaveBlocks_5 : decode cX0_leaveBlocks 5 = .ok (.iaload, 1) := by decide +kernel
theorem dX0_leaveBlocks_6 : decode cX0_leaveBlocks 6 = .ok (.istore_n 2, 1) := by decide +kernel
theorem dX0_leaveBlocks_7 : decode cX0_leaveBlocks 7 = .ok (.bipush 8, 2) := by decide +kernel
theorem dX0_leaveBlocks_9 : decode cX0_leaveBlocks 9 = .ok (.istore_n 3, 1) := by decide +kernel
theorem dX0_leaveBlocks_10 : decode cX0_leaveBlocks 10 = .ok (.iload_n 3, 1) := by decide +kernel
theorem dX0_leaveBlocks_11 : decode cX0_leaveBlocks 11 = .ok (.ifCond .le 30, 3) := by decide +kernel
theorem dX0_leaveBlocks_14 : decode cX0_leaveBlocks 14 = .ok (.aload_n 0, 1) := by decide +kernel
theorem dX0_leaveBlocks_15 : decode cX0_leaveBlocks 15 = .ok (.iload_n 2, 1) := by decide +kernel
theorem dX0_leaveBlocks_16 : decode cX0_leaveBlocks 16 = .ok (.invokevirtual 133, 3) := by decide +kernel
theorem dX0_leaveBlocks_19 : decode cX0_leaveBlocks 19 = .ok (.ifCond .eq 22, 3) := by decide +kernel
theorem dX0_leaveBlocks_22 : decode cX0_leaveBlocks 22 = .ok (.aload_n 0, 1) := by decide +kernel
theorem dX0_leaveBlocks_23 : decode cX0_leaveBlocks 23 = .ok (.iload_n 2, 1) := by decide +kernel
theorem dX0_leaveBlocks_24 : decode cX0_leaveBlocks 24 = .ok (.invokevirtual 136, 3) := by decide +kernel
theorem dX0_leaveBlocks_27 : decode cX0_leaveBlocks 27 = .ok (.pop, 1) := by decide +kernel
theorem dX0_leaveBlocks_28 : decode cX0_leaveBlocks 28 = .ok (.aload_n 0, 1) := by decide +kernel
theorem dX0_leaveBlocks_29 : decode cX0_leaveBlocks 29 = .ok (.getfield 34, 3) := by decide +kernel
theorem dX0_leaveBlocks_32 : decode cX0_leaveBlocks 32 = .ok (.iload_n 2, 1) := by decide +kernel
theorem dX0_leaveBlocks_33 : decode cX0_leaveBlocks 33 = .ok (.iaload, 1) := by decide +kernel
theorem dX0_leaveBlocks_34 : decode cX0_leaveBlocks 34 = .ok (.istore_n 2, 1) := by decide +kernel
theorem dX0_leaveBlocks_35 : decode cX0_leaveBlocks 35 = .ok (.iinc 3 (-1), 3) := by decide +kernel
theorem dX0_leaveBlocks_38 : decode cX0_leaveBlocks 38 = .ok (.goto (-28), 3) := by decide +kernel
theorem dX0_leaveBlocks_41 : decode cX0_leaveBlocks 41 = .ok (.iload_n 2, 1) := by decide +kernel
theorem dX0_leaveBlocks_42 : decode cX0_leaveBlocks 42 = .ok (.iconst (-1), 1) := by decide +kernel
theorem dX0_leaveBlocks_43 : decode cX0_leaveBlocks 43 = .ok (.if_icmp .ne 22, 3) := by decide +kernel
theorem dX0_leaveBlocks_46 : decode cX0_leaveBlocks 46 = .ok (.aload_n 0, 1) := by decide +kernel
theorem dX0_leaveBlocks_47 : decode cX0_leaveBlocks 47 = .ok (.aload_n 0, 1) := by decide +kernel
theorem dX0_leaveBlocks_48 : decode cX0_leaveBlocks 48 = .ok (.getfield 58, 3) := by decide +kernel
theorem dX0_leaveBlocks_51 : decode cX0_leaveBlocks 51 = .ok (.putfield 52, 3) := by decide +kernel
theorem dX0_leaveBlocks_54 : decode cX0_leaveBlocks 54 = .ok (.aload_n 0, 1) := by decide +kernel
theorem dX0_leaveBlocks_55 : decode cX0_leaveBlocks 55 = .ok (.aload_n 0, 1) := by decide +kernel
theorem dX0_leaveBlocks_56 : decode cX0_leaveBlocks 56 = .ok (.getfield 40, 3) := by decide +kernel
theorem dX0_leaveBlocks_59 : decode cX0_leaveBlocks 59 = .ok (.putfield 61, 3) := by decide +kernel
theorem dX0_leaveBlocks_62 : decode cX0_leaveBlocks 62 = .ok (.goto 25, 3) := by decide +kernel
theorem dX0_leaveBlocks_65 : decode cX0_leaveBlocks 65 = .ok (.aload_n 0, 1) := by decide +kernel
theorem dX0_leaveBlocks_66 : decode cX0_leaveBlocks 66 = .ok (.getfield 49, 3) := by decide +kernel
theorem dX0_leaveBlocks_69 : decode cX0_leaveBlocks 69 = .ok (.iload_n 2, 1) := by decide +kernel
theorem dX0_leaveBlocks_70 : decode cX0_leaveBlocks 70 = .ok (.aload_n 0, 1) := by decide +kernel
theorem dX0_leaveBlocks_71 : decode cX0_leaveBlocks 71 = .ok (.getfield 58, 3) := by decide +kernel
theorem dX0_leaveBlocks_74 : decode cX0_leaveBlocks 74 = .ok (.iastore, 1) := by decide +kernel
theorem dX0_leaveBlocks_75 : decode cX0_leaveBlocks 75 = .ok (.aload_n 0, 1) := by decide +kernel
theorem dX0_leaveBlocks_76 : decode cX0_leaveBlocks 76 = .ok (.aload_n 0, 1) := by decide +kernel
theorem dX0_leaveBlocks_77 : decode cX0_leaveBlocks 77 = .ok (.getfield 37, 3) := by decide +kernel
theorem dX0_leaveBlocks_80 : decode cX0_leaveBlocks 80 = .ok (.iload_n 2, 1) := by decide +kernel
theorem dX0_leaveBlocks_81 : decode cX0_leaveBlocks 81 = .ok (.iaload, 1) := by decide +kernel
theorem dX0_leaveBlocks_82 : decode cX0_leaveBlocks 82 = .ok (.iconst 1, 1) := by decide +kernel
theorem dX0_leaveBlocks_83 : decode cX0_leaveBlocks 83 = .ok (.iadd, 1) := by decide +kernel
theorem dX0_leaveBlocks_84 : decode cX0_leaveBlocks 84 = .ok (.putfield 61, 3) := by decide +kernel
theorem dX0_leaveBlocks_87 : decode cX0_leaveBlocks 87 = .ok (.return_, 1) := by decide +kernel
set_option maxRecDepth 20000 in
theorem ggX0_endBlock_X0_isEnter : GoodIn wsX0_endBlock wsX0_isEnter := goodIn_r _ [5, 6, 22, 23, 24, 25, 26, 27, 28, 29, 30, 31, 32, 33, 34, 35, 36, 37, 38] (by decide +kernel) (by decide +kernel)
set_option maxRecDepth 20000 in
theorem gX0_endBlock_X0_isEnter : GoodIn wsX0_endBlock (wsV RX0 133 RX0 yX0_isEnter wsX0_isEnter) := goodIn_app (goodIn_of _ (by decide +kernel)) ggX0_endBlock_X0_isEnter
set_option maxRecDepth 20000 in
theorem ggX0_endBlock_X0_giveBack : GoodIn wsX0_endBlock wsX0_giveBack := goodIn_r _ [10, 11, 12, 13, 14, 15, 16, 17, 18, 19, 4, 20, 21, 22, 23, 24, 25, 26, 27, 28, 29, 30, 31, 32, 33, 34, 35, 36, 37, 38] (by decide +kernel) (by decide +kernel)
set_option maxRecDepth 20000 in
theorem gX0_endBlock_X0_giveBack : GoodIn wsX0_endBlock (wsV RX0 136 RX0 yX0_giveBack wsX0_giveBack) := goodIn_app (goodIn_of _ (by decide +kernel)) ggX0_endBlock_X0_giveBack
theorem dX0_endBlock_0 : decode cX0_endBlock 0 = .ok (.aload_n 0, 1) := by decide +kernel
theorem dX0_endBlock_1 : decode cX0_endBlock 1 = .ok (.iload_n 1, 1) := by decide +kernel
theorem dX0_endBlock_2 : decode cX0_endBlock 2 = .ok (.invokevirtual 133, 3) := by decide +kernel
theorem dX0_endBlock_5 : decode cX0_endBlock 5 = .ok (.ifCond .eq 11, 3) := by decide +kernel
theorem dX0_endBlock_8 : decode cX0_endBlock 8 = .ok (.aload_n 0, 1) := by decide +kernel
theorem dX0_endBlock_9 : decode cX0_endBlock 9 = .ok (.iload_n 1, 1) := by decide +kernel
theorem dX0_endBlock_10 : decode cX0_endBlock 10 = .ok (.invokevirtual 136, 3) := by decide +kernel
theorem dX0_endBlock_13 : decode cX0_endBlock 13 = .ok (.goto 4, 3) := by decide +kernel
theorem dX0_endBlock_16 : decode cX0_endBlock 16 = .ok (.iconst 0, 1) := by decide +kernel
theorem dX0_endBlock_17 : decode cX0_endBlock 17 = .ok (.ireturn, 1) := by decide +kernel
theorem dX0_isEnter_0 : decode cX0_isEnter 0 = .ok (.iload_n 1, 1) := by decide +kernel
theorem dX0_isEnter_1 : decode cX0_isEnter 1 = .ok (.iconst (-1), 1) := by decide +kernel
theorem dX0_isEnter_2 : decode cX0_isEnter 2 = .ok (.if_icmp .eq 17, 3) := by decide +kernel
theorem dX0_isEnter_5 : decode cX0_isEnter 5 = .ok (.aload_n 0, 1) := by decide +kernel
theorem dX0_isEnter_6 : decode cX0_isEnter 6 = .ok (.getfield 28, 3) := by decide +kernel
theorem dX0_isEnter_9 : decode cX0_isEnter 9 = .ok (.iload_n 1, 1) := by decide +kernel
theorem dX0_isEnter_10 : decode cX0_isEnter 10 = .ok (.iaload, 1) := by decide +kernel
theorem dX0_isEnter_11 : decode cX0_isEnter 11 = .ok (.iconst 1, 1) := by decide +kernel
theorem dX0_isEnter_12 : decode cX0_isEnter 12 = .ok (.if_icmp .ne 7, 3) := by decide +kernel
theorem dX0_isEnter_15 : decode cX0_isEnter 15 = .ok (.iconst 1, 1) := by decide +kernel
theorem dX0_isEnter_16 : decode cX0_isEnter 16 = .ok (.goto 4, 3) := by decide +kernel
theorem dX0_isEnter_19 : decode cX0_isEnter 19 = .ok (.iconst 0, 1) := by decide +kernel
theorem dX0_isEnter_20 : decode cX0_isEnter 20 = .ok (.ireturn, 1) := by decide +kernel
set_option maxRecDepth 20000 in
theorem ggX0_giveBack_J9_floorMod_7cf53 : GoodIn wsX0_giveBack wsJ9_floorMod_7cf53 := goodIn_r _ [6] (by decide +kernel) (by decide +kernel)
set_option maxRecDepth 20000 in
theorem gX0_giveBack_J9_floorMod_7cf53 : GoodIn wsX0_giveBack (va_wsS RX0 99 yJ9_floorMod_7cf53 wsJ9_floorMod_7cf53) := goodIn_app (goodIn_of _ (by decide +kernel)) ggX0_giveBack_J9_floorMod_7cf53
set_option maxRecDepth 20000 in
theorem ggX0_giveBack_X0_leastHandle : GoodIn wsX0_giveBack wsX0_leastHandle := goodIn_r _ [11, 12, 13, 14, 15, 16, 17, 18, 19, 20, 21, 22, 23, 24, 25, 26, 27, 28, 29] (by decide +kernel) (by decide +kernel)
set_option maxRecDepth 20000 in
theorem gX0_giveBack_X0_leastHandle : GoodIn wsX0_giveBack (wsV RX0 90 RX0 yX0_leastHandle wsX0_leastHandle) := goodIn_app (goodIn_of _ (by decide +kernel)) ggX0_giveBack_X0_leastHandle
theorem dX0_giveBack_0 : decode cX0_giveBack 0 = .ok (.aload_n 0, 1) := by decide +kernel
theorem dX0_giveBack_1 : decode cX0_giveBack 1 = .ok (.aload_n 0, 1) := by decide +kernel
theorem dX0_giveBack_2 : decode cX0_giveBack 2 = .ok (.getfield 31, 3) := by decide +kernel
theorem dX0_giveBack_5 : decode cX0_giveBack 5 = .ok (.iload_n 1, 1) := by decide +kernel
theorem dX0_giveBack_6 : decode cX0_giveBack 6 = .ok (.iaload, 1) := by decide +kernel
theorem dX0_giveBack_7 : decode cX0_giveBack 7 = .ok (.iconst 5, 1) := by decide +kernel
theorem dX0_giveBack_8 : decode cX0_giveBack 8 = .ok (.invokestatic 99, 3) := by decide +kernel
theorem dX0_giveBack_11 : decode cX0_giveBack 11 = .ok (.invokevirtual 90, 3) := by decide +kernel
theorem dX0_giveBack_14 : decode cX0_giveBack 14 = .ok (.istore_n 2, 1) := by decide +kernel
theorem dX0_giveBack_15 : decode cX0_giveBack 15 = .ok (.aload_n 0, 1) := by decide +kernel
theorem dX0_giveBack_16 : decode cX0_giveBack 16 = .ok (.getfield 55, 3) := by decide +kernel
theorem dX0_giveBack_19 : decode cX0_giveBack 19 = .ok (.iload_n 2, 1) := by decide +kernel
theorem dX0_giveBack_20 : decode cX0_giveBack 20 = .ok (.dup2, 1) := by decide +kernel
theorem dX0_giveBack_21 : decode cX0_giveBack 21 = .ok (.iaload, 1) := by decide +kernel
theorem dX0_giveBack_22 : decode cX0_giveBack 22 = .ok (.iconst 1, 1) := by decide +kernel
theorem dX0_giveBack_23 : decode cX0_giveBack 23 = .ok (.isub, 1) := by decide +kernel
theorem dX0_giveBack_24 : decode cX0_giveBack 24 = .ok (.iastore, 1) := by decide +kernel
theorem dX0_giveBack_25 : decode cX0_giveBack 25 = .ok (.aload_n 0, 1) := by decide +kernel
theorem dX0_giveBack_26 : decode cX0_giveBack 26 = .ok (.getfield 55, 3) := by decide +kernel
theorem dX0_giveBack_29 : decode cX0_giveBack 29 = .ok (.iload_n 2, 1) := by decide +kernel
theorem dX0_giveBack_30 : decode cX0_giveBack 30 = .ok (.iaload, 1) := by decide +kernel
theorem dX0_giveBack_31 : decode cX0_giveBack 31 = .ok (.ireturn, 1) := by decide +kernel
set_option maxRecDepth 20000 in
theorem ggX0_enter_X0_raise : GoodIn wsX0_enter wsX0_raise := goodIn_r _ [7, 8, 13, 14, 15, 16, 17, 18, 19, 20, 21, 22, 23, 24, 25, 26, 27, 28, 29] (by decide +kernel) (by decide +kernel)
set_option maxRecDepth 20000 in
theorem gX0_enter_X0_raise : GoodIn wsX0_enter (wsV RX0 127 RX0 yX0_raise wsX0_raise) := goodIn_app (goodIn_of _ (by decide +kernel)) ggX0_enter_X0_raise
set_option maxRecDepth 20000 in
theorem ggX0_enter_X0_leastHandle : GoodIn wsX0_enter wsX0_leastHandle := goodIn_r _ [12, 1, 13, 14, 15, 16, 17, 18, 19, 20, 21, 22, 23, 24, 25, 26, 27, 28, 29] (by decide +kernel) (by decide +kernel)
set_option maxRecDepth 20000 in
theorem gX0_enter_X0_leastHandle : GoodIn wsX0_enter (wsV RX0 90 RX0 yX0_leastHandle wsX0_leastHandle) := goodIn_app (goodIn_of _ (by decide +kernel)) ggX0_enter_X0_leastHandle
theorem dX0_enter_0 : decode cX0_enter 0 = .ok (.aload_n 0, 1) := by decide +kernel
theorem dX0_enter_1 : decode cX0_enter 1 = .ok (.getfield 9, 3) := by decide +kernel
theorem dX0_enter_4 : decode cX0_enter 4 = .ok (.iload_n 1, 1) := by decide +kernel
theorem dX0_enter_5 : decode cX0_enter 5 = .ok (.iaload, 1) := by decide +kernel
theorem dX0_enter_6 : decode cX0_enter 6 = .ok (.ifCond .ne 9, 3) := by decide +kernel
theorem dX0_enter_9 : decode cX0_enter 9 = .ok (.aload_n 0, 1) := by decide +kernel
theorem dX0_enter_10 : decode cX0_enter 10 = .ok (.iconst 1, 1) := by decide +kernel
theorem dX0_enter_11 : decode cX0_enter 11 = .ok (.invokevirtual 127, 3) := by decide +kernel
theorem dX0_enter_14 : decode cX0_enter 14 = .ok (.ireturn, 1) := by decide +kernel
theorem dX0_enter_15 : decode cX0_enter 15 = .ok (.aload_n 0, 1) := by decide +kernel
theorem dX0_enter_16 : decode cX0_enter 16 = .ok (.iload_n 1, 1) := by decide +kernel
theorem dX0_enter_17 : decode cX0_enter 17 = .ok (.invokevirtual 90, 3) := by decide +kernel
theorem dX0_enter_20 : decode cX0_enter 20 = .ok (.istore_n 2, 1) := by decide +kernel
theorem dX0_enter_21 : decode cX0_enter 21 = .ok (.aload_n 0, 1) := by decide +kernel
theorem dX0_enter_22 : decode cX0_enter 22 = .ok (.getfield 55, 3) := by decide +kernel
theorem dX0_enter_25 : decode cX0_enter 25 = .ok (.iload_n 2, 1) := by decide +kernel
theorem dX0_enter_26 : decode cX0_enter 26 = .ok (.dup2, 1) := by decide +kernel
theorem dX0_enter_27 : decode cX0_enter 27 = .ok (.iaload, 1) := by decide +kernel
theorem dX0_enter_28 : decode cX0_enter 28 = .ok (.iconst 1, 1) := by decide +kernel
theorem dX0_enter_29 : decode cX0_enter 29 = .ok (.iadd, 1) := by decide +kernel
theorem dX0_enter_30 : decode cX0_enter 30 = .ok (.iastore, 1) := by decide +kernel
theorem dX0_enter_31 : decode cX0_enter 31 = .ok (.aload_n 0, 1) := by decide +kernel
theorem dX0_enter_32 : decode cX0_enter 32 = .ok (.getfield 55, 3) := by decide +kernel
theorem dX0_enter_35 : decode cX0_enter 35 = .ok (.iload_n 2, 1) := by decide +kernel
theorem dX0_enter_36 : decode cX0_enter 36 = .ok (.iaload, 1) := by decide +kernel
theorem dX0_enter_37 : decode cX0_enter 37 = .ok (.ireturn, 1) := by decide +kernel
set_option maxRecDepth 20000 in
theorem ggX0_notifyWaiting_X0_raise : GoodIn wsX0_notifyWaiting wsX0_raise := goodIn_r _ [7, 8, 13, 14, 15, 16, 17, 18, 19, 20, 21, 22, 23, 24, 25, 26, 27, 28, 29] (by decide +kernel) (by decide +kernel)
set_option maxRecDepth 20000 in
theorem gX0_notifyWaiting_X0_raise : GoodIn wsX0_notifyWaiting (wsV RX0 127 RX0 yX0_raise wsX0_raise) := goodIn_app (goodIn_of _ (by decide +kernel)) ggX0_notifyWaiting_X0_raise
set_option maxRecDepth 20000 in
theorem ggX0_notifyWaiting_X0_leastHandle : GoodIn wsX0_notifyWaiting wsX0_leastHandle := goodIn_r _ [12, 1, 13, 14, 15, 16, 17, 18, 19, 20, 21, 22, 23, 24, 25, 26, 27, 28, 29] (by decide +kernel) (by decide +kernel)
set_option maxRecDepth 20000 in
theorem gX0_notifyWaiting_X0_leastHandle : GoodIn wsX0_notifyWaiting (wsV RX0 90 RX0 yX0_leastHandle wsX0_leastHandle) := goodIn_app (goodIn_of _ (by decide +kernel)) ggX0_notifyWaiting_X0_leastHandle
theorem dX0_notifyWaiting_0 : decode cX0_notifyWaiting 0 = .ok (.aload_n 0, 1) := by decide +kernel
theorem dX0_notifyWaiting_1 : decode cX0_notifyWaiting 1 = .ok (.getfield 9, 3) := by decide +kernel
theorem dX0_notifyWaiting_4 : decode cX0_notifyWaiting 4 = .ok (.iload_n 1, 1) := by decide +kernel
theorem dX0_notifyWaiting_5 : decode cX0_notifyWaiting 5 = .ok (.iaload, 1) := by decide +kernel
theorem dX0_notifyWaiting_6 : decode cX0_notifyWaiting 6 = .ok (.ifCond .ne 9, 3) := by decide +kernel
theorem dX0_notifyWaiting_9 : decode cX0_notifyWaiting 9 = .ok (.aload_n 0, 1) := by decide +kernel
theorem dX0_notifyWaiting_10 : decode cX0_notifyWaiting 10 = .ok (.iconst 1, 1) := by decide +kernel
theorem dX0_notifyWaiting_11 : decode cX0_notifyWaiting 11 = .ok (.invokevirtual 127, 3) := by decide +kernel
theorem dX0_notifyWaiting_14 : decode cX0_notifyWaiting 14 = .ok (.ireturn, 1) := by decide +kernel
theorem dX0_notifyWaiting_15 : decode cX0_notifyWaiting 15 = .ok (.aload_n 0, 1) := by decide +kernel
theorem dX0_notifyWaiting_16 : decode cX0_notifyWaiting 16 = .ok (.getfield 55, 3) := by decide +kernel
theorem dX0_notifyWaiting_19 : decode cX0_notifyWaiting 19 = .ok (.aload_n 0, 1) := by decide +kernel
theorem dX0_notifyWaiting_20 : decode cX0_notifyWaiting 20 = .ok (.iload_n 1, 1) := by decide +kernel
theorem dX0_notifyWaiting_21 : decode cX0_notifyWaiting 21 = .ok (.invokevirtual 90, 3) := by decide +kernel
theorem dX0_notifyWaiting_24 : decode cX0_notifyWaiting 24 = .ok (.iaload, 1) := by decide +kernel
theorem dX0_notifyWaiting_25 : decode cX0_notifyWaiting 25 = .ok (.ifCond .ne 9, 3) := by decide +kernel
theorem dX0_notifyWaiting_28 : decode cX0_notifyWaiting 28 = .ok (.aload_n 0, 1) := by decide +kernel
theorem dX0_notifyWaiting_29 : decode cX0_notifyWaiting 29 = .ok (.iconst 2, 1) := by decide +kernel
theorem dX0_notifyWaiting_30 : decode cX0_notifyWaiting 30 = .ok (.invokevirtual 127, 3) := by decide +kernel
theorem dX0_notifyWaiting_33 : decode cX0_notifyWaiting 33 = .ok (.ireturn, 1) := by decide +kernel
theorem dX0_notifyWaiting_34 : decode cX0_notifyWaiting 34 = .ok (.iconst 0, 1) := by decide +kernel
theorem dX0_notifyWaiting_35 : decode cX0_notifyWaiting 35 = .ok (.ireturn, 1) := by decide +kernel
set_option maxRecDepth 20000 in
theorem ggX0_holdsLock_X0_raise : GoodIn wsX0_holdsLock wsX0_raise := goodIn_r _ [7, 8, 16, 17, 18, 19, 20, 21, 22, 23, 24, 25, 26, 27, 28, 29, 30, 31, 32] (by decide +kernel) (by decide +kernel)
set_option maxRecDepth 20000 in
theorem gX0_holdsLock_X0_raise : GoodIn wsX0_holdsLock (wsV RX0 127 RX0 yX0_raise wsX0_raise) := goodIn_app (goodIn_of _ (by decide +kernel)) ggX0_holdsLock_X0_raise
set_option maxRecDepth 20000 in
theorem ggX0_holdsLock_X0_leastHandle : GoodIn wsX0_holdsLock wsX0_leastHandle := goodIn_r _ [12, 1, 16, 17, 18, 19, 20, 21, 22, 23, 24, 25, 26, 27, 28, 29, 30, 31, 32] (by decide +kernel) (by decide +kernel)
set_option maxRecDepth 20000 in
theorem gX0_holdsLock_X0_leastHandle : GoodIn wsX0_holdsLock (wsV RX0 90 RX0 yX0_leastHandle wsX0_leastHandle) := goodIn_app (goodIn_of _ (by decide +kernel)) ggX0_holdsLock_X0_leastHandle
set_option maxRecDepth 20000 in
theorem ggX0_holdsLock_X0_asNumber : GoodIn wsX0_holdsLock wsX0_asNumber := goodIn_r _ [15] (by decide +kernel) (by decide +kernel)
set_option maxRecDepth 20000 in
theorem gX0_holdsLock_X0_asNumber : GoodIn wsX0_holdsLock (va_wsS RX0 78 yX0_asNumber wsX0_asNumber) := goodIn_app (goodIn_of _ (by decide +kernel)) ggX0_holdsLock_X0_asNumber
theorem dX0_holdsLock_0 : decode cX0_holdsLock 0 = .ok (.aload_n 0, 1) := by decide +kernel
theorem dX0_holdsLock_1 : decode cX0_holdsLock 1 = .ok (.getfield 9, 3) := by decide +kernel
theorem dX0_holdsLock_4 : decode cX0_holdsLock 4 = .ok (.iload_n 1, 1) := by decide +kernel
theorem dX0_holdsLock_5 : decode cX0_holdsLock 5 = .ok (.iaload, 1) := by decide +kernel
theorem dX0_holdsLock_6 : decode cX0_holdsLock 6 = .ok (.ifCond .ne 9, 3) := by decide +kernel
theorem dX0_holdsLock_9 : decode cX0_holdsLock 9 = .ok (.aload_n 0, 1) := by decide +kernel
theorem dX0_holdsLock_10 : decode cX0_holdsLock 10 = .ok (.iconst 1, 1) := by decide +kernel
theorem dX0_holdsLock_11 : decode cX0_holdsLock 11 = .ok (.invokevirtual 127, 3) := by decide +kernel
theorem dX0_holdsLock_14 : decode cX0_holdsLock 14 = .ok (.ireturn, 1) := by decide +kernel
theorem dX0_holdsLock_15 : decode cX0_holdsLock 15 = .ok (.aload_n 0, 1) := by decide +kernel
theorem dX0_holdsLock_16 : decode cX0_holdsLock 16 = .ok (.getfield 55, 3) := by decide +kernel
theorem dX0_holdsLock_19 : decode cX0_holdsLock 19 = .ok (.aload_n 0, 1) := by decide +kernel
theorem dX0_holdsLock_20 : decode cX0_holdsLock 20 = .ok (.iload_n 1, 1) := by decide +kernel
theorem dX0_holdsLock_21 : decode cX0_holdsLock 21 = .ok (.invokevirtual 90, 3) := by decide +kernel
theorem dX0_holdsLock_24 : decode cX0_holdsLock 24 = .ok (.iaload, 1) := by decide +kernel
theorem dX0_holdsLock_25 : decode cX0_holdsLock 25 = .ok (.ifCond .le 7, 3) := by decide +kernel
theorem dX0_holdsLock_28 : decode cX0_holdsLock 28 = .ok (.iconst 1, 1) := by decide +kernel
theorem dX0_holdsLock_29 : decode cX0_holdsLock 29 = .ok (.goto 4, 3) := by decide +kernel
theorem dX0_holdsLock_32 : decode cX0_holdsLock 32 = .ok (.iconst 0, 1) := by decide +kernel
theorem dX0_holdsLock_33 : decode cX0_holdsLock 33 = .ok (.invokestatic 78, 3) := by decide +kernel
theorem dX0_holdsLock_36 : decode cX0_holdsLock 36 = .ok (.ireturn, 1) := by decide +kernel
set_option maxRecDepth 20000 in
theorem ggX0_awaitNotice_X0_raise : GoodIn wsX0_awaitNotice wsX0_raise := goodIn_r _ [12, 13, 23, 24, 25, 26, 27, 28, 29, 30, 31, 32, 33, 34, 35, 36, 37, 38, 39] (by decide +kernel) (by decide +kernel)
set_option maxRecDepth 20000 in
theorem gX0_awaitNotice_X0_raise : GoodIn wsX0_awaitNotice (wsV RX0 127 RX0 yX0_raise wsX0_raise) := goodIn_app (goodIn_of _ (by decide +kernel)) ggX0_awaitNotice_X0_raise
set_option maxRecDepth 20000 in
theorem ggX0_awaitNotice_X0_leastHandle : GoodIn wsX0_awaitNotice wsX0_leastHandle := goodIn_r _ [17, 6, 23, 24, 25, 26, 27, 28, 29, 30, 31, 32, 33, 34, 35, 36, 37, 38, 39] (by decide +kernel) (by decide +kernel)
set_option maxRecDepth 20000 in
theorem gX0_awaitNotice_X0_leastHandle : GoodIn wsX0_awaitNotice (wsV RX0 90 RX0 yX0_leastHandle wsX0_leastHandle) := goodIn_app (goodIn_of _ (by decide +kernel)) ggX0_awaitNotice_X0_leastHandle
set_option maxRecDepth 20000 in
theorem ggX0_awaitNotice_X0_takeFlag : GoodIn wsX0_awaitNotice wsX0_takeFlag := goodIn_r _ [21, 22, 23, 24, 25, 26, 27, 28, 29, 30, 31, 32, 33, 34, 35, 36, 37, 38, 39] (by decide +kernel) (by decide +kernel)
set_option maxRecDepth 20000 in
theorem gX0_awaitNotice_X0_takeFlag : GoodIn wsX0_awaitNotice (wsV RX0 120 RX0 yX0_takeFlag wsX0_takeFlag) := goodIn_app (goodIn_of _ (by decide +kernel)) ggX0_awaitNotice_X0_takeFlag
theorem dX0_awaitNotice_0 : decode cX0_awaitNotice 0 = .ok (.iload_n 1, 1) := by decide +kernel
theorem dX0_awaitNotice_1 : decode cX0_awaitNotice 1 = .ok (.ldc 141, 2) := by decide +kernel
theorem dX0_awaitNotice_3 : decode cX0_awaitNotice 3 = .ok (.if_icmp .ne 7, 3) := by decide +kernel
theorem dX0_awaitNotice_6 : decode cX0_awaitNotice 6 = .ok (.iconst 0, 1) := by decide +kernel
theorem dX0_awaitNotice_7 : decode cX0_awaitNotice 7 = .ok (.goto 9, 3) := by decide +kernel
theorem dX0_awaitNotice_10 : decode cX0_awaitNotice 10 = .ok (.iload_n 1, 1) := by decide +kernel
theorem dX0_awaitNotice_11 : decode cX0_awaitNotice 11 = .ok (.invokestatic 142, 3) := by decide +kernel
theorem dX0_awaitNotice_14 : decode cX0_awaitNotice 14 = .ok (.iconst 5, 1) := by decide +kernel
theorem dX0_awaitNotice_15 : decode cX0_awaitNotice 15 = .ok (.irem, 1) := by decide +kernel
theorem dX0_awaitNotice_16 : decode cX0_awaitNotice 16 = .ok (.istore_n 2, 1) := by decide +kernel
theorem dX0_awaitNotice_17 : decode cX0_awaitNotice 17 = .ok (.aload_n 0, 1) := by decide +kernel
theorem dX0_awaitNotice_18 : decode cX0_awaitNotice 18 = .ok (.getfield 9, 3) := by decide +kernel
theorem dX0_awaitNotice_21 : decode cX0_awaitNotice 21 = .ok (.iload_n 2, 1) := by decide +kernel
theorem dX0_awaitNotice_22 : decode cX0_awaitNotice 22 = .ok (.iaload, 1) := by decide +kernel
theorem dX0_awaitNotice_23 : decode cX0_awaitNotice 23 = .ok (.ifCond .ne 9, 3) := by decide +kernel
theorem dX0_awaitNotice_26 : decode cX0_awaitNotice 26 = .ok (.aload_n 0, 1) := by decide +kernel
theorem dX0_awaitNotice_27 : decode cX0_awaitNotice 27 = .ok (.iconst 1, 1) := by decide +kernel
theorem dX0_awaitNotice_28 : decode cX0_awaitNotice 28 = .ok (.invokevirtual 127, 3) := by decide +kernel
theorem dX0_awaitNotice_31 : decode cX0_awaitNotice 31 = .ok (.ireturn, 1) := by decide +kernel
theorem dX0_awaitNotice_32 : decode cX0_awaitNotice 32 = .ok (.iload_n 1, 1) := by decide +kernel
theorem dX0_awaitNotice_33 : decode cX0_awaitNotice 33 = .ok (.ifCond .ge 9, 3) := by decide +kernel
theorem dX0_awaitNotice_36 : decode cX0_awaitNotice 36 = .ok (.aload_n 0, 1) := by decide +kernel
theorem dX0_awaitNotice_37 : decode cX0_awaitNotice 37 = .ok (.iconst 3, 1) := by decide +kernel
theorem dX0_awaitNotice_38 : decode cX0_awaitNotice 38 = .ok (.invokevirtual 127, 3) := by decide +kernel
theorem dX0_awaitNotice_41 : decode cX0_awaitNotice 41 = .ok (.ireturn, 1) := by decide +kernel
theorem dX0_awaitNotice_42 : decode cX0_awaitNotice 42 = .ok (.aload_n 0, 1) := by decide +kernel
theorem dX0_awaitNotice_43 : decode cX0_awaitNotice 43 = .ok (.getfield 55, 3) := by decide +kernel
theorem dX0_awaitNotice_46 : decode cX0_awaitNotice 46 = .ok (.aload_n 0, 1) := by decide +kernel
theorem dX0_awaitNotice_47 : decode cX0_awaitNotice 47 = .ok (.iload_n 2, 1) := by decide +kernel
theorem dX0_awaitNotice_48 : decode cX0_awaitNotice 48 = .ok (.invokevirtual 90, 3) := by decide +kernel
theorem dX0_awaitNotice_51 : decode cX0_awaitNotice 51 = .ok (.iaload, 1) := by decide +kernel
theorem dX0_awaitNotice_52 : decode cX0_awaitNotice 52 = .ok (.ifCond .ne 9, 3) := by decide +kernel
theorem dX0_awaitNotice_55 : decode cX0_awaitNotice 55 = .ok (.aload_n 0, 1) := by decide +kernel
theorem dX0_awaitNotice_56 : decode cX0_awaitNotice 56 = .ok (.iconst 2, 1) := by decide +kernel
theorem dX0_awaitNotice_57 : decode cX0_awaitNotice 57 = .ok (.invokevirtual 127, 3) := by decide +kernel
theorem dX0_awaitNotice_60 : decode cX0_awaitNotice 60 = .ok (.ireturn, 1) := by decide +kernel
theorem dX0_awaitNotice_61 : decode cX0_awaitNotice 61 = .ok (.aload_n 0, 1) := by decide +kernel
theorem dX0_awaitNotice_62 : decode cX0_awaitNotice 62 = .ok (.invokevirtual 120, 3) := by decide +kernel
theorem dX0_awaitNotice_65 : decode cX0_awaitNotice 65 = .ok (.ifCond .eq 11, 3) := by decide +kernel
theorem dX0_awaitNotice_68 : decode cX0_awaitNotice 68 = .ok (.aload_n 0, 1) := by decide +kernel
theorem dX0_awaitNotice_69 : decode cX0_awaitNotice 69 = .ok (.iconst 4, 1) := by decide +kernel
theorem dX0_awaitNotice_70 : decode cX0_awaitNotice 70 = .ok (.invokevirtual 127, 3) := by decide +kernel
theorem dX0_awaitNotice_73 : decode cX0_awaitNotice 73 = .ok (.goto 5, 3) := by decide +kernel
theorem dX0_awaitNotice_76 : decode cX0_awaitNotice 76 = .ok (.bipush (-2), 2) := by decide +kernel
theorem dX0_awaitNotice_78 : decode cX0_awaitNotice 78 = .ok (.ireturn, 1) := by decide +kernel
set_option maxRecDepth 20000 in
theorem ggX0_sleep_X0_raise : GoodIn wsX0_sleep wsX0_raise := goodIn_r _ [5, 6, 12, 13, 14, 15, 16, 17, 18, 19, 20, 21, 22, 23, 24, 25, 26, 27, 28] (by decide +kernel) (by decide +kernel)
set_option maxRecDepth 20000 in
theorem gX0_sleep_X0_raise : GoodIn wsX0_sleep (wsV RX0 127 RX0 yX0_raise wsX0_raise) := goodIn_app (goodIn_of _ (by decide +kernel)) ggX0_sleep_X0_raise
set_option maxRecDepth 20000 in
theorem ggX0_sleep_X0_takeFlag : GoodIn wsX0_sleep wsX0_takeFlag := goodIn_r _ [10, 11, 12, 13, 14, 15, 16, 17, 18, 19, 20, 21, 22, 23, 24, 25, 26, 27, 28] (by decide +kernel) (by decide +kernel)
set_option maxRecDepth 20000 in
theorem gX0_sleep_X0_takeFlag : GoodIn wsX0_sleep (wsV RX0 120 RX0 yX0_takeFlag wsX0_takeFlag) := goodIn_app (goodIn_of _ (by decide +kernel)) ggX0_sleep_X0_takeFlag
theorem dX0_sleep_0 : decode cX0_sleep 0 = .ok (.iload_n 1, 1) := by decide +kernel
theorem dX0_sleep_1 : decode cX0_sleep 1 = .ok (.ifCond .ge 9, 3) := by decide +kernel
theorem dX0_sleep_4 : decode cX0_sleep 4 = .ok (.aload_n 0, 1) := by decide +kernel
theorem dX0_sleep_5 : decode cX0_sleep 5 = .ok (.iconst 3, 1) := by decide +kernel
theorem dX0_sleep_6 : decode cX0_sleep 6 = .ok (.invokevirtual 127, 3) := by decide +kernel
theorem dX0_sleep_9 : decode cX0_sleep 9 = .ok (.ireturn, 1) := by decide +kernel
theorem dX0_sleep_10 : decode cX0_sleep 10 = .ok (.aload_n 0, 1) := by decide +kernel
theorem dX0_sleep_11 : decode cX0_sleep 11 = .ok (.invokevirtual 120, 3) := by decide +kernel
theorem dX0_sleep_14 : decode cX0_sleep 14 = .ok (.ifCond .eq 11, 3) := by decide +kernel
theorem dX0_sleep_17 : decode cX0_sleep 17 = .ok (.aload_n 0, 1) := by decide +kernel
theorem dX0_sleep_18 : decode cX0_sleep 18 = .ok (.iconst 4, 1) := by decide +kernel
theorem dX0_sleep_19 : decode cX0_sleep 19 = .ok (.invokevirtual 127, 3) := by decide +kernel
theorem dX0_sleep_22 : decode cX0_sleep 22 = .ok (.goto 4, 3) := by decide +kernel
theorem dX0_sleep_25 : decode cX0_sleep 25 = .ok (.iconst 0, 1) := by decide +kernel
theorem dX0_sleep_26 : decode cX0_sleep 26 = .ok (.ireturn, 1) := by decide +kernel
theorem dX0_takeFlag_0 : decode cX0_takeFlag 0 = .ok (.aload_n 0, 1) := by decide +kernel
theorem dX0_takeFlag_1 : decode cX0_takeFlag 1 = .ok (.getfield 24, 3) := by decide +kernel
theorem dX0_takeFlag_4 : decode cX0_takeFlag 4 = .ok (.istore_n 1, 1) := by decide +kernel
theorem dX0_takeFlag_5 : decode cX0_takeFlag 5 = .ok (.aload_n 0, 1) := by decide +kernel
theorem dX0_takeFlag_6 : decode cX0_takeFlag 6 = .ok (.iconst 0, 1) := by decide +kernel
theorem dX0_takeFlag_7 : decode cX0_takeFlag 7 = .ok (.putfield 24, 3) := by decide +kernel
theorem dX0_takeFlag_10 : decode cX0_takeFlag 10 = .ok (.iload_n 1, 1) := by decide +kernel
theorem dX0_takeFlag_11 : decode cX0_takeFlag 11 = .ok (.ireturn, 1) := by decide +kernel
set_option maxRecDepth 20000 in
theorem ggX0_start_X0_raise : GoodIn wsX0_start wsX0_raise := goodIn_r _ [7, 8, 9, 10, 11, 12, 13, 14, 15, 16, 17, 18, 19, 20, 21, 22, 23, 24, 25] (by decide +kernel) (by decide +kernel)
set_option maxRecDepth 20000 in
theorem gX0_start_X0_raise : GoodIn wsX0_start (wsV RX0 127 RX0 yX0_raise wsX0_raise) := goodIn_app (goodIn_of _ (by decide +kernel)) ggX0_start_X0_raise
theorem dX0_start_0 : decode cX0_start 0 = .ok (.aload_n 0, 1) := by decide +kernel
theorem dX0_start_1 : decode cX0_start 1 = .ok (.getfield 17, 3) := by decide +kernel
theorem dX0_start_4 : decode cX0_start 4 = .ok (.iload_n 1, 1) := by decide +kernel
theorem dX0_start_5 : decode cX0_start 5 = .ok (.baload, 1) := by decide +kernel
theorem dX0_start_6 : decode cX0_start 6 = .ok (.ifCond .eq 9, 3) := by decide +kernel
theorem dX0_start_9 : decode cX0_start 9 = .ok (.aload_n 0, 1) := by decide +kernel
theorem dX0_start_10 : decode cX0_start 10 = .ok (.iconst 5, 1) := by decide +kernel
theorem dX0_start_11 : decode cX0_start 11 = .ok (.invokevirtual 127, 3) := by decide +kernel
theorem dX0_start_14 : decode cX0_start 14 = .ok (.ireturn, 1) := by decide +kernel
theorem dX0_start_15 : decode cX0_start 15 = .ok (.aload_n 0, 1) := by decide +kernel
theorem dX0_start_16 : decode cX0_start 16 = .ok (.getfield 17, 3) := by decide +kernel
theorem dX0_start_19 : decode cX0_start 19 = .ok (.iload_n 1, 1) := by decide +kernel
theorem dX0_start_20 : decode cX0_start 20 = .ok (.iconst 1, 1) := by decide +kernel
theorem dX0_start_21 : decode cX0_start 21 = .ok (.bastore, 1) := by decide +kernel
theorem dX0_start_22 : decode cX0_start 22 = .ok (.aload_n 0, 1) := by decide +kernel
theorem dX0_start_23 : decode cX0_start 23 = .ok (.dup, 1) := by decide +kernel
theorem dX0_start_24 : decode cX0_start 24 = .ok (.getfield 21, 3) := by decide +kernel
theorem dX0_start_27 : decode cX0_start 27 = .ok (.iload_n 1, 1) := by decide +kernel
theorem dX0_start_28 : decode cX0_start 28 = .ok (.iconst 1, 1) := by decide +kernel
theorem dX0_start_29 : decode cX0_start 29 = .ok (.iadd, 1) := by decide +kernel
theorem dX0_start_30 : decode cX0_start 30 = .ok (.iadd, 1) := by decide +kernel
theorem dX0_start_31 : decode cX0_start 31 = .ok (.putfield 21, 3) := by decide +kernel
theorem dX0_start_34 : decode cX0_start 34 = .ok (.iconst 0, 1) := by decide +kernel
theorem dX0_start_35 : decode cX0_start 35 = .ok (.ireturn, 1) := by decide +kernel
theorem dX1_init_0 : decode cX1_init 0 = .ok (.aload_n 0, 1) := by decide +kernel
theorem dX1_init_1 : decode cX1_init 1 = .ok (.invokespecial 1, 3) := by decide +kernel
theorem dX1_init_4 : decode cX1_init 4 = .ok (.aload_n 0, 1) := by decide +kernel
theorem dX1_init_5 : decode cX1_init 5 = .ok (.iconst 5, 1) := by decide +kernel
theorem dX1_init_6 : decode cX1_init 6 = .ok (.newarray .int, 2) := by decide +kernel
theorem dX1_init_8 : decode cX1_init 8 = .ok (.putfield 7, 3) := by decide +kernel
theorem dX1_init_11 : decode cX1_init 11 = .ok (.aload_n 0, 1) := by decide +kernel
theorem dX1_init_12 : decode cX1_init 12 = .ok (.sipush 520, 3) := by decide +kernel
theorem dX1_init_15 : decode cX1_init 15 = .ok (.newarray .int, 2) := by decide +kernel
theorem dX1_init_17 : decode cX1_init 17 = .ok (.putfield 13, 3) := by decide +kernel
theorem dX1_init_20 : decode cX1_init 20 = .ok (.aload_n 0, 1) := by decide +kernel
theorem dX1_init_21 : decode cX1_init 21 = .ok (.iconst 4, 1) := by decide +kernel
theorem dX1_init_22 : decode cX1_init 22 = .ok (.newarray .boolean, 2) := by decide +kernel
theorem dX1_init_24 : decode cX1_init 24 = .ok (.putfield 16, 3) := by decide +kernel
theorem dX1_init_27 : decode cX1_init 27 = .ok (.aload_n 0, 1) := by decide +kernel
theorem dX1_init_28 : decode cX1_init 28 = .ok (.bipush 24, 2) := by decide +kernel
theorem dX1_init_30 : decode cX1_init 30 = .ok (.newarray .int, 2) := by decide +kernel
theorem dX1_init_32 : decode cX1_init 32 = .ok (.putfield 20, 3) := by decide +kernel
theorem dX1_init_35 : decode cX1_init 35 = .ok (.aload_n 0, 1) := by decide +kernel
theorem dX1_init_36 : decode cX1_init 36 = .ok (.bipush 24, 2) := by decide +kernel
theorem dX1_init_38 : decode cX1_init 38 = .ok (.newarray .int, 2) := by decide +kernel
theorem dX1_init_40 : decode cX1_init 40 = .ok (.putfield 23, 3) := by decide +kernel
theorem dX1_init_43 : decode cX1_init 43 = .ok (.aload_n 0, 1) := by decide +kernel
theorem dX1_init_44 : decode cX1_init 44 = .ok (.bipush 24, 2) := by decide +kernel
theorem dX1_init_46 : decode cX1_init 46 = .ok (.newarray .int, 2) := by decide +kernel
theorem dX1_init_48 : decode cX1_init 48 = .ok (.putfield 26, 3) := by decide +kernel
theorem dX1_init_51 : decode cX1_init 51 = .ok (.aload_n 0, 1) := by decide +kernel
theorem dX1_init_52 : decode cX1_init 52 = .ok (.bipush 8, 2) := by decide +kernel
theorem dX1_init_54 : decode cX1_init 54 = .ok (.newarray .int, 2) := by decide +kernel
theorem dX1_init_56 : decode cX1_init 56 = .ok (.putfield 29, 3) := by decide +kernel
theorem dX1_init_59 : decode cX1_init 59 = .ok (.iconst 0, 1) := by decide +kernel
theorem dX1_init_60 : decode cX1_init 60 = .ok (.istore_n 1, 1) := by decide +kernel
theorem dX1_init_61 : decode cX1_init 61 = .ok (.iload_n 1, 1) := by decide +kernel
theorem dX1_init_62 : decode cX1_init 62 = .ok (.bipush 24, 2) := by decide +kernel
theorem dX1_init_64 : decode cX1_init 64 = .ok (.if_icmp .ge 17, 3) := by decide +kernel
theorem dX1_init_67 : decode cX1_init 67 = .ok (.aload_n 0, 1) := by decide +kernel
theorem dX1_init_68 : decode cX1_init 68 = .ok (.getfield 26, 3) := by decide +kernel
theorem dX1_init_71 : decode cX1_init 71 = .ok (.iload_n 1, 1) := by decide +kernel
theorem dX1_init_72 : decode cX1_init 72 = .ok (.bipush (-9), 2) := by decide +kernel
theorem dX1_init_74 : decode cX1_init 74 = .ok (.iastore, 1) := by decide +kernel
theorem dX1_init_75 : decode cX1_init 75 = .ok (.iinc 1 1, 3) := by decide +kernel
theorem dX1_init_78 : decode cX1_init 78 = .ok (.goto (-17), 3) := by decide +kernel
theorem dX1_init_81 : decode cX1_init 81 = .ok (.return_, 1) := by decide +kernel
theorem dX1_in_0 : decode cX1_in 0 = .ok (.iload_n 0, 1) := by decide +kernel
theorem dX1_in_1 : decode cX1_in 1 = .ok (.ifCond .lt 12, 3) := by decide +kernel
theorem dX1_in_4 : decode cX1_in 4 = .ok (.iload_n 0, 1) := by decide +kernel
theorem dX1_in_5 : decode cX1_in 5 = .ok (.iload_n 1, 1) := by decide +kernel
theorem dX1_in_6 : decode cX1_in 6 = .ok (.if_icmp .ge 7, 3) := by decide +kernel
theorem dX1_in_9 : decode cX1_in 9 = .ok (.iconst 1, 1) := by decide +kernel
theorem dX1_in_10 : decode cX1_in 10 = .ok (.goto 4, 3) := by decide +kernel
theorem dX1_in_13 : decode cX1_in 13 = .ok (.iconst 0, 1) := by decide +kernel
theorem dX1_in_14 : decode cX1_in 14 = .ok (.ireturn, 1) := by decide +kernel
theorem dX1_modulo_0 : decode cX1_modulo 0 = .ok (.iload_n 0, 1) := by decide +kernel
theorem dX1_modulo_1 : decode cX1_modulo 1 = .ok (.iload_n 1, 1) := by decide +kernel
theorem dX1_modulo_2 : decode cX1_modulo 2 = .ok (.irem, 1) := by decide +kernel
theorem dX1_modulo_3 : decode cX1_modulo 3 = .ok (.iload_n 1, 1) := by decide +kernel
theorem dX1_modulo_4 : decode cX1_modulo 4 = .ok (.iadd, 1) := by decide +kernel
theorem dX1_modulo_5 : decode cX1_modulo 5 = .ok (.iload_n 1, 1) := by decide +kernel
theorem dX1_modulo_6 : decode cX1_modulo 6 = .ok (.irem, 1) := by decide +kernel
theorem dX1_modulo_7 : decode cX1_modulo 7 = .ok (.ireturn, 1) := by decide +kernel
set_option maxRecDepth 20000 in
theorem ggX1_hold_X1_in : GoodIn wsX1_hold wsX1_in := goodIn_r _ [6] (by decide +kernel) (by decide +kernel)
set_option maxRecDepth 20000 in
theorem gX1_hold_X1_in : GoodIn wsX1_hold (va_wsS RX1 32 yX1_in wsX1_in) := goodIn_app (goodIn_of _ (by decide +kernel)) ggX1_hold_X1_in
theorem dX1_hold_0 : decode cX1_hold 0 = .ok (.iload_n 1, 1) := by decide +kernel
theorem dX1_hold_1 : decode cX1_hold 1 = .ok (.iconst 5, 1) := by decide +kernel
theorem dX1_hold_2 : decode cX1_hold 2 = .ok (.invokestatic 32, 3) := by decide +kernel
theorem dX1_hold_5 : decode cX1_hold 5 = .ok (.ifCond .eq 14, 3) := by decide +kernel
theorem dX1_hold_8 : decode cX1_hold 8 = .ok (.iload_n 2, 1) := by decide +kernel
theorem dX1_hold_9 : decode cX1_hold 9 = .ok (.bipush (-2), 2) := by decide +kernel
theorem dX1_hold_11 : decode cX1_hold 11 = .ok (.if_icmp .lt 8, 3) := by decide +kernel
theorem dX1_hold_14 : decode cX1_hold 14 = .ok (.iload_n 2, 1) := by decide +kernel
theorem dX1_hold_15 : decode cX1_hold 15 = .ok (.iconst 4, 1) := by decide +kernel
theorem dX1_hold_16 : decode cX1_hold 16 = .ok (.if_icmp .le 5, 3) := by decide +kernel
theorem dX1_hold_19 : decode cX1_hold 19 = .ok (.iconst (-1), 1) := by decide +kernel
theorem dX1_hold_20 : decode cX1_hold 20 = .ok (.ireturn, 1) := by decide +kernel
theorem dX1_hold_21 : decode cX1_hold 21 = .ok (.iload_n 2, 1) := by decide +kernel
theorem dX1_hold_22 : decode cX1_hold 22 = .ok (.bipush (-2), 2) := by decide +kernel
theorem dX1_hold_24 : decode cX1_hold 24 = .ok (.if_icmp .ne 26, 3) := by decide +kernel
theorem dX1_hold_27 : decode cX1_hold 27 = .ok (.aload_n 0, 1) := by decide +kernel
theorem dX1_hold_28 : decode cX1_hold 28 = .ok (.dup, 1) := by decide +kernel
theorem dX1_hold_29 : decode cX1_hold 29 = .ok (.getfield 36, 3) := by decide +kernel
theorem dX1_hold_32 : decode cX1_hold 32 = .ok (.iconst 1, 1) := by decide +kernel
theorem dX1_hold_33 : decode cX1_hold 33 = .ok (.iadd, 1) := by decide +kernel
theorem dX1_hold_34 : decode cX1_hold 34 = .ok (.putfield 36, 3) := by decide +kernel
theorem dX1_hold_37 : decode cX1_hold 37 = .ok (.aload_n 0, 1) := by decide +kernel
theorem dX1_hold_38 : decode cX1_hold 38 = .ok (.getfield 7, 3) := by decide +kernel
theorem dX1_hold_41 : decode cX1_hold 41 = .ok (.iload_n 1, 1) := by decide +kernel
theorem dX1_hold_42 : decode cX1_hold 42 = .ok (.aload_n 0, 1) := by decide +kernel
theorem dX1_hold_43 : decode cX1_hold 43 = .ok (.getfield 36, 3) := by decide +kernel
theorem dX1_hold_46 : decode cX1_hold 46 = .ok (.iastore, 1) := by decide +kernel
theorem dX1_hold_47 : decode cX1_hold 47 = .ok (.goto 24, 3) := by decide +kernel
theorem dX1_hold_50 : decode cX1_hold 50 = .ok (.aload_n 0, 1) := by decide +kernel
theorem dX1_hold_51 : decode cX1_hold 51 = .ok (.getfield 7, 3) := by decide +kernel
theorem dX1_hold_54 : decode cX1_hold 54 = .ok (.iload_n 1, 1) := by decide +kernel
theorem dX1_hold_55 : decode cX1_hold 55 = .ok (.iload_n 2, 1) := by decide +kernel
theorem dX1_hold_56 : decode cX1_hold 56 = .ok (.iconst (-1), 1) := by decide +kernel
theorem dX1_hold_57 : decode cX1_hold 57 = .ok (.if_icmp .ne 7, 3) := by decide +kernel
theorem dX1_hold_60 : decode cX1_hold 60 = .ok (.iconst 0, 1) := by decide +kernel
theorem dX1_hold_61 : decode cX1_hold 61 = .ok (.goto 9, 3) := by decide +kernel
theorem dX1_hold_64 : decode cX1_hold 64 = .ok (.aload_n 0, 1) := by decide +kernel
theorem dX1_hold_65 : decode cX1_hold 65 = .ok (.getfield 7, 3) := by decide +kernel
theorem dX1_hold_68 : decode cX1_hold 68 = .ok (.iload_n 2, 1) := by decide +kernel
theorem dX1_hold_69 : decode cX1_hold 69 = .ok (.iaload, 1) := by decide +kernel
theorem dX1_hold_70 : decode cX1_hold 70 = .ok (.iastore, 1) := by decide +kernel
theorem dX1_hold_71 : decode cX1_hold 71 = .ok (.iconst 0, 1) := by decide +kernel
theorem dX1_hold_72 : decode cX1_hold 72 = .ok (.ireturn, 1) := by decide +kernel
set_option maxRecDepth 20000 in
theorem ggX1_step_X1_in : GoodIn wsX1_step wsX1_in := goodIn_r _ [8] (by decide +kernel) (by decide +kernel)
set_option maxRecDepth 20000 in
theorem gX1_step_X1_in : GoodIn wsX1_step (va_wsS RX1 32 yX1_in wsX1_in) := goodIn_app (goodIn_of _ (by decide +kernel)) ggX1_step_X1_in
theorem dX1_step_0 : decode cX1_step 0 = .ok (.iload_n 1, 1) := by decide +kernel
theorem dX1_step_1 : decode cX1_step 1 = .ok (.bipush 16, 2) := by decide +kernel
theorem dX1_step_3 : decode cX1_step 3 = .ok (.invokestatic 32, 3) := by decide +kernel
theorem dX1_step_6 : decode cX1_step 6 = .ok (.ifCond .eq 12, 3) := by decide +kernel
theorem dX1_step_9 : decode cX1_step 9 = .ok (.aload_n 0, 1) := by decide +kernel
theorem dX1_step_10 : decode cX1_step 10 = .ok (.getfield 40, 3) := by decide +kernel
theorem dX1_step_13 : decode cX1_step 13 = .ok (.bipush 24, 2) := by decide +kernel
theorem dX1_step_15 : decode cX1_step 15 = .ok (.if_icmp .ne 5, 3) := by decide +kernel
theorem dX1_step_18 : decode cX1_step 18 = .ok (.iconst (-1), 1) := by decide +kernel
theorem dX1_step_19 : decode cX1_step 19 = .ok (.ireturn, 1) := by decide +kernel
theorem dX1_step_20 : decode cX1_step 20 = .ok (.iload_n 1, 1) := by decide +kernel
theorem dX1_step_21 : decode cX1_step 21 = .ok (.iconst 1, 1) := by decide +kernel
theorem dX1_step_22 : decode cX1_step 22 = .ok (.if_icmp .eq 8, 3) := by decide +kernel
theorem dX1_step_25 : decode cX1_step 25 = .ok (.iload_n 1, 1) := by decide +kernel
theorem dX1_step_26 : decode cX1_step 26 = .ok (.iconst 2, 1) := by decide +kernel
theorem dX1_step_27 : decode cX1_step 27 = .ok (.if_icmp .ne 7, 3) := by decide +kernel
theorem dX1_step_30 : decode cX1_step 30 = .ok (.iconst 1, 1) := by decide +kernel
theorem dX1_step_31 : decode cX1_step 31 = .ok (.goto 4, 3) := by decide +kernel
theorem dX1_step_34 : decode cX1_step 34 = .ok (.iconst 0, 1) := by decide +kernel
theorem dX1_step_35 : decode cX1_step 35 = .ok (.istore_n 3, 1) := by decide +kernel
theorem dX1_step_36 : decode cX1_step 36 = .ok (.iload_n 1, 1) := by decide +kernel
theorem dX1_step_37 : decode cX1_step 37 = .ok (.ifCond .ne 10, 3) := by decide +kernel
theorem dX1_step_40 : decode cX1_step 40 = .ok (.aload_n 0, 1) := by decide +kernel
theorem dX1_step_41 : decode cX1_step 41 = .ok (.getfield 43, 3) := by decide +kernel
theorem dX1_step_44 : decode cX1_step 44 = .ok (.ifCond .eq 16, 3) := by decide +kernel
theorem dX1_step_47 : decode cX1_step 47 = .ok (.iload_n 3, 1) := by decide +kernel
theorem dX1_step_48 : decode cX1_step 48 = .ok (.ifCond .eq 14, 3) := by decide +kernel
theorem dX1_step_51 : decode cX1_step 51 = .ok (.aload_n 0, 1) := by decide +kernel
theorem dX1_step_52 : decode cX1_step 52 = .ok (.getfield 43, 3) := by decide +kernel
theorem dX1_step_55 : decode cX1_step 55 = .ok (.bipush 8, 2) := by decide +kernel
theorem dX1_step_57 : decode cX1_step 57 = .ok (.if_icmp .ne 5, 3) := by decide +kernel
theorem dX1_step_60 : decode cX1_step 60 = .ok (.iconst (-1), 1) := by decide +kernel
theorem dX1_step_61 : decode cX1_step 61 = .ok (.ireturn, 1) := by decide +kernel
theorem dX1_step_62 : decode cX1_step 62 = .ok (.aload_n 0, 1) := by decide +kernel
theorem dX1_step_63 : decode cX1_step 63 = .ok (.getfield 20, 3) := by decide +kernel
theorem dX1_step_66 : decode cX1_step 66 = .ok (.aload_n 0, 1) := by decide +kernel
theorem dX1_step_67 : decode cX1_step 67 = .ok (.getfield 40, 3) := by decide +kernel
theorem dX1_step_70 : decode cX1_step 70 = .ok (.iload_n 1, 1) := by decide +kernel
theorem dX1_step_71 : decode cX1_step 71 = .ok (.iastore, 1) := by decide +kernel
theorem dX1_step_72 : decode cX1_step 72 = .ok (.aload_n 0, 1) := by decide +kernel
theorem dX1_step_73 : decode cX1_step 73 = .ok (.getfield 23, 3) := by decide +kernel
theorem dX1_step_76 : decode cX1_step 76 = .ok (.aload_n 0, 1) := by decide +kernel
theorem dX1_step_77 : decode cX1_step 77 = .ok (.getfield 40, 3) := by decide +kernel
theorem dX1_step_80 : decode cX1_step 80 = .ok (.iload_n 2, 1) := by decide +kernel
theorem dX1_step_81 : decode cX1_step 81 = .ok (.iastore, 1) := by decide +kernel
theorem dX1_step_82 : decode cX1_step 82 = .ok (.aload_n 0, 1) := by decide +kernel
theorem dX1_step_83 : decode cX1_step 83 = .ok (.dup, 1) := by decide +kernel
theorem dX1_step_84 : decode cX1_step 84 = .ok (.getfield 40, 3) := by decide +kernel
theorem dX1_step_87 : decode cX1_step 87 = .ok (.iconst 1, 1) := by decide +kernel
theorem dX1_step_88 : decode cX1_step 88 = .ok (.iadd, 1) := by decide +kernel
theorem dX1_step_89 : decode cX1_step 89 = .ok (.putfield 40, 3) := by decide +kernel
theorem dX1_step_92 : decode cX1_step 92 = .ok (.iload_n 3, 1) := by decide +kernel
theorem dX1_step_93 : decode cX1_step 93 = .ok (.ifCond .eq 13, 3) := by decide +kernel
theorem dX1_step_96 : decode cX1_step 96 = .ok (.aload_n 0, 1) := by decide +kernel
theorem dX1_step_97 : decode cX1_step 97 = .ok (.dup, 1) := by decide +kernel
theorem dX1_step_98 : decode cX1_step 98 = .ok (.getfield 43, 3) := by decide +kernel
theorem dX1_step_101 : decode cX1_step 101 = .ok (.iconst 1, 1) := by decide +kernel
theorem dX1_step_102 : decode cX1_step 102 = .ok (.iadd, 1) := by decide +kernel
theorem dX1_step_103 : decode cX1_step 103 = .ok (.putfield 43, 3) := by decide +kernel
theorem dX1_step_106 : decode cX1_step 106 = .ok (.iload_n 1, 1) := by decide +kernel
theorem dX1_step_107 : decode cX1_step 107 = .ok (.ifCond .ne 13, 3) := by decide +kernel
theorem dX1_step_110 : decode cX1_step 110 = .ok (.aload_n 0, 1) := by decide +kernel
theorem dX1_step_111 : decode cX1_step 111 = .ok (.dup, 1) := by decide +kernel
theorem dX1_step_112 : decode cX1_step 112 = .ok (.getfield 43, 3) := by decide +kernel
theorem dX1_step_115 : decode cX1_step 115 = .ok (.iconst 1, 1) := by decide +kernel
theorem dX1_step_116 : decode cX1_step 116 = .ok (.isub, 1) := by decide +kernel
theorem dX1_step_117 : decode cX1_step 117 = .ok (.putfield 43, 3) := by decide +kernel
theorem dX1_step_120 : decode cX1_step 120 = .ok (.aload_n 0, 1) := by decide +kernel
theorem dX1_step_121 : decode cX1_step 121 = .ok (.getfield 40, 3) := by decide +kernel
theorem dX1_step_124 : decode cX1_step 124 = .ok (.ireturn, 1) := by decide +kernel
theorem dX1_clear_0 : decode cX1_clear 0 = .ok (.aload_n 0, 1) := by decide +kernel
theorem dX1_clear_1 : decode cX1_clear 1 = .ok (.getfield 40, 3) := by decide +kernel
theorem dX1_clear_4 : decode cX1_clear 4 = .ok (.istore_n 1, 1) := by decide +kernel
theorem dX1_clear_5 : decode cX1_clear 5 = .ok (.aload_n 0, 1) := by decide +kernel
theorem dX1_clear_6 : decode cX1_clear 6 = .ok (.iconst 0, 1) := by decide +kernel
theorem dX1_clear_7 : decode cX1_clear 7 = .ok (.putfield 40, 3) := by decide +kernel
theorem dX1_clear_10 : decode cX1_clear 10 = .ok (.aload_n 0, 1) := by decide +kernel
theorem dX1_clear_11 : decode cX1_clear 11 = .ok (.iconst 0, 1) := by decide +kernel
theorem dX1_clear_12 : decode cX1_clear 12 = .ok (.putfield 43, 3) := by decide +kernel
theorem dX1_clear_15 : decode cX1_clear 15 = .ok (.iload_n 1, 1) := by decide +kernel
theorem dX1_clear_16 : decode cX1_clear 16 = .ok (.ireturn, 1) := by decide +kernel
theorem dX1_behind_0 : decode cX1_behind 0 = .ok (.iconst 0, 1) := by decide +kernel
theorem dX1_behind_1 : decode cX1_behind 1 = .ok (.istore_n 2, 1) := by decide +kernel
theorem dX1_behind_2 : decode cX1_behind 2 = .ok (.iload_n 1, 1) := by decide +kernel
theorem dX1_behind_3 : decode cX1_behind 3 = .ok (.istore_n 3, 1) := by decide +kernel
theorem dX1_behind_4 : decode cX1_behind 4 = .ok (.iload_n 3, 1) := by decide +kernel
theorem dX1_behind_5 : decode cX1_behind 5 = .ok (.aload_n 0, 1) := by decide +kernel
theorem dX1_behind_6 : decode cX1_behind 6 = .ok (.getfield 40, 3) := by decide +kernel
theorem dX1_behind_9 : decode cX1_behind 9 = .ok (.if_icmp .ge 52, 3) := by decide +kernel
theorem dX1_behind_12 : decode cX1_behind 12 = .ok (.aload_n 0, 1) := by decide +kernel
theorem dX1_behind_13 : decode cX1_behind 13 = .ok (.getfield 20, 3) := by decide +kernel
theorem dX1_behind_16 : decode cX1_behind 16 = .ok (.iload_n 3, 1) := by decide +kernel
theorem dX1_behind_17 : decode cX1_behind 17 = .ok (.iaload, 1) := by decide +kernel
theorem dX1_behind_18 : decode cX1_behind 18 = .ok (.iconst 1, 1) := by decide +kernel
theorem dX1_behind_19 : decode cX1_behind 19 = .ok (.if_icmp .eq 13, 3) := by decide +kernel
theorem dX1_behind_22 : decode cX1_behind 22 = .ok (.aload_n 0, 1) := by decide +kernel
theorem dX1_behind_23 : decode cX1_behind 23 = .ok (.getfield 20, 3) := by decide +kernel
theorem dX1_behind_26 : decode cX1_behind 26 = .ok (.iload_n 3, 1) := by decide +kernel
theorem dX1_behind_27 : decode cX1_behind 27 = .ok (.iaload, 1) := by decide +kernel
theorem dX1_behind_28 : decode cX1_behind 28 = .ok (.iconst 2, 1) := by decide +kernel
theorem dX1_behind_29 : decode cX1_behind 29 = .ok (.if_icmp .ne 6, 3) := by decide +kernel
theorem dX1_behind_32 : decode cX1_behind 32 = .ok (.iinc 2 1, 3) := by decide +kernel
theorem dX1_behind_35 : decode cX1_behind 35 = .ok (.aload_n 0, 1) := by decide +kernel
theorem dX1_behind_36 : decode cX1_behind 36 = .ok (.getfield 20, 3) := by decide +kernel
theorem dX1_behind_39 : decode cX1_behind 39 = .ok (.iload_n 3, 1) := by decide +kernel
theorem dX1_behind_40 : decode cX1_behind 40 = .ok (.iaload, 1) := by decide +kernel
theorem dX1_behind_41 : decode cX1_behind 41 = .ok (.ifCond .ne 14, 3) := by decide +kernel
theorem dX1_behind_44 : decode cX1_behind 44 = .ok (.iinc 2 (-1), 3) := by decide +kernel
theorem dX1_behind_47 : decode cX1_behind 47 = .ok (.iload_n 2, 1) := by decide +kernel
theorem dX1_behind_48 : decode cX1_behind 48 = .ok (.ifCond .ne 7, 3) := by decide +kernel
theorem dX1_behind_51 : decode cX1_behind 51 = .ok (.iload_n 3, 1) := by decide +kernel
theorem dX1_behind_52 : decode cX1_behind 52 = .ok (.iconst 1, 1) := by decide +kernel
theorem dX1_behind_53 : decode cX1_behind 53 = .ok (.iadd, 1) := by decide +kernel
theorem dX1_behind_54 : decode cX1_behind 54 = .ok (.ireturn, 1) := by decide +kernel
theorem dX1_behind_55 : decode cX1_behind 55 = .ok (.iinc 3 1, 3) := by decide +kernel
theorem dX1_behind_58 : decode cX1_behind 58 = .ok (.goto (-54), 3) := by decide +kernel
theorem dX1_behind_61 : decode cX1_behind 61 = .ok (.aload_n 0, 1) := by decide +kernel
theorem dX1_behind_62 : decode cX1_behind 62 = .ok (.getfield 40, 3) := by decide +kernel
theorem dX1_behind_65 : decode cX1_behind 65 = .ok (.ireturn, 1) := by decide +kernel
set_option maxRecDepth 20000 in
theorem ggX1_lockOf_X1_modulo : GoodIn wsX1_lockOf wsX1_modulo := goodIn_r _ [6] (by decide +kernel) (by decide +kernel)
set_option maxRecDepth 20000 in
theorem gX1_lockOf_X1_modulo : GoodIn wsX1_lockOf (va_wsS RX1 46 yX1_modulo wsX1_modulo) := goodIn_app (goodIn_of _ (by decide +kernel)) ggX1_lockOf_X1_modulo
theorem dX1_lockOf_0 : decode cX1_lockOf 0 = .ok (.aload_n 0, 1) := by decide +kernel
theorem dX1_lockOf_1 : decode cX1_lockOf 1 = .ok (.getfield 7, 3) := by decide +kernel
theorem dX1_lockOf_4 : decode cX1_lockOf 4 = .ok (.aload_n 0, 1) := by decide +kernel
theorem dX1_lockOf_5 : decode cX1_lockOf 5 = .ok (.getfield 23, 3) := by decide +kernel
theorem dX1_lockOf_8 : decode cX1_lockOf 8 = .ok (.iload_n 1, 1) := by decide +kernel
theorem dX1_lockOf_9 : decode cX1_lockOf 9 = .ok (.iaload, 1) := by decide +kernel
theorem dX1_lockOf_10 : decode cX1_lockOf 10 = .ok (.iconst 5, 1) := by decide +kernel
theorem dX1_lockOf_11 : decode cX1_lockOf 11 = .ok (.invokestatic 46, 3) := by decide +kernel
theorem dX1_lockOf_14 : decode cX1_lockOf 14 = .ok (.iaload, 1) := by decide +kernel
theorem dX1_lockOf_15 : decode cX1_lockOf 15 = .ok (.ireturn, 1) := by decide +kernel
set_option maxRecDepth 20000 in
theorem ggX1_monitor_X1_lockOf : GoodIn wsX1_monitor wsX1_lockOf := goodIn_r _ [7, 8, 9, 10, 11, 6, 12, 13, 14, 15, 16, 17, 18, 19, 20, 21, 22, 23, 24, 25, 26, 27] (by decide +kernel) (by decide +kernel)
set_option maxRecDepth 20000 in
theorem gX1_monitor_X1_lockOf : GoodIn wsX1_monitor (wsV RX1 50 RX1 yX1_lockOf wsX1_lockOf) := goodIn_app (goodIn_of _ (by decide +kernel)) ggX1_monitor_X1_lockOf
theorem dX1_monitor_0 : decode cX1_monitor 0 = .ok (.aload_n 0, 1) := by decide +kernel
theorem dX1_monitor_1 : decode cX1_monitor 1 = .ok (.iload_n 1, 1) := by decide +kernel
theorem dX1_monitor_2 : decode cX1_monitor 2 = .ok (.invokevirtual 50, 3) := by decide +kernel
theorem dX1_monitor_5 : decode cX1_monitor 5 = .ok (.istore_n 3, 1) := by decide +kernel
theorem dX1_monitor_6 : decode cX1_monitor 6 = .ok (.iload_n 3, 1) := by decide +kernel
theorem dX1_monitor_7 : decode cX1_monitor 7 = .ok (.ifCond .ne 11, 3) := by decide +kernel
theorem dX1_monitor_10 : decode cX1_monitor 10 = .ok (.aload_n 0, 1) := by decide +kernel
theorem dX1_monitor_11 : decode cX1_monitor 11 = .ok (.iconst 1, 1) := by decide +kernel
theorem dX1_monitor_12 : decode cX1_monitor 12 = .ok (.putfield 54, 3) := by decide +kernel
theorem dX1_monitor_15 : decode cX1_monitor 15 = .ok (.goto 21, 3) := by decide +kernel
theorem dX1_monitor_18 : decode cX1_monitor 18 = .ok (.iload_n 2, 1) := by decide +kernel
theorem dX1_monitor_19 : decode cX1_monitor 19 = .ok (.ifCond .ne 17, 3) := by decide +kernel
theorem dX1_monitor_22 : decode cX1_monitor 22 = .ok (.aload_n 0, 1) := by decide +kernel
theorem dX1_monitor_23 : decode cX1_monitor 23 = .ok (.getfield 13, 3) := by decide +kernel
theorem dX1_monitor_26 : decode cX1_monitor 26 = .ok (.iload_n 3, 1) := by decide +kernel
theorem dX1_monitor_27 : decode cX1_monitor 27 = .ok (.iaload, 1) := by decide +kernel
theorem dX1_monitor_28 : decode cX1_monitor 28 = .ok (.ifCond .ne 8, 3) := by decide +kernel
theorem dX1_monitor_31 : decode cX1_monitor 31 = .ok (.aload_n 0, 1) := by decide +kernel
theorem dX1_monitor_32 : decode cX1_monitor 32 = .ok (.iconst 2, 1) := by decide +kernel
theorem dX1_monitor_33 : decode cX1_monitor 33 = .ok (.putfield 54, 3) := by decide +kernel
theorem dX1_monitor_36 : decode cX1_monitor 36 = .ok (.iload_n 3, 1) := by decide +kernel
theorem dX1_monitor_37 : decode cX1_monitor 37 = .ok (.ireturn, 1) := by decide +kernel
set_option maxRecDepth 20000 in
theorem ggX1_pause_X1_interrupted : GoodIn wsX1_pause wsX1_interrupted := goodIn_r _ [10, 11, 4, 12, 13, 14, 15, 16, 17, 18, 19, 20, 21, 22, 23, 24, 25, 26] (by decide +kernel) (by decide +kernel)
set_option maxRecDepth 20000 in
theorem gX1_pause_X1_interrupted : GoodIn wsX1_pause (wsV RX1 58 RX1 yX1_interrupted wsX1_interrupted) := goodIn_app (goodIn_of _ (by decide +kernel)) ggX1_pause_X1_interrupted
theorem dX1_pause_0 : decode cX1_pause 0 = .ok (.aload_n 0, 1) := by decide +kernel
theorem dX1_pause_1 : decode cX1_pause 1 = .ok (.getfield 23, 3) := by decide +kernel
theorem dX1_pause_4 : decode cX1_pause 4 = .ok (.iload_n 1, 1) := by decide +kernel
theorem dX1_pause_5 : decode cX1_pause 5 = .ok (.iaload, 1) := by decide +kernel
theorem dX1_pause_6 : decode cX1_pause 6 = .ok (.istore_n 2, 1) := by decide +kernel
theorem dX1_pause_7 : decode cX1_pause 7 = .ok (.iload_n 2, 1) := by decide +kernel
theorem dX1_pause_8 : decode cX1_pause 8 = .ok (.ldc 57, 2) := by decide +kernel
theorem dX1_pause_10 : decode cX1_pause 10 = .ok (.if_icmp .ne 7, 3) := by decide +kernel
theorem dX1_pause_13 : decode cX1_pause 13 = .ok (.iconst 0, 1) := by decide +kernel
theorem dX1_pause_14 : decode cX1_pause 14 = .ok (.goto 13, 3) := by decide +kernel
theorem dX1_pause_17 : decode cX1_pause 17 = .ok (.iload_n 2, 1) := by decide +kernel
theorem dX1_pause_18 : decode cX1_pause 18 = .ok (.ifCond .ge 8, 3) := by decide +kernel
theorem dX1_pause_21 : decode cX1_pause 21 = .ok (.iload_n 2, 1) := by decide +kernel
theorem dX1_pause_22 : decode cX1_pause 22 = .ok (.ineg, 1) := by decide +kernel
theorem dX1_pause_23 : decode cX1_pause 23 = .ok (.goto 4, 3) := by decide +kernel
theorem dX1_pause_26 : decode cX1_pause 26 = .ok (.iload_n 2, 1) := by decide +kernel
theorem dX1_pause_27 : decode cX1_pause 27 = .ok (.istore_n 3, 1) := by decide +kernel
theorem dX1_pause_28 : decode cX1_pause 28 = .ok (.aload_n 0, 1) := by decide +kernel
theorem dX1_pause_29 : decode cX1_pause 29 = .ok (.getfield 7, 3) := by decide +kernel
theorem dX1_pause_32 : decode cX1_pause 32 = .ok (.iload_n 3, 1) := by decide +kernel
theorem dX1_pause_33 : decode cX1_pause 33 = .ok (.iconst 5, 1) := by decide +kernel
theorem dX1_pause_34 : decode cX1_pause 34 = .ok (.irem, 1) := by decide +kernel
theorem dX1_pause_35 : decode cX1_pause 35 = .ok (.iaload, 1) := by decide +kernel
theorem dX1_pause_36 : decode cX1_pause 36 = .ok (.istore 4, 2) := by decide +kernel
theorem dX1_pause_38 : decode cX1_pause 38 = .ok (.iload 4, 2) := by decide +kernel
theorem dX1_pause_40 : decode cX1_pause 40 = .ok (.ifCond .ne 11, 3) := by decide +kernel
theorem dX1_pause_43 : decode cX1_pause 43 = .ok (.aload_n 0, 1) := by decide +kernel
theorem dX1_pause_44 : decode cX1_pause 44 = .ok (.iconst 1, 1) := by decide +kernel
theorem dX1_pause_45 : decode cX1_pause 45 = .ok (.putfield 54, 3) := by decide +kernel
theorem dX1_pause_48 : decode cX1_pause 48 = .ok (.goto 37, 3) := by decide +kernel
theorem dX1_pause_51 : decode cX1_pause 51 = .ok (.iload_n 2, 1) := by decide +kernel
theorem dX1_pause_52 : decode cX1_pause 52 = .ok (.ifCond .ge 11, 3) := by decide +kernel
theorem dX1_pause_55 : decode cX1_pause 55 = .ok (.aload_n 0, 1) := by decide +kernel
theorem dX1_pause_56 : decode cX1_pause 56 = .ok (.iconst 3, 1) := by decide +kernel
theorem dX1_pause_57 : decode cX1_pause 57 = .ok (.putfield 54, 3) := by decide +kernel
theorem dX1_pause_60 : decode cX1_pause 60 = .ok (.goto 25, 3) := by decide +kernel
theorem dX1_pause_63 : decode cX1_pause 63 = .ok (.aload_n 0, 1) := by decide +kernel
theorem dX1_pause_64 : decode cX1_pause 64 = .ok (.getfield 13, 3) := by decide +kernel
theorem dX1_pause_67 : decode cX1_pause 67 = .ok (.iload 4, 2) := by decide +kernel
theorem dX1_pause_69 : decode cX1_pause 69 = .ok (.iaload, 1) := by decide +kernel
theorem dX1_pause_70 : decode cX1_pause 70 = .ok (.ifCond .ne 11, 3) := by decide +kernel
theorem dX1_pause_73 : decode cX1_pause 73 = .ok (.aload_n 0, 1) := by decide +kernel
theorem dX1_pause_74 : decode cX1_pause 74 = .ok (.iconst 2, 1) := by decide +kernel
theorem dX1_pause_75 : decode cX1_pause 75 = .ok (.putfield 54, 3) := by decide +kernel
theorem dX1_pause_78 : decode cX1_pause 78 = .ok (.goto 7, 3) := by decide +kernel
theorem dX1_pause_81 : decode cX1_pause 81 = .ok (.aload_n 0, 1) := by decide +kernel
theorem dX1_pause_82 : decode cX1_pause 82 = .ok (.invokevirtual 58, 3) := by decide +kernel
theorem dX1_pause_85 : decode cX1_pause 85 = .ok (.bipush (-2), 2) := by decide +kernel
theorem dX1_pause_87 : decode cX1_pause 87 = .ok (.ireturn, 1) := by decide +kernel
theorem dX1_interrupted_0 : decode cX1_interrupted 0 = .ok (.aload_n 0, 1) := by decide +kernel
theorem dX1_interrupted_1 : decode cX1_interrupted 1 = .ok (.getfield 61, 3) := by decide +kernel
theorem dX1_interrupted_4 : decode cX1_interrupted 4 = .ok (.ifCond .eq 8, 3) := by decide +kernel
theorem dX1_interrupted_7 : decode cX1_interrupted 7 = .ok (.aload_n 0, 1) := by decide +kernel
theorem dX1_interrupted_8 : decode cX1_interrupted 8 = .ok (.iconst 4, 1) := by decide +kernel
theorem dX1_interrupted_9 : decode cX1_interrupted 9 = .ok (.putfield 54, 3) := by decide +kernel
theorem dX1_interrupted_12 : decode cX1_interrupted 12 = .ok (.aload_n 0, 1) := by decide +kernel
theorem dX1_interrupted_13 : decode cX1_interrupted 13 = .ok (.iconst 0, 1) := by decide +kernel
theorem dX1_interrupted_14 : decode cX1_interrupted 14 = .ok (.putfield 61, 3) := by decide +kernel
theorem dX1_interrupted_17 : decode cX1_interrupted 17 = .ok (.return_, 1) := by decide +kernel
set_option maxRecDepth 20000 in
theorem ggX1_close_X1_lockOf : GoodIn wsX1_close wsX1_lockOf := goodIn_r _ [9, 10, 11, 12, 13, 8, 14, 15, 16, 17, 18, 19, 20, 21, 22, 23, 24, 25, 26, 27, 28, 29] (by decide +kernel) (by decide +kernel)
set_option maxRecDepth 20000 in
theorem gX1_close_X1_lockOf : GoodIn wsX1_close (wsV RX1 50 RX1 yX1_lockOf wsX1_lockOf) := goodIn_app (goodIn_of _ (by decide +kernel)) ggX1_close_X1_lockOf
theorem dX1_close_0 : decode cX1_close 0 = .ok (.aload_n 0, 1) := by decide +kernel
theorem dX1_close_1 : decode cX1_close 1 = .ok (.dup, 1) := by decide +kernel
theorem dX1_close_2 : decode cX1_close 2 = .ok (.getfield 65, 3) := by decide +kernel
theorem dX1_close_5 : decode cX1_close 5 = .ok (.iconst 1, 1) := by decide +kernel
theorem dX1_close_6 : decode cX1_close 6 = .ok (.isub, 1) := by decide +kernel
theorem dX1_close_7 : decode cX1_close 7 = .ok (.putfield 65, 3) := by decide +kernel
theorem dX1_close_10 : decode cX1_close 10 = .ok (.aload_n 0, 1) := by decide +kernel
theorem dX1_close_11 : decode cX1_close 11 = .ok (.getfield 29, 3) := by decide +kernel
theorem dX1_close_14 : decode cX1_close 14 = .ok (.aload_n 0, 1) := by decide +kernel
theorem dX1_close_15 : decode cX1_close 15 = .ok (.getfield 65, 3) := by decide +kernel
theorem dX1_close_18 : decode cX1_close 18 = .ok (.iaload, 1) := by decide +kernel
theorem dX1_close_19 : decode cX1_close 19 = .ok (.istore_n 1, 1) := by decide +kernel
theorem dX1_close_20 : decode cX1_close 20 = .ok (.aload_n 0, 1) := by decide +kernel
theorem dX1_close_21 : decode cX1_close 21 = .ok (.getfield 20, 3) := by decide +kernel
theorem dX1_close_24 : decode cX1_close 24 = .ok (.iload_n 1, 1) := by decide +kernel
theorem dX1_close_25 : decode cX1_close 25 = .ok (.iaload, 1) := by decide +kernel
theorem dX1_close_26 : decode cX1_close 26 = .ok (.iconst 2, 1) := by decide +kernel
theorem dX1_close_27 : decode cX1_close 27 = .ok (.if_icmp .ne 5, 3) := by decide +kernel
theorem dX1_close_30 : decode cX1_close 30 = .ok (.iconst 0, 1) := by decide +kernel
theorem dX1_close_31 : decode cX1_close 31 = .ok (.ireturn, 1) := by decide +kernel
theorem dX1_close_32 : decode cX1_close 32 = .ok (.aload_n 0, 1) := by decide +kernel
theorem dX1_close_33 : decode cX1_close 33 = .ok (.iload_n 1, 1) := by decide +kernel
theorem dX1_close_34 : decode cX1_close 34 = .ok (.invokevirtual 50, 3) := by decide +kernel
theorem dX1_close_37 : decode cX1_close 37 = .ok (.istore_n 2, 1) := by decide +kernel
theorem dX1_close_38 : decode cX1_close 38 = .ok (.aload_n 0, 1) := by decide +kernel
theorem dX1_close_39 : decode cX1_close 39 = .ok (.getfield 13, 3) := by decide +kernel
theorem dX1_close_42 : decode cX1_close 42 = .ok (.iload_n 2, 1) := by decide +kernel
theorem dX1_close_43 : decode cX1_close 43 = .ok (.dup2, 1) := by decide +kernel
theorem dX1_close_44 : decode cX1_close 44 = .ok (.iaload, 1) := by decide +kernel
theorem dX1_close_45 : decode cX1_close 45 = .ok (.iconst 1, 1) := by decide +kernel
theorem dX1_close_46 : decode cX1_close 46 = .ok (.isub, 1) := by decide +kernel
theorem dX1_close_47 : decode cX1_close 47 = .ok (.iastore, 1) := by decide +kernel
theorem dX1_close_48 : decode cX1_close 48 = .ok (.aload_n 0, 1) := by decide +kernel
theorem dX1_close_49 : decode cX1_close 49 = .ok (.getfield 13, 3) := by decide +kernel
theorem dX1_close_52 : decode cX1_close 52 = .ok (.iload_n 2, 1) := by decide +kernel
theorem dX1_close_53 : decode cX1_close 53 = .ok (.iaload, 1) := by decide +kernel
theorem dX1_close_54 : decode cX1_close 54 = .ok (.ireturn, 1) := by decide +kernel
set_option maxRecDepth 20000 in
theorem ggX1_enter_X1_monitor : GoodIn wsX1_enter wsX1_monitor := goodIn_r _ [9, 1, 2, 10, 11, 12, 8, 13, 14, 15, 16, 17, 18, 19, 20, 21, 22, 23, 24, 25, 26, 27, 28, 29, 30, 31, 32, 33] (by decide +kernel) (by decide +kernel)
set_option maxRecDepth 20000 in
theorem gX1_enter_X1_monitor : GoodIn wsX1_enter (wsV RX1 68 RX1 yX1_monitor wsX1_monitor) := goodIn_app (goodIn_of _ (by decide +kernel)) ggX1_enter_X1_monitor
theorem dX1_enter_0 : decode cX1_enter 0 = .ok (.aload_n 0, 1) := by decide +kernel
theorem dX1_enter_1 : decode cX1_enter 1 = .ok (.iload_n 1, 1) := by decide +kernel
theorem dX1_enter_2 : decode cX1_enter 2 = .ok (.iconst 1, 1) := by decide +kernel
theorem dX1_enter_3 : decode cX1_enter 3 = .ok (.invokevirtual 68, 3) := by decide +kernel
theorem dX1_enter_6 : decode cX1_enter 6 = .ok (.istore_n 2, 1) := by decide +kernel
theorem dX1_enter_7 : decode cX1_enter 7 = .ok (.aload_n 0, 1) := by decide +kernel
theorem dX1_enter_8 : decode cX1_enter 8 = .ok (.getfield 54, 3) := by decide +kernel
theorem dX1_enter_11 : decode cX1_enter 11 = .ok (.ifCond .eq 5, 3) := by decide +kernel
theorem dX1_enter_14 : decode cX1_enter 14 = .ok (.iconst 0, 1) := by decide +kernel
theorem dX1_enter_15 : decode cX1_enter 15 = .ok (.ireturn, 1) := by decide +kernel
theorem dX1_enter_16 : decode cX1_enter 16 = .ok (.aload_n 0, 1) := by decide +kernel
theorem dX1_enter_17 : decode cX1_enter 17 = .ok (.getfield 13, 3) := by decide +kernel
theorem dX1_enter_20 : decode cX1_enter 20 = .ok (.iload_n 2, 1) := by decide +kernel
theorem dX1_enter_21 : decode cX1_enter 21 = .ok (.dup2, 1) := by decide +kernel
theorem dX1_enter_22 : decode cX1_enter 22 = .ok (.iaload, 1) := by decide +kernel
theorem dX1_enter_23 : decode cX1_enter 23 = .ok (.iconst 1, 1) := by decide +kernel
theorem dX1_enter_24 : decode cX1_enter 24 = .ok (.iadd, 1) := by decide +kernel
theorem dX1_enter_25 : decode cX1_enter 25 = .ok (.iastore, 1) := by decide +kernel
theorem dX1_enter_26 : decode cX1_enter 26 = .ok (.aload_n 0, 1) := by decide +kernel
theorem dX1_enter_27 : decode cX1_enter 27 = .ok (.getfield 29, 3) := by decide +kernel
theorem dX1_enter_30 : decode cX1_enter 30 = .ok (.aload_n 0, 1) := by decide +kernel
theorem dX1_enter_31 : decode cX1_enter 31 = .ok (.getfield 65, 3) := by decide +kernel
theorem dX1_enter_34 : decode cX1_enter 34 = .ok (.iload_n 1, 1) := by decide +kernel
theorem dX1_enter_35 : decode cX1_enter 35 = .ok (.iastore, 1) := by decide +kernel
theorem dX1_enter_36 : decode cX1_enter 36 = .ok (.aload_n 0, 1) := by decide +kernel
theorem dX1_enter_37 : decode cX1_enter 37 = .ok (.dup, 1) := by decide +kernel
theorem dX1_enter_38 : decode cX1_enter 38 = .ok (.getfield 65, 3) := by decide +kernel
theorem dX1_enter_41 : decode cX1_enter 41 = .ok (.iconst 1, 1) := by decide +kernel
theorem dX1_enter_42 : decode cX1_enter 42 = .ok (.iadd, 1) := by decide +kernel
theorem dX1_enter_43 : decode cX1_enter 43 = .ok (.putfield 65, 3) := by decide +kernel
theorem dX1_enter_46 : decode cX1_enter 46 = .ok (.aload_n 0, 1) := by decide +kernel
theorem dX1_enter_47 : decode cX1_enter 47 = .ok (.getfield 13, 3) := by decide +kernel
theorem dX1_enter_50 : decode cX1_enter 50 = .ok (.iload_n 2, 1) := by decide +kernel
theorem dX1_enter_51 : decode cX1_enter 51 = .ok (.iaload, 1) := by decide +kernel
theorem dX1_enter_52 : decode cX1_enter 52 = .ok (.ireturn, 1) := by decide +kernel
set_option maxRecDepth 20000 in
theorem ggX1_thread_X1_modulo : GoodIn wsX1_thread wsX1_modulo := goodIn_r _ [9] (by decide +kernel) (by decide +kernel)
set_option maxRecDepth 20000 in
theorem gX1_thread_X1_modulo : GoodIn wsX1_thread (va_wsS RX1 46 yX1_modulo wsX1_modulo) := goodIn_app (goodIn_of _ (by decide +kernel)) ggX1_thread_X1_modulo
theorem dX1_thread_0 : decode cX1_thread 0 = .ok (.aload_n 0, 1) := by decide +kernel
theorem dX1_thread_1 : decode cX1_thread 1 = .ok (.getfield 23, 3) := by decide +kernel
theorem dX1_thread_4 : decode cX1_thread 4 = .ok (.iload_n 1, 1) := by decide +kernel
theorem dX1_thread_5 : decode cX1_thread 5 = .ok (.iaload, 1) := by decide +kernel
theorem dX1_thread_6 : decode cX1_thread 6 = .ok (.iconst 4, 1) := by decide +kernel
theorem dX1_thread_7 : decode cX1_thread 7 = .ok (.invokestatic 46, 3) := by decide +kernel
theorem dX1_thread_10 : decode cX1_thread 10 = .ok (.istore_n 2, 1) := by decide +kernel
theorem dX1_thread_11 : decode cX1_thread 11 = .ok (.aload_n 0, 1) := by decide +kernel
theorem dX1_thread_12 : decode cX1_thread 12 = .ok (.getfield 20, 3) := by decide +kernel
theorem dX1_thread_15 : decode cX1_thread 15 = .ok (.iload_n 1, 1) := by decide +kernel
theorem dX1_thread_16 : decode cX1_thread 16 = .ok (.iaload, 1) := by decide +kernel
theorem dX1_thread_17 : decode cX1_thread 17 = .ok (.bipush 12, 2) := by decide +kernel
theorem dX1_thread_19 : decode cX1_thread 19 = .ok (.if_icmp .le 18, 3) := by decide +kernel
theorem dX1_thread_22 : decode cX1_thread 22 = .ok (.aload_n 0, 1) := by decide +kernel
theorem dX1_thread_23 : decode cX1_thread 23 = .ok (.getfield 16, 3) := by decide +kernel
theorem dX1_thread_26 : decode cX1_thread 26 = .ok (.iload_n 2, 1) := by decide +kernel
theorem dX1_thread_27 : decode cX1_thread 27 = .ok (.baload, 1) := by decide +kernel
theorem dX1_thread_28 : decode cX1_thread 28 = .ok (.ifCond .eq 7, 3) := by decide +kernel
theorem dX1_thread_31 : decode cX1_thread 31 = .ok (.iconst 1, 1) := by decide +kernel
theorem dX1_thread_32 : decode cX1_thread 32 = .ok (.goto 4, 3) := by decide +kernel
theorem dX1_thread_35 : decode cX1_thread 35 = .ok (.iconst 0, 1) := by decide +kernel
theorem dX1_thread_36 : decode cX1_thread 36 = .ok (.ireturn, 1) := by decide +kernel
theorem dX1_thread_37 : decode cX1_thread 37 = .ok (.aload_n 0, 1) := by decide +kernel
theorem dX1_thread_38 : decode cX1_thread 38 = .ok (.getfield 16, 3) := by decide +kernel
theorem dX1_thread_41 : decode cX1_thread 41 = .ok (.iload_n 2, 1) := by decide +kernel
theorem dX1_thread_42 : decode cX1_thread 42 = .ok (.baload, 1) := by decide +kernel
theorem dX1_thread_43 : decode cX1_thread 43 = .ok (.ifCond .eq 11, 3) := by decide +kernel
theorem dX1_thread_46 : decode cX1_thread 46 = .ok (.aload_n 0, 1) := by decide +kernel
theorem dX1_thread_47 : decode cX1_thread 47 = .ok (.iconst 5, 1) := by decide +kernel
theorem dX1_thread_48 : decode cX1_thread 48 = .ok (.putfield 54, 3) := by decide +kernel
theorem dX1_thread_51 : decode cX1_thread 51 = .ok (.goto 22, 3) := by decide +kernel
theorem dX1_thread_54 : decode cX1_thread 54 = .ok (.aload_n 0, 1) := by decide +kernel
theorem dX1_thread_55 : decode cX1_thread 55 = .ok (.getfield 16, 3) := by decide +kernel
theorem dX1_thread_58 : decode cX1_thread 58 = .ok (.iload_n 2, 1) := by decide +kernel
theorem dX1_thread_59 : decode cX1_thread 59 = .ok (.iconst 1, 1) := by decide +kernel
theorem dX1_thread_60 : decode cX1_thread 60 = .ok (.bastore, 1) := by decide +kernel
theorem dX1_thread_61 : decode cX1_thread 61 = .ok (.aload_n 0, 1) := by decide +kernel
theorem dX1_thread_62 : decode cX1_thread 62 = .ok (.dup, 1) := by decide +kernel
theorem dX1_thread_63 : decode cX1_thread 63 = .ok (.getfield 72, 3) := by decide +kernel
theorem dX1_thread_66 : decode cX1_thread 66 = .ok (.iload_n 2, 1) := by decide +kernel
theorem dX1_thread_67 : decode cX1_thread 67 = .ok (.iconst 1, 1) := by decide +kernel
theorem dX1_thread_68 : decode cX1_thread 68 = .ok (.iadd, 1) := by decide +kernel
theorem dX1_thread_69 : decode cX1_thread 69 = .ok (.iadd, 1) := by decide +kernel
theorem dX1_thread_70 : decode cX1_thread 70 = .ok (.putfield 72, 3) := by decide +kernel
theorem dX1_thread_73 : decode cX1_thread 73 = .ok (.iconst 0, 1) := by decide +kernel
theorem dX1_thread_74 : decode cX1_thread 74 = .ok (.ireturn, 1) := by decide +kernel
set_option maxRecDepth 20000 in
theorem ggX1_others_X1_interrupted : GoodIn wsX1_others wsX1_interrupted := goodIn_r _ [10, 2, 4, 14, 15, 16, 17, 18, 19, 20, 21, 22, 23, 24, 25, 26, 27, 28] (by decide +kernel) (by decide +kernel)
set_option maxRecDepth 20000 in
theorem gX1_others_X1_interrupted : GoodIn wsX1_others (wsV RX1 58 RX1 yX1_interrupted wsX1_interrupted) := goodIn_app (goodIn_of _ (by decide +kernel)) ggX1_others_X1_interrupted
set_option maxRecDepth 20000 in
theorem ggX1_others_X1_modulo : GoodIn wsX1_others wsX1_modulo := goodIn_r _ [13] (by decide +kernel) (by decide +kernel)
set_option maxRecDepth 20000 in
theorem gX1_others_X1_modulo : GoodIn wsX1_others (va_wsS RX1 46 yX1_modulo wsX1_modulo) := goodIn_app (goodIn_of _ (by decide +kernel)) ggX1_others_X1_modulo
theorem dX1_others_0 : decode cX1_others 0 = .ok (.aload_n 0, 1) := by decide +kernel
theorem dX1_others_1 : decode cX1_others 1 = .ok (.getfield 23, 3) := by decide +kernel
theorem dX1_others_4 : decode cX1_others 4 = .ok (.iload_n 1, 1) := by decide +kernel
theorem dX1_others_5 : decode cX1_others 5 = .ok (.iaload, 1) := by decide +kernel
theorem dX1_others_6 : decode cX1_others 6 = .ok (.istore_n 2, 1) := by decide +kernel
theorem dX1_others_7 : decode cX1_others 7 = .ok (.aload_n 0, 1) := by decide +kernel
theorem dX1_others_8 : decode cX1_others 8 = .ok (.getfield 61, 3) := by decide +kernel
theorem dX1_others_11 : decode cX1_others 11 = .ok (.istore_n 3, 1) := by decide +kernel
theorem dX1_others_12 : decode cX1_others 12 = .ok (.aload_n 0, 1) := by decide +kernel
theorem dX1_others_13 : decode cX1_others 13 = .ok (.getfield 20, 3) := by decide +kernel
theorem dX1_others_16 : decode cX1_others 16 = .ok (.iload_n 1, 1) := by decide +kernel
theorem dX1_others_17 : decode cX1_others 17 = .ok (.iaload, 1) := by decide +kernel
theorem dX1_others_18 : decode cX1_others 18 = .ok (.bipush 7, 2) := by decide +kernel
theorem dX1_others_20 : decode cX1_others 20 = .ok (.if_icmp .ne 8, 3) := by decide +kernel
theorem dX1_others_23 : decode cX1_others 23 = .ok (.aload_n 0, 1) := by decide +kernel
theorem dX1_others_24 : decode cX1_others 24 = .ok (.iconst 1, 1) := by decide +kernel
theorem dX1_others_25 : decode cX1_others 25 = .ok (.putfield 61, 3) := by decide +kernel
theorem dX1_others_28 : decode cX1_others 28 = .ok (.aload_n 0, 1) := by decide +kernel
theorem dX1_others_29 : decode cX1_others 29 = .ok (.getfield 20, 3) := by decide +kernel
theorem dX1_others_32 : decode cX1_others 32 = .ok (.iload_n 1, 1) := by decide +kernel
theorem dX1_others_33 : decode cX1_others 33 = .ok (.iaload, 1) := by decide +kernel
theorem dX1_others_34 : decode cX1_others 34 = .ok (.bipush 8, 2) := by decide +kernel
theorem dX1_others_36 : decode cX1_others 36 = .ok (.if_icmp .ne 8, 3) := by decide +kernel
theorem dX1_others_39 : decode cX1_others 39 = .ok (.aload_n 0, 1) := by decide +kernel
theorem dX1_others_40 : decode cX1_others 40 = .ok (.iconst 0, 1) := by decide +kernel
theorem dX1_others_41 : decode cX1_others 41 = .ok (.putfield 61, 3) := by decide +kernel
theorem dX1_others_44 : decode cX1_others 44 = .ok (.aload_n 0, 1) := by decide +kernel
theorem dX1_others_45 : decode cX1_others 45 = .ok (.getfield 20, 3) := by decide +kernel
theorem dX1_others_48 : decode cX1_others 48 = .ok (.iload_n 1, 1) := by decide +kernel
theorem dX1_others_49 : decode cX1_others 49 = .ok (.iaload, 1) := by decide +kernel
theorem dX1_others_50 : decode cX1_others 50 = .ok (.bipush 10, 2) := by decide +kernel
theorem dX1_others_52 : decode cX1_others 52 = .ok (.if_icmp .ne 19, 3) := by decide +kernel
theorem dX1_others_55 : decode cX1_others 55 = .ok (.iload_n 2, 1) := by decide +kernel
theorem dX1_others_56 : decode cX1_others 56 = .ok (.ifCond .ge 11, 3) := by decide +kernel
theorem dX1_others_59 : decode cX1_others 59 = .ok (.aload_n 0, 1) := by decide +kernel
theorem dX1_others_60 : decode cX1_others 60 = .ok (.iconst 3, 1) := by decide +kernel
theorem dX1_others_61 : decode cX1_others 61 = .ok (.putfield 54, 3) := by decide +kernel
theorem dX1_others_64 : decode cX1_others 64 = .ok (.goto 7, 3) := by decide +kernel
theorem dX1_others_67 : decode cX1_others 67 = .ok (.aload_n 0, 1) := by decide +kernel
theorem dX1_others_68 : decode cX1_others 68 = .ok (.invokevirtual 58, 3) := by decide +kernel
theorem dX1_others_71 : decode cX1_others 71 = .ok (.aload_n 0, 1) := by decide +kernel
theorem dX1_others_72 : decode cX1_others 72 = .ok (.getfield 20, 3) := by decide +kernel
theorem dX1_others_75 : decode cX1_others 75 = .ok (.iload_n 1, 1) := by decide +kernel
theorem dX1_others_76 : decode cX1_others 76 = .ok (.iaload, 1) := by decide +kernel
theorem dX1_others_77 : decode cX1_others 77 = .ok (.bipush 11, 2) := by decide +kernel
theorem dX1_others_79 : decode cX1_others 79 = .ok (.if_icmp .ne 16, 3) := by decide +kernel
theorem dX1_others_82 : decode cX1_others 82 = .ok (.aload_n 0, 1) := by decide +kernel
theorem dX1_others_83 : decode cX1_others 83 = .ok (.bipush 100, 2) := by decide +kernel
theorem dX1_others_85 : decode cX1_others 85 = .ok (.iload_n 2, 1) := by decide +kernel
theorem dX1_others_86 : decode cX1_others 86 = .ok (.bipush 100, 2) := by decide +kernel
theorem dX1_others_88 : decode cX1_others 88 = .ok (.invokestatic 46, 3) := by decide +kernel
theorem dX1_others_91 : decode cX1_others 91 = .ok (.iadd, 1) := by decide +kernel
theorem dX1_others_92 : decode cX1_others 92 = .ok (.putfield 54, 3) := by decide +kernel
theorem dX1_others_95 : decode cX1_others 95 = .ok (.aload_n 0, 1) := by decide +kernel
theorem dX1_others_96 : decode cX1_others 96 = .ok (.getfield 20, 3) := by decide +kernel
theorem dX1_others_99 : decode cX1_others 99 = .ok (.iload_n 1, 1) := by decide +kernel
theorem dX1_others_100 : decode cX1_others 100 = .ok (.iaload, 1) := by decide +kernel
theorem dX1_others_101 : decode cX1_others 101 = .ok (.bipush 15, 2) := by decide +kernel
theorem dX1_others_103 : decode cX1_others 103 = .ok (.if_icmp .ne 18, 3) := by decide +kernel
theorem dX1_others_106 : decode cX1_others 106 = .ok (.aload_n 0, 1) := by decide +kernel
theorem dX1_others_107 : decode cX1_others 107 = .ok (.dup, 1) := by decide +kernel
theorem dX1_others_108 : decode cX1_others 108 = .ok (.getfield 72, 3) := by decide +kernel
theorem dX1_others_111 : decode cX1_others 111 = .ok (.iload_n 2, 1) := by decide +kernel
theorem dX1_others_112 : decode cX1_others 112 = .ok (.iadd, 1) := by decide +kernel
theorem dX1_others_113 : decode cX1_others 113 = .ok (.putfield 72, 3) := by decide +kernel
theorem dX1_others_116 : decode cX1_others 116 = .ok (.aload_n 0, 1) := by decide +kernel
theorem dX1_others_117 : decode cX1_others 117 = .ok (.getfield 72, 3) := by decide +kernel
theorem dX1_others_120 : decode cX1_others 120 = .ok (.ireturn, 1) := by decide +kernel
theorem dX1_others_121 : decode cX1_others 121 = .ok (.aload_n 0, 1) := by decide +kernel
theorem dX1_others_122 : decode cX1_others 122 = .ok (.getfield 20, 3) := by decide +kernel
theorem dX1_others_125 : decode cX1_others 125 = .ok (.iload_n 1, 1) := by decide +kernel
theorem dX1_others_126 : decode cX1_others 126 = .ok (.iaload, 1) := by decide +kernel
theorem dX1_others_127 : decode cX1_others 127 = .ok (.bipush 8, 2) := by decide +kernel
theorem dX1_others_129 : decode cX1_others 129 = .ok (.if_icmp .eq 14, 3) := by decide +kernel
theorem dX1_others_132 : decode cX1_others 132 = .ok (.aload_n 0, 1) := by decide +kernel
theorem dX1_others_133 : decode cX1_others 133 = .ok (.getfield 20, 3) := by decide +kernel
theorem dX1_others_136 : decode cX1_others 136 = .ok (.iload_n 1, 1) := by decide +kernel
theorem dX1_others_137 : decode cX1_others 137 = .ok (.iaload, 1) := by decide +kernel
theorem dX1_others_138 : decode cX1_others 138 = .ok (.bipush 9, 2) := by decide +kernel
theorem dX1_others_140 : decode cX1_others 140 = .ok (.if_icmp .ne 11, 3) := by decide +kernel
theorem dX1_others_143 : decode cX1_others 143 = .ok (.iload_n 3, 1) := by decide +kernel
theorem dX1_others_144 : decode cX1_others 144 = .ok (.ifCond .eq 7, 3) := by decide +kernel
theorem dX1_others_147 : decode cX1_others 147 = .ok (.iconst 1, 1) := by decide +kernel
theorem dX1_others_148 : decode cX1_others 148 = .ok (.goto 4, 3) := by decide +kernel
theorem dX1_others_151 : decode cX1_others 151 = .ok (.iconst 0, 1) := by decide +kernel
theorem dX1_others_152 : decode cX1_others 152 = .ok (.ireturn, 1) := by decide +kernel
set_option maxRecDepth 20000 in
theorem ggX1_work_X1_close : GoodIn wsX1_work wsX1_close := goodIn_r _ [9, 3, 2, 1, 4, 10, 11, 12, 8, 13, 14, 15, 16, 17, 18, 48, 49, 50, 51, 52, 53, 54, 55, 56, 57, 58, 59, 60, 61, 62] (by decide +kernel) (by decide +kernel)
set_option maxRecDepth 20000 in
theorem gX1_work_X1_close : GoodIn wsX1_work (wsV RX1 75 RX1 yX1_close wsX1_close) := goodIn_app (goodIn_of _ (by decide +kernel)) ggX1_work_X1_close
set_option maxRecDepth 20000 in
theorem ggX1_work_X1_enter : GoodIn wsX1_work wsX1_enter := goodIn_r _ [22, 23, 4, 2, 3, 24, 25, 26, 8, 27, 10, 11, 12, 13, 14, 15, 16, 17, 18, 48, 49, 50, 51, 52, 53, 54, 55, 56, 57, 58, 59, 60, 61, 62] (by decide +kernel) (by decide +kernel)
set_option maxRecDepth 20000 in
theorem gX1_work_X1_enter : GoodIn wsX1_work (wsV RX1 79 RX1 yX1_enter wsX1_enter) := goodIn_app (goodIn_of _ (by decide +kernel)) ggX1_work_X1_enter
set_option maxRecDepth 20000 in
theorem ggX1_work_X1_monitor : GoodIn wsX1_work wsX1_monitor := goodIn_r _ [27, 23, 4, 10, 11, 12, 8, 13, 14, 15, 16, 17, 18, 48, 49, 50, 51, 52, 53, 54, 55, 56, 57, 58, 59, 60, 61, 62] (by decide +kernel) (by decide +kernel)
set_option maxRecDepth 20000 in
theorem gX1_work_X1_monitor : GoodIn wsX1_work (wsV RX1 68 RX1 yX1_monitor wsX1_monitor) := goodIn_app (goodIn_of _ (by decide +kernel)) ggX1_work_X1_monitor
set_option maxRecDepth 20000 in
theorem ggX1_work_X1_pause : GoodIn wsX1_work wsX1_pause := goodIn_r _ [31, 15, 32, 14, 23, 4, 33, 34, 35, 8, 36, 37, 48, 49, 50, 51, 52, 53, 54, 55, 56, 57, 58, 59, 60, 61, 62] (by decide +kernel) (by decide +kernel)
set_option maxRecDepth 20000 in
theorem gX1_work_X1_pause : GoodIn wsX1_work (wsV RX1 82 RX1 yX1_pause wsX1_pause) := goodIn_app (goodIn_of _ (by decide +kernel)) ggX1_work_X1_pause
set_option maxRecDepth 20000 in
theorem ggX1_work_X1_thread : GoodIn wsX1_work wsX1_thread := goodIn_r _ [41, 15, 1, 42, 23, 43, 16, 17, 8, 18, 48, 49, 50, 51, 52, 53, 54, 55, 56, 57, 58, 59, 60, 61, 62] (by decide +kernel) (by decide +kernel)
set_option maxRecDepth 20000 in
theorem gX1_work_X1_thread : GoodIn wsX1_work (wsV RX1 85 RX1 yX1_thread wsX1_thread) := goodIn_app (goodIn_of _ (by decide +kernel)) ggX1_work_X1_thread
set_option maxRecDepth 20000 in
theorem ggX1_work_X1_others : GoodIn wsX1_work wsX1_others := goodIn_r _ [47, 15, 37, 1, 23, 43, 33, 34, 35, 8, 36, 16, 17, 18, 48, 49, 50, 51, 52, 53, 54, 55, 56, 57, 58, 59, 60, 61, 62] (by decide +kernel) (by decide +kernel)
set_option maxRecDepth 20000 in
theorem gX1_work_X1_others : GoodIn wsX1_work (wsV RX1 88 RX1 yX1_others wsX1_others) := goodIn_app (goodIn_of _ (by decide +kernel)) ggX1_work_X1_others
theorem dX1_work_0 : decode cX1_work 0 = .ok (.aload_n 0, 1) := by decide +kernel
theorem dX1_work_1 : decode cX1_work 1 = .ok (.getfield 20, 3) := by decide +kernel
theorem dX1_work_4 : decode cX1_work 4 = .ok (.iload_n 1, 1) := by decide +kernel
theorem dX1_work_5 : decode cX1_work 5 = .ok (.iaload, 1) := by decide +kernel
theorem dX1_work_6 : decode cX1_work 6 = .ok (.istore_n 2, 1) := by decide +kernel
theorem dX1_work_7 : decode cX1_work 7 = .ok (.iload_n 2, 1) := by decide +kernel
theorem dX1_work_8 : decode cX1_work 8 = .ok (.ifCond .ne 8, 3) := by decide +kernel
theorem dX1_work_11 : decode cX1_work 11 = .ok (.aload_n 0, 1) := by decide +kernel
theorem dX1_work_12 : decode cX1_work 12 = .ok (.invokevirtual 75, 3) := by decide +kernel
theorem dX1_work_15 : decode cX1_work 15 = .ok (.ireturn, 1) := by decide +kernel
theorem dX1_work_16 : decode cX1_work 16 = .ok (.iload_n 2, 1) := by decide +kernel
theorem dX1_work_17 : decode cX1_work 17 = .ok (.iconst 1, 1) := by decide +kernel
theorem dX1_work_18 : decode cX1_work 18 = .ok (.if_icmp .ne 9, 3) := by decide +kernel
theorem dX1_work_21 : decode cX1_work 21 = .ok (.aload_n 0, 1) := by decide +kernel
theorem dX1_work_22 : decode cX1_work 22 = .ok (.iload_n 1, 1) := by decide +kernel
theorem dX1_work_23 : decode cX1_work 23 = .ok (.invokevirtual 79, 3) := by decide +kernel
theorem dX1_work_26 : decode cX1_work 26 = .ok (.ireturn, 1) := by decide +kernel
theorem dX1_work_27 : decode cX1_work 27 = .ok (.iload_n 2, 1) := by decide +kernel
theorem dX1_work_28 : decode cX1_work 28 = .ok (.iconst 2, 1) := by decide +kernel
theorem dX1_work_29 : decode cX1_work 29 = .ok (.if_icmp .ne 25, 3) := by decide +kernel
theorem dX1_work_32 : decode cX1_work 32 = .ok (.aload_n 0, 1) := by decide +kernel
theorem dX1_work_33 : decode cX1_work 33 = .ok (.getfield 29, 3) := by decide +kernel
theorem dX1_work_36 : decode cX1_work 36 = .ok (.aload_n 0, 1) := by decide +kernel
theorem dX1_work_37 : decode cX1_work 37 = .ok (.getfield 65, 3) := by decide +kernel
theorem dX1_work_40 : decode cX1_work 40 = .ok (.iload_n 1, 1) := by decide +kernel
theorem dX1_work_41 : decode cX1_work 41 = .ok (.iastore, 1) := by decide +kernel
theorem dX1_work_42 : decode cX1_work 42 = .ok (.aload_n 0, 1) := by decide +kernel
theorem dX1_work_43 : decode cX1_work 43 = .ok (.dup, 1) := by decide +kernel
theorem dX1_work_44 : decode cX1_work 44 = .ok (.getfield 65, 3) := by decide +kernel
theorem dX1_work_47 : decode cX1_work 47 = .ok (.iconst 1, 1) := by decide +kernel
theorem dX1_work_48 : decode cX1_work 48 = .ok (.iadd, 1) := by decide +kernel
theorem dX1_work_49 : decode cX1_work 49 = .ok (.putfield 65, 3) := by decide +kernel
theorem dX1_work_52 : decode cX1_work 52 = .ok (.iconst 0, 1) := by decide +kernel
theorem dX1_work_53 : decode cX1_work 53 = .ok (.ireturn, 1) := by decide +kernel
theorem dX1_work_54 : decode cX1_work 54 = .ok (.iload_n 2, 1) := by decide +kernel
theorem dX1_work_55 : decode cX1_work 55 = .ok (.iconst 3, 1) := by decide +kernel
theorem dX1_work_56 : decode cX1_work 56 = .ok (.if_icmp .eq 8, 3) := by decide +kernel
theorem dX1_work_59 : decode cX1_work 59 = .ok (.iload_n 2, 1) := by decide +kernel
theorem dX1_work_60 : decode cX1_work 60 = .ok (.iconst 4, 1) := by decide +kernel
theorem dX1_work_61 : decode cX1_work 61 = .ok (.if_icmp .ne 12, 3) := by decide +kernel
theorem dX1_work_64 : decode cX1_work 64 = .ok (.aload_n 0, 1) := by decide +kernel
theorem dX1_work_65 : decode cX1_work 65 = .ok (.iload_n 1, 1) := by decide +kernel
theorem dX1_work_66 : decode cX1_work 66 = .ok (.iconst 0, 1) := by decide +kernel
theorem dX1_work_67 : decode cX1_work 67 = .ok (.invokevirtual 68, 3) := by decide +kernel
theorem dX1_work_70 : decode cX1_work 70 = .ok (.istore_n 3, 1) := by decide +kernel
theorem dX1_work_71 : decode cX1_work 71 = .ok (.iconst 0, 1) := by decide +kernel
theorem dX1_work_72 : decode cX1_work 72 = .ok (.ireturn, 1) := by decide +kernel
theorem dX1_work_73 : decode cX1_work 73 = .ok (.iload_n 2, 1) := by decide +kernel
theorem dX1_work_74 : decode cX1_work 74 = .ok (.iconst 5, 1) := by decide +kernel
theorem dX1_work_75 : decode cX1_work 75 = .ok (.if_icmp .ne 25, 3) := by decide +kernel
theorem dX1_work_78 : decode cX1_work 78 = .ok (.aload_n 0, 1) := by decide +kernel
theorem dX1_work_79 : decode cX1_work 79 = .ok (.iload_n 1, 1) := by decide +kernel
theorem dX1_work_80 : decode cX1_work 80 = .ok (.iconst 1, 1) := by decide +kernel
theorem dX1_work_81 : decode cX1_work 81 = .ok (.invokevirtual 68, 3) := by decide +kernel
theorem dX1_work_84 : decode cX1_work 84 = .ok (.istore_n 3, 1) := by decide +kernel
theorem dX1_work_85 : decode cX1_work 85 = .ok (.aload_n 0, 1) := by decide +kernel
theorem dX1_work_86 : decode cX1_work 86 = .ok (.getfield 13, 3) := by decide +kernel
theorem dX1_work_89 : decode cX1_work 89 = .ok (.iload_n 3, 1) := by decide +kernel
theorem dX1_work_90 : decode cX1_work 90 = .ok (.iaload, 1) := by decide +kernel
theorem dX1_work_91 : decode cX1_work 91 = .ok (.ifCond .le 7, 3) := by decide +kernel
theorem dX1_work_94 : decode cX1_work 94 = .ok (.iconst 1, 1) := by decide +kernel
theorem dX1_work_95 : decode cX1_work 95 = .ok (.goto 4, 3) := by decide +kernel
theorem dX1_work_98 : decode cX1_work 98 = .ok (.iconst 0, 1) := by decide +kernel
theorem dX1_work_99 : decode cX1_work 99 = .ok (.ireturn, 1) := by decide +kernel
theorem dX1_work_100 : decode cX1_work 100 = .ok (.iload_n 2, 1) := by decide +kernel
theorem dX1_work_101 : decode cX1_work 101 = .ok (.bipush 6, 2) := by decide +kernel
theorem dX1_work_103 : decode cX1_work 103 = .ok (.if_icmp .ne 9, 3) := by decide +kernel
theorem dX1_work_106 : decode cX1_work 106 = .ok (.aload_n 0, 1) := by decide +kernel
theorem dX1_work_107 : decode cX1_work 107 = .ok (.iload_n 1, 1) := by decide +kernel
theorem dX1_work_108 : decode cX1_work 108 = .ok (.invokevirtual 82, 3) := by decide +kernel
theorem dX1_work_111 : decode cX1_work 111 = .ok (.ireturn, 1) := by decide +kernel
theorem dX1_work_112 : decode cX1_work 112 = .ok (.iload_n 2, 1) := by decide +kernel
theorem dX1_work_113 : decode cX1_work 113 = .ok (.bipush 12, 2) := by decide +kernel
theorem dX1_work_115 : decode cX1_work 115 = .ok (.if_icmp .lt 17, 3) := by decide +kernel
theorem dX1_work_118 : decode cX1_work 118 = .ok (.iload_n 2, 1) := by decide +kernel
theorem dX1_work_119 : decode cX1_work 119 = .ok (.bipush 14, 2) := by decide +kernel
theorem dX1_work_121 : decode cX1_work 121 = .ok (.if_icmp .gt 11, 3) := by decide +kernel
theorem dX1_work_124 : decode cX1_work 124 = .ok (.aload_n 0, 1) := by decide +kernel
theorem dX1_work_125 : decode cX1_work 125 = .ok (.iload_n 1, 1) := by decide +kernel
theorem dX1_work_126 : decode cX1_work 126 = .ok (.invokevirtual 85, 3) := by decide +kernel
theorem dX1_work_129 : decode cX1_work 129 = .ok (.goto 8, 3) := by decide +kernel
theorem dX1_work_132 : decode cX1_work 132 = .ok (.aload_n 0, 1) := by decide +kernel
theorem dX1_work_133 : decode cX1_work 133 = .ok (.iload_n 1, 1) := by decide +kernel
theorem dX1_work_134 : decode cX1_work 134 = .ok (.invokevirtual 88, 3) := by decide +kernel
theorem dX1_work_137 : decode cX1_work 137 = .ok (.ireturn, 1) := by decide +kernel
set_option maxRecDepth 20000 in
theorem ggX1_unwind_X1_close : GoodIn wsX1_unwind wsX1_close := goodIn_r _ [12, 1, 2, 3, 13, 14, 15, 16, 11, 17, 18, 19, 20, 21, 22, 27, 28, 29, 30, 31, 32, 33, 34, 35, 36, 37, 38, 39, 40, 41] (by decide +kernel) (by decide +kernel)
set_option maxRecDepth 20000 in
theorem gX1_unwind_X1_close : GoodIn wsX1_unwind (wsV RX1 75 RX1 yX1_close wsX1_close) := goodIn_app (goodIn_of _ (by decide +kernel)) ggX1_unwind_X1_close
set_option maxRecDepth 20000 in
theorem ggX1_unwind_X1_behind : GoodIn wsX1_unwind wsX1_behind := goodIn_r _ [26, 7, 3, 27, 28, 29, 30, 31, 32, 33, 34, 35, 36, 37, 38, 39, 40, 41] (by decide +kernel) (by decide +kernel)
set_option maxRecDepth 20000 in
theorem gX1_unwind_X1_behind : GoodIn wsX1_unwind (wsV RX1 91 RX1 yX1_behind wsX1_behind) := goodIn_app (goodIn_of _ (by decide +kernel)) ggX1_unwind_X1_behind
theorem dX1_unwind_0 : decode cX1_unwind 0 = .ok (.aload_n 0, 1) := by decide +kernel
theorem dX1_unwind_1 : decode cX1_unwind 1 = .ok (.getfield 65, 3) := by decide +kernel
theorem dX1_unwind_4 : decode cX1_unwind 4 = .ok (.ifCond .le 49, 3) := by decide +kernel
theorem dX1_unwind_7 : decode cX1_unwind 7 = .ok (.aload_n 0, 1) := by decide +kernel
theorem dX1_unwind_8 : decode cX1_unwind 8 = .ok (.getfield 29, 3) := by decide +kernel
theorem dX1_unwind_11 : decode cX1_unwind 11 = .ok (.aload_n 0, 1) := by decide +kernel
theorem dX1_unwind_12 : decode cX1_unwind 12 = .ok (.getfield 65, 3) := by decide +kernel
theorem dX1_unwind_15 : decode cX1_unwind 15 = .ok (.iconst 1, 1) := by decide +kernel
theorem dX1_unwind_16 : decode cX1_unwind 16 = .ok (.isub, 1) := by decide +kernel
theorem dX1_unwind_17 : decode cX1_unwind 17 = .ok (.iaload, 1) := by decide +kernel
theorem dX1_unwind_18 : decode cX1_unwind 18 = .ok (.istore_n 1, 1) := by decide +kernel
theorem dX1_unwind_19 : decode cX1_unwind 19 = .ok (.aload_n 0, 1) := by decide +kernel
theorem dX1_unwind_20 : decode cX1_unwind 20 = .ok (.invokevirtual 75, 3) := by decide +kernel
theorem dX1_unwind_23 : decode cX1_unwind 23 = .ok (.istore_n 2, 1) := by decide +kernel
theorem dX1_unwind_24 : decode cX1_unwind 24 = .ok (.aload_n 0, 1) := by decide +kernel
theorem dX1_unwind_25 : decode cX1_unwind 25 = .ok (.getfield 20, 3) := by decide +kernel
theorem dX1_unwind_28 : decode cX1_unwind 28 = .ok (.iload_n 1, 1) := by decide +kernel
theorem dX1_unwind_29 : decode cX1_unwind 29 = .ok (.iaload, 1) := by decide +kernel
theorem dX1_unwind_30 : decode cX1_unwind 30 = .ok (.iconst 2, 1) := by decide +kernel
theorem dX1_unwind_31 : decode cX1_unwind 31 = .ok (.if_icmp .ne 19, 3) := by decide +kernel
theorem dX1_unwind_34 : decode cX1_unwind 34 = .ok (.aload_n 0, 1) := by decide +kernel
theorem dX1_unwind_35 : decode cX1_unwind 35 = .ok (.getfield 26, 3) := by decide +kernel
theorem dX1_unwind_38 : decode cX1_unwind 38 = .ok (.iload_n 1, 1) := by decide +kernel
theorem dX1_unwind_39 : decode cX1_unwind 39 = .ok (.aload_n 0, 1) := by decide +kernel
theorem dX1_unwind_40 : decode cX1_unwind 40 = .ok (.getfield 54, 3) := by decide +kernel
theorem dX1_unwind_43 : decode cX1_unwind 43 = .ok (.iastore, 1) := by decide +kernel
theorem dX1_unwind_44 : decode cX1_unwind 44 = .ok (.aload_n 0, 1) := by decide +kernel
theorem dX1_unwind_45 : decode cX1_unwind 45 = .ok (.iload_n 1, 1) := by decide +kernel
theorem dX1_unwind_46 : decode cX1_unwind 46 = .ok (.invokevirtual 91, 3) := by decide +kernel
theorem dX1_unwind_49 : decode cX1_unwind 49 = .ok (.ireturn, 1) := by decide +kernel
theorem dX1_unwind_50 : decode cX1_unwind 50 = .ok (.goto (-50), 3) := by decide +kernel
theorem dX1_unwind_53 : decode cX1_unwind 53 = .ok (.aload_n 0, 1) := by decide +kernel
theorem dX1_unwind_54 : decode cX1_unwind 54 = .ok (.aload_n 0, 1) := by decide +kernel
theorem dX1_unwind_55 : decode cX1_unwind 55 = .ok (.getfield 54, 3) := by decide +kernel
theorem dX1_unwind_58 : decode cX1_unwind 58 = .ok (.putfield 94, 3) := by decide +kernel
theorem dX1_unwind_61 : decode cX1_unwind 61 = .ok (.aload_n 0, 1) := by decide +kernel
theorem dX1_unwind_62 : decode cX1_unwind 62 = .ok (.getfield 40, 3) := by decide +kernel
theorem dX1_unwind_65 : decode cX1_unwind 65 = .ok (.ireturn, 1) := by decide +kernel
set_option maxRecDepth 20000 in
theorem ggX1_run_X1_work : GoodIn wsX1_run wsX1_work := goodIn_r _ [11, 12, 13, 4, 14, 15, 16, 17, 10, 18, 19, 20, 21, 22, 23, 24, 25, 26, 27, 28, 29, 30, 31, 6, 32, 33, 34, 35, 36, 37, 38, 39, 40, 41, 42, 43, 44, 45, 46, 47, 48, 49, 50, 51, 52, 53, 54, 55, 64, 65, 66, 67, 68, 69, 70, 71, 72, 73, 74, 75, 76, 77, 78] (by decide +kernel) (by decide +kernel)
set_option maxRecDepth 20000 in
theorem gX1_run_X1_work : GoodIn wsX1_run (wsV RX1 97 RX1 yX1_work wsX1_work) := goodIn_app (goodIn_of _ (by decide +kernel)) ggX1_run_X1_work
set_option maxRecDepth 20000 in
theorem ggX1_run_X1_unwind : GoodIn wsX1_run wsX1_unwind := goodIn_r _ [59, 4, 13, 12, 2, 6, 3, 5, 15, 16, 17, 10, 18, 14, 19, 20, 21, 22, 23, 24, 25, 26, 27, 60, 61, 62, 63, 64, 65, 66, 67, 68, 69, 70, 71, 72, 73, 74, 75, 76, 77, 78] (by decide +kernel) (by decide +kernel)
set_option maxRecDepth 20000 in
theorem gX1_run_X1_unwind : GoodIn wsX1_run (wsV RX1 100 RX1 yX1_unwind wsX1_unwind) := goodIn_app (goodIn_of _ (by decide +kernel)) ggX1_run_X1_unwind
theorem dX1_run_0 : decode cX1_run 0 = .ok (.aload_n 0, 1) := by decide +kernel
theorem dX1_run_1 : decode cX1_run 1 = .ok (.getfield 43, 3) := by decide +kernel
theorem dX1_run_4 : decode cX1_run 4 = .ok (.ifCond .le 5, 3) := by decide +kernel
theorem dX1_run_7 : decode cX1_run 7 = .ok (.iconst (-1), 1) := by decide +kernel
theorem dX1_run_8 : decode cX1_run 8 = .ok (.ireturn, 1) := by decide +kernel
theorem dX1_run_9 : decode cX1_run 9 = .ok (.iconst 0, 1) := by decide +kernel
theorem dX1_run_10 : decode cX1_run 10 = .ok (.istore_n 1, 1) := by decide +kernel
theorem dX1_run_11 : decode cX1_run 11 = .ok (.iload_n 1, 1) := by decide +kernel
theorem dX1_run_12 : decode cX1_run 12 = .ok (.bipush 24, 2) := by decide +kernel
theorem dX1_run_14 : decode cX1_run 14 = .ok (.if_icmp .ge 17, 3) := by decide +kernel
theorem dX1_run_17 : decode cX1_run 17 = .ok (.aload_n 0, 1) := by decide +kernel
theorem dX1_run_18 : decode cX1_run 18 = .ok (.getfield 26, 3) := by decide +kernel
theorem dX1_run_21 : decode cX1_run 21 = .ok (.iload_n 1, 1) := by decide +kernel
theorem dX1_run_22 : decode cX1_run 22 = .ok (.bipush (-9), 2) := by decide +kernel
theorem dX1_run_24 : decode cX1_run 24 = .ok (.iastore, 1) := by decide +kernel
theorem dX1_run_25 : decode cX1_run 25 = .ok (.iinc 1 1, 3) := by decide +kernel
theorem dX1_run_28 : decode cX1_run 28 = .ok (.goto (-17), 3) := by decide +kernel
theorem dX1_run_31 : decode cX1_run 31 = .ok (.aload_n 0, 1) := by decide +kernel
theorem dX1_run_32 : decode cX1_run 32 = .ok (.iconst 0, 1) := by decide +kernel
theorem dX1_run_33 : decode cX1_run 33 = .ok (.putfield 94, 3) := by decide +kernel
theorem dX1_run_36 : decode cX1_run 36 = .ok (.aload_n 0, 1) := by decide +kernel
theorem dX1_run_37 : decode cX1_run 37 = .ok (.iconst 0, 1) := by decide +kernel
theorem dX1_run_38 : decode cX1_run 38 = .ok (.putfield 65, 3) := by decide +kernel
theorem dX1_run_41 : decode cX1_run 41 = .ok (.iconst 0, 1) := by decide +kernel
theorem dX1_run_42 : decode cX1_run 42 = .ok (.istore_n 1, 1) := by decide +kernel
theorem dX1_run_43 : decode cX1_run 43 = .ok (.iconst 0, 1) := by decide +kernel
theorem dX1_run_44 : decode cX1_run 44 = .ok (.istore_n 2, 1) := by decide +kernel
theorem dX1_run_45 : decode cX1_run 45 = .ok (.iload_n 2, 1) := by decide +kernel
theorem dX1_run_46 : decode cX1_run 46 = .ok (.aload_n 0, 1) := by decide +kernel
theorem dX1_run_47 : decode cX1_run 47 = .ok (.getfield 40, 3) := by decide +kernel
theorem dX1_run_50 : decode cX1_run 50 = .ok (.if_icmp .ge 63, 3) := by decide +kernel
theorem dX1_run_53 : decode cX1_run 53 = .ok (.aload_n 0, 1) := by decide +kernel
theorem dX1_run_54 : decode cX1_run 54 = .ok (.iconst 0, 1) := by decide +kernel
theorem dX1_run_55 : decode cX1_run 55 = .ok (.putfield 54, 3) := by decide +kernel
theorem dX1_run_58 : decode cX1_run 58 = .ok (.aload_n 0, 1) := by decide +kernel
theorem dX1_run_59 : decode cX1_run 59 = .ok (.iload_n 2, 1) := by decide +kernel
theorem dX1_run_60 : decode cX1_run 60 = .ok (.invokevirtual 97, 3) := by decide +kernel
theorem dX1_run_63 : decode cX1_run 63 = .ok (.istore_n 3, 1) := by decide +kernel
theorem dX1_run_64 : decode cX1_run 64 = .ok (.iinc 1 1, 3) := by decide +kernel
theorem dX1_run_67 : decode cX1_run 67 = .ok (.aload_n 0, 1) := by decide +kernel
theorem dX1_run_68 : decode cX1_run 68 = .ok (.getfield 26, 3) := by decide +kernel
theorem dX1_run_71 : decode cX1_run 71 = .ok (.iload_n 2, 1) := by decide +kernel
theorem dX1_run_72 : decode cX1_run 72 = .ok (.aload_n 0, 1) := by decide +kernel
theorem dX1_run_73 : decode cX1_run 73 = .ok (.getfield 54, 3) := by decide +kernel
theorem dX1_run_76 : decode cX1_run 76 = .ok (.ifCond .ne 7, 3) := by decide +kernel
theorem dX1_run_79 : decode cX1_run 79 = .ok (.iload_n 3, 1) := by decide +kernel
theorem dX1_run_80 : decode cX1_run 80 = .ok (.goto 11, 3) := by decide +kernel
theorem dX1_run_83 : decode cX1_run 83 = .ok (.aload_n 0, 1) := by decide +kernel
theorem dX1_run_84 : decode cX1_run 84 = .ok (.getfield 54, 3) := by decide +kernel
theorem dX1_run_87 : decode cX1_run 87 = .ok (.sipush 1000, 3) := by decide +kernel
theorem dX1_run_90 : decode cX1_run 90 = .ok (.isub, 1) := by decide +kernel
theorem dX1_run_91 : decode cX1_run 91 = .ok (.iastore, 1) := by decide +kernel
theorem dX1_run_92 : decode cX1_run 92 = .ok (.aload_n 0, 1) := by decide +kernel
theorem dX1_run_93 : decode cX1_run 93 = .ok (.getfield 54, 3) := by decide +kernel
theorem dX1_run_96 : decode cX1_run 96 = .ok (.ifCond .ne 9, 3) := by decide +kernel
theorem dX1_run_99 : decode cX1_run 99 = .ok (.iload_n 2, 1) := by decide +kernel
theorem dX1_run_100 : decode cX1_run 100 = .ok (.iconst 1, 1) := by decide +kernel
theorem dX1_run_101 : decode cX1_run 101 = .ok (.iadd, 1) := by decide +kernel
theorem dX1_run_102 : decode cX1_run 102 = .ok (.goto 7, 3) := by decide +kernel
theorem dX1_run_105 : decode cX1_run 105 = .ok (.aload_n 0, 1) := by decide +kernel
theorem dX1_run_106 : decode cX1_run 106 = .ok (.invokevirtual 100, 3) := by decide +kernel
theorem dX1_run_109 : decode cX1_run 109 = .ok (.istore_n 2, 1) := by decide +kernel
theorem dX1_run_110 : decode cX1_run 110 = .ok (.goto (-65), 3) := by decide +kernel
theorem dX1_run_113 : decode cX1_run 113 = .ok (.iload_n 1, 1) := by decide +kernel
theorem dX1_run_114 : decode cX1_run 114 = .ok (.ireturn, 1) := by decide +kernel
set_option maxRecDepth 20000 in
theorem ggX1_result_X1_in : GoodIn wsX1_result wsX1_in := goodIn_r _ [5] (by decide +kernel) (by decide +kernel)
set_option maxRecDepth 20000 in
theorem gX1_result_X1_in : GoodIn wsX1_result (va_wsS RX1 32 yX1_in wsX1_in) := goodIn_app (goodIn_of _ (by decide +kernel)) ggX1_result_X1_in
theorem dX1_result_0 : decode cX1_result 0 = .ok (.iload_n 1, 1) := by decide +kernel
theorem dX1_result_1 : decode cX1_result 1 = .ok (.bipush 24, 2) := by decide +kernel
theorem dX1_result_3 : decode cX1_result 3 = .ok (.invokestatic 32, 3) := by decide +kernel
theorem dX1_result_6 : decode cX1_result 6 = .ok (.ifCond .eq 12, 3) := by decide +kernel
theorem dX1_result_9 : decode cX1_result 9 = .ok (.aload_n 0, 1) := by decide +kernel
theorem dX1_result_10 : decode cX1_result 10 = .ok (.getfield 26, 3) := by decide +kernel
theorem dX1_result_13 : decode cX1_result 13 = .ok (.iload_n 1, 1) := by decide +kernel
theorem dX1_result_14 : decode cX1_result 14 = .ok (.iaload, 1) := by decide +kernel
theorem dX1_result_15 : decode cX1_result 15 = .ok (.goto 4, 3) := by decide +kernel
theorem dX1_result_18 : decode cX1_result 18 = .ok (.iconst (-1), 1) := by decide +kernel
theorem dX1_result_19 : decode cX1_result 19 = .ok (.ireturn, 1) := by decide +kernel
theorem dX1_failure_0 : decode cX1_failure 0 = .ok (.aload_n 0, 1) := by decide +kernel
theorem dX1_failure_1 : decode cX1_failure 1 = .ok (.getfield 94, 3) := by decide +kernel
theorem dX1_failure_4 : decode cX1_failure 4 = .ok (.ireturn, 1) := by decide +kernel
set_option maxRecDepth 20000 in
theorem ggX1_state_X1_in : GoodIn wsX1_state wsX1_in := goodIn_r _ [10] (by decide +kernel) (by decide +kernel)
set_option maxRecDepth 20000 in
theorem gX1_state_X1_in : GoodIn wsX1_state (va_wsS RX1 32 yX1_in wsX1_in) := goodIn_app (goodIn_of _ (by decide +kernel)) ggX1_state_X1_in
theorem dX1_state_0 : decode cX1_state 0 = .ok (.iload_n 1, 1) := by decide +kernel
theorem dX1_state_1 : decode cX1_state 1 = .ok (.ifCond .ne 8, 3) := by decide +kernel
theorem dX1_state_4 : decode cX1_state 4 = .ok (.aload_n 0, 1) := by decide +kernel
theorem dX1_state_5 : decode cX1_state 5 = .ok (.getfield 40, 3) := by decide +kernel
theorem dX1_state_8 : decode cX1_state 8 = .ok (.ireturn, 1) := by decide +kernel
theorem dX1_state_9 : decode cX1_state 9 = .ok (.iload_n 1, 1) := by decide +kernel
theorem dX1_state_10 : decode cX1_state 10 = .ok (.iconst 1, 1) := by decide +kernel
theorem dX1_state_11 : decode cX1_state 11 = .ok (.if_icmp .ne 8, 3) := by decide +kernel
theorem dX1_state_14 : decode cX1_state 14 = .ok (.aload_n 0, 1) := by decide +kernel
theorem dX1_state_15 : decode cX1_state 15 = .ok (.getfield 43, 3) := by decide +kernel
theorem dX1_state_18 : decode cX1_state 18 = .ok (.ireturn, 1) := by decide +kernel
theorem dX1_state_19 : decode cX1_state 19 = .ok (.iload_n 1, 1) := by decide +kernel
theorem dX1_state_20 : decode cX1_state 20 = .ok (.iconst 2, 1) := by decide +kernel
theorem dX1_state_21 : decode cX1_state 21 = .ok (.if_icmp .ne 8, 3) := by decide +kernel
theorem dX1_state_24 : decode cX1_state 24 = .ok (.aload_n 0, 1) := by decide +kernel
theorem dX1_state_25 : decode cX1_state 25 = .ok (.getfield 72, 3) := by decide +kernel
theorem dX1_state_28 : decode cX1_state 28 = .ok (.ireturn, 1) := by decide +kernel
theorem dX1_state_29 : decode cX1_state 29 = .ok (.iload_n 1, 1) := by decide +kernel
theorem dX1_state_30 : decode cX1_state 30 = .ok (.iconst 3, 1) := by decide +kernel
theorem dX1_state_31 : decode cX1_state 31 = .ok (.if_icmp .ne 16, 3) := by decide +kernel
theorem dX1_state_34 : decode cX1_state 34 = .ok (.aload_n 0, 1) := by decide +kernel
theorem dX1_state_35 : decode cX1_state 35 = .ok (.getfield 61, 3) := by decide +kernel
theorem dX1_state_38 : decode cX1_state 38 = .ok (.ifCond .eq 7, 3) := by decide +kernel
theorem dX1_state_41 : decode cX1_state 41 = .ok (.iconst 1, 1) := by decide +kernel
theorem dX1_state_42 : decode cX1_state 42 = .ok (.goto 4, 3) := by decide +kernel
theorem dX1_state_45 : decode cX1_state 45 = .ok (.iconst 0, 1) := by decide +kernel
theorem dX1_state_46 : decode cX1_state 46 = .ok (.ireturn, 1) := by decide +kernel
theorem dX1_state_47 : decode cX1_state 47 = .ok (.iload_n 1, 1) := by decide +kernel
theorem dX1_state_48 : decode cX1_state 48 = .ok (.bipush 10, 2) := by decide +kernel
theorem dX1_state_50 : decode cX1_state 50 = .ok (.invokestatic 32, 3) := by decide +kernel
theorem dX1_state_53 : decode cX1_state 53 = .ok (.ifCond .ne 5, 3) := by decide +kernel
theorem dX1_state_56 : decode cX1_state 56 = .ok (.iconst (-1), 1) := by decide +kernel
theorem dX1_state_57 : decode cX1_state 57 = .ok (.ireturn, 1) := by decide +kernel
theorem dX1_state_58 : decode cX1_state 58 = .ok (.iconst 0, 1) := by decide +kernel
theorem dX1_state_59 : decode cX1_state 59 = .ok (.istore_n 2, 1) := by decide +kernel
theorem dX1_state_60 : decode cX1_state 60 = .ok (.iload_n 1, 1) := by decide +kernel
theorem dX1_state_61 : decode cX1_state 61 = .ok (.iconst 4, 1) := by decide +kernel
theorem dX1_state_62 : decode cX1_state 62 = .ok (.if_icmp .ne 30, 3) := by decide +kernel
theorem dX1_state_65 : decode cX1_state 65 = .ok (.iconst 0, 1) := by decide +kernel
theorem dX1_state_66 : decode cX1_state 66 = .ok (.istore_n 3, 1) := by decide +kernel
theorem dX1_state_67 : decode cX1_state 67 = .ok (.iload_n 3, 1) := by decide +kernel
theorem dX1_state_68 : decode cX1_state 68 = .ok (.iconst 4, 1) := by decide +kernel
theorem dX1_state_69 : decode cX1_state 69 = .ok (.if_icmp .ge 21, 3) := by decide +kernel
theorem dX1_state_72 : decode cX1_state 72 = .ok (.aload_n 0, 1) := by decide +kernel
theorem dX1_state_73 : decode cX1_state 73 = .ok (.getfield 16, 3) := by decide +kernel
theorem dX1_state_76 : decode cX1_state 76 = .ok (.iload_n 3, 1) := by decide +kernel
theorem dX1_state_77 : decode cX1_state 77 = .ok (.baload, 1) := by decide +kernel
theorem dX1_state_78 : decode cX1_state 78 = .ok (.ifCond .eq 6, 3) := by decide +kernel
theorem dX1_state_81 : decode cX1_state 81 = .ok (.iinc 2 1, 3) := by decide +kernel
theorem dX1_state_84 : decode cX1_state 84 = .ok (.iinc 3 1, 3) := by decide +kernel
theorem dX1_state_87 : decode cX1_state 87 = .ok (.goto (-20), 3) := by decide +kernel
theorem dX1_state_90 : decode cX1_state 90 = .ok (.iload_n 2, 1) := by decide +kernel
theorem dX1_state_91 : decode cX1_state 91 = .ok (.ireturn, 1) := by decide +kernel
theorem dX1_state_92 : decode cX1_state 92 = .ok (.aload_n 0, 1) := by decide +kernel
theorem dX1_state_93 : decode cX1_state 93 = .ok (.getfield 7, 3) := by decide +kernel
theorem dX1_state_96 : decode cX1_state 96 = .ok (.iload_n 1, 1) := by decide +kernel
theorem dX1_state_97 : decode cX1_state 97 = .ok (.iconst 5, 1) := by decide +kernel
theorem dX1_state_98 : decode cX1_state 98 = .ok (.isub, 1) := by decide +kernel
theorem dX1_state_99 : decode cX1_state 99 = .ok (.iaload, 1) := by decide +kernel
theorem dX1_state_100 : decode cX1_state 100 = .ok (.istore_n 3, 1) := by decide +kernel
theorem dX1_state_101 : decode cX1_state 101 = .ok (.iload_n 3, 1) := by decide +kernel
theorem dX1_state_102 : decode cX1_state 102 = .ok (.ifCond .eq 19, 3) := by decide +kernel
theorem dX1_state_105 : decode cX1_state 105 = .ok (.aload_n 0, 1) := by decide +kernel
theorem dX1_state_106 : decode cX1_state 106 = .ok (.getfield 7, 3) := by decide +kernel
theorem dX1_state_109 : decode cX1_state 109 = .ok (.iload_n 2, 1) := by decide +kernel
theorem dX1_state_110 : decode cX1_state 110 = .ok (.iaload, 1) := by decide +kernel
theorem dX1_state_111 : decode cX1_state 111 = .ok (.iload_n 3, 1) := by decide +kernel
theorem dX1_state_112 : decode cX1_state 112 = .ok (.if_icmp .eq 9, 3) := by decide +kernel
theorem dX1_state_115 : decode cX1_state 115 = .ok (.iinc 2 1, 3) := by decide +kernel
theorem dX1_state_118 : decode cX1_state 118 = .ok (.goto (-17), 3) := by decide +kernel
theorem dX1_state_121 : decode cX1_state 121 = .ok (.iload_n 3, 1) := by decide +kernel
theorem dX1_state_122 : decode cX1_state 122 = .ok (.ifCond .ne 8, 3) := by decide +kernel
theorem dX1_state_125 : decode cX1_state 125 = .ok (.bipush (-2), 2) := by decide +kernel
theorem dX1_state_127 : decode cX1_state 127 = .ok (.goto 4, 3) := by decide +kernel
theorem dX1_state_130 : decode cX1_state 130 = .ok (.iload_n 2, 1) := by decide +kernel
theorem dX1_state_131 : decode cX1_state 131 = .ok (.ireturn, 1) := by decide +kernel
theorem dJ9_floorMod_7cf53_0 : decode cJ9_floorMod_7cf53 0 = .ok (.iload_n 0, 1) := by decide +kernel
theorem dJ9_floorMod_7cf53_1 : decode cJ9_floorMod_7cf53 1 = .ok (.iload_n 1, 1) := by decide +kernel
theorem dJ9_floorMod_7cf53_2 : decode cJ9_floorMod_7cf53 2 = .ok (.irem, 1) := by decide +kernel
theorem dJ9_floorMod_7cf53_3 : decode cJ9_floorMod_7cf53 3 = .ok (.istore_n 2, 1) := by decide +kernel
theorem dJ9_floorMod_7cf53_4 : decode cJ9_floorMod_7cf53 4 = .ok (.iload_n 0, 1) := by decide +kernel
theorem dJ9_floorMod_7cf53_5 : decode cJ9_floorMod_7cf53 5 = .ok (.iload_n 1, 1) := by decide +kernel
theorem dJ9_floorMod_7cf53_6 : decode cJ9_floorMod_7cf53 6 = .ok (.ixor, 1) := by decide +kernel
theorem dJ9_floorMod_7cf53_7 : decode cJ9_floorMod_7cf53 7 = .ok (.ifCond .ge 11, 3) := by decide +kernel
theorem dJ9_floorMod_7cf53_10 : decode cJ9_floorMod_7cf53 10 = .ok (.iload_n 2, 1) := by decide +kernel
theorem dJ9_floorMod_7cf53_11 : decode cJ9_floorMod_7cf53 11 = .ok (.ifCond .eq 7, 3) := by decide +kernel
theorem dJ9_floorMod_7cf53_14 : decode cJ9_floorMod_7cf53 14 = .ok (.iload_n 2, 1) := by decide +kernel
theorem dJ9_floorMod_7cf53_15 : decode cJ9_floorMod_7cf53 15 = .ok (.iload_n 1, 1) := by decide +kernel
theorem dJ9_floorMod_7cf53_16 : decode cJ9_floorMod_7cf53 16 = .ok (.iadd, 1) := by decide +kernel
theorem dJ9_floorMod_7cf53_17 : decode cJ9_floorMod_7cf53 17 = .ok (.ireturn, 1) := by decide +kernel
theorem dJ9_floorMod_7cf53_18 : decode cJ9_floorMod_7cf53 18 = .ok (.iload_n 2, 1) := by decide +kernel
theorem dJ9_floorMod_7cf53_19 : decode cJ9_floorMod_7cf53 19 = .ok (.ireturn, 1) := by decide +kernel
theorem dJ9_abs_0f7a4_0 : decode cJ9_abs_0f7a4 0 = .ok (.iload_n 0, 1) := by decide +kernel
theorem dJ9_abs_0f7a4_1 : decode cJ9_abs_0f7a4 1 = .ok (.ifCond .ge 8, 3) := by decide +kernel
theorem dJ9_abs_0f7a4_4 : decode cJ9_abs_0f7a4 4 = .ok (.iload_n 0, 1) := by decide +kernel
theorem dJ9_abs_0f7a4_5 : decode cJ9_abs_0f7a4 5 = .ok (.ineg, 1) := by decide +kernel
theorem dJ9_abs_0f7a4_6 : decode cJ9_abs_0f7a4 6 = .ok (.goto 4, 3) := by decide +kernel
theorem dJ9_abs_0f7a4_9 : decode cJ9_abs_0f7a4 9 = .ok (.iload_n 0, 1) := by decide +kernel
theorem dJ9_abs_0f7a4_10 : decode cJ9_abs_0f7a4 10 = .ok (.ireturn, 1) := by decide +kernel
theorem dJ7_fill_53178_0 : decode cJ7_fill_53178 0 = .ok (.iconst 0, 1) := by decide +kernel
theorem dJ7_fill_53178_1 : decode cJ7_fill_53178 1 = .ok (.istore_n 2, 1) := by decide +kernel
theorem dJ7_fill_53178_2 : decode cJ7_fill_53178 2 = .ok (.aload_n 0, 1) := by decide +kernel
theorem dJ7_fill_53178_3 : decode cJ7_fill_53178 3 = .ok (.arraylength, 1) := by decide +kernel
theorem dJ7_fill_53178_4 : decode cJ7_fill_53178 4 = .ok (.istore_n 3, 1) := by decide +kernel
theorem dJ7_fill_53178_5 : decode cJ7_fill_53178 5 = .ok (.iload_n 2, 1) := by decide +kernel
theorem dJ7_fill_53178_6 : decode cJ7_fill_53178 6 = .ok (.iload_n 3, 1) := by decide +kernel
theorem dJ7_fill_53178_7 : decode cJ7_fill_53178 7 = .ok (.if_icmp .ge 13, 3) := by decide +kernel
theorem dJ7_fill_53178_10 : decode cJ7_fill_53178 10 = .ok (.aload_n 0, 1) := by decide +kernel
theorem dJ7_fill_53178_11 : decode cJ7_fill_53178 11 = .ok (.iload_n 2, 1) := by decide +kernel
theorem dJ7_fill_53178_12 : decode cJ7_fill_53178 12 = .ok (.iload_n 1, 1) := by decide +kernel
theorem dJ7_fill_53178_13 : decode cJ7_fill_53178 13 = .ok (.iastore, 1) := by decide +kernel
theorem dJ7_fill_53178_14 : decode cJ7_fill_53178 14 = .ok (.iinc 2 1, 3) := by decide +kernel
theorem dJ7_fill_53178_17 : decode cJ7_fill_53178 17 = .ok (.goto (-12), 3) := by decide +kernel
theorem dJ7_fill_53178_20 : decode cJ7_fill_53178 20 = .ok (.return_, 1) := by decide +kernel
set_option maxRecDepth 20000 in
theorem ggL_law_X0_init : GoodIn wsL_law wsX0_init := goodIn_r _ [8, 9, 10, 11, 12, 13, 14, 15, 16, 17, 18, 19, 20, 21, 22, 23, 24, 25, 26, 27, 28, 29, 30, 31, 32, 33, 34, 244, 245, 246, 247, 248, 249, 250, 251, 252, 253, 254, 255, 256, 257, 258, 259, 260] (by decide +kernel) (by decide +kernel)
set_option maxRecDepth 20000 in
theorem gL_law_X0_init : GoodIn wsL_law (wsX0_init) := ggL_law_X0_init
set_option maxRecDepth 20000 in
theorem ggL_law_X1_init : GoodIn wsL_law wsX1_init := goodIn_r _ [37, 38, 10, 11, 12, 39, 40, 15, 41, 42, 43, 44, 45, 261, 262, 263, 264, 265, 266, 267, 268, 269, 270, 271, 272, 273, 274, 275] (by decide +kernel) (by decide +kernel)
set_option maxRecDepth 20000 in
theorem gL_law_X1_init : GoodIn wsL_law (wsX1_init) := ggL_law_X1_init
set_option maxRecDepth 20000 in
theorem ggL_law_X0_hold : GoodIn wsL_law wsX0_hold := goodIn_r _ [49, 14, 13, 244, 245, 246, 247, 248, 249, 250, 251, 252, 253, 254, 255, 256, 257, 258, 259, 260] (by decide +kernel) (by decide +kernel)
set_option maxRecDepth 20000 in
theorem gL_law_X0_hold : GoodIn wsL_law (wsV RL 13 RX0 yX0_hold wsX0_hold) := goodIn_app (goodIn_of _ (by decide +kernel)) ggL_law_X0_hold
set_option maxRecDepth 20000 in
theorem ggL_law_X1_hold : GoodIn wsL_law wsX1_hold := goodIn_r _ [53, 54, 39, 55, 56, 5, 57, 261, 262, 263, 264, 265, 266, 267, 268, 269, 270, 271, 272, 273, 274, 275] (by decide +kernel) (by decide +kernel)
set_option maxRecDepth 20000 in
theorem gL_law_X1_hold : GoodIn wsL_law (wsV RL 17 RX1 yX1_hold wsX1_hold) := goodIn_app (goodIn_of _ (by decide +kernel)) ggL_law_X1_hold
set_option maxRecDepth 20000 in
theorem ggL_law_X0_step : GoodIn wsL_law wsX0_step := goodIn_r _ [61, 23, 25, 24, 19, 20, 21, 22, 62, 63, 2, 64, 244, 245, 246, 247, 248, 249, 250, 251, 252, 253, 254, 255, 256, 257, 258, 259, 260] (by decide +kernel) (by decide +kernel)
set_option maxRecDepth 20000 in
theorem gL_law_X0_step : GoodIn wsL_law (wsV RL 18 RX0 yX0_step wsX0_step) := goodIn_app (goodIn_of _ (by decide +kernel)) ggL_law_X0_step
set_option maxRecDepth 20000 in
theorem ggL_law_X1_step : GoodIn wsL_law wsX1_step := goodIn_r _ [68, 69, 70, 42, 43, 55, 56, 5, 57, 261, 262, 263, 264, 265, 266, 267, 268, 269, 270, 271, 272, 273, 274, 275] (by decide +kernel) (by decide +kernel)
set_option maxRecDepth 20000 in
theorem gL_law_X1_step : GoodIn wsL_law (wsV RL 21 RX1 yX1_step wsX1_step) := goodIn_app (goodIn_of _ (by decide +kernel)) ggL_law_X1_step
set_option maxRecDepth 20000 in
theorem ggL_law_X0_clear : GoodIn wsL_law wsX0_clear := goodIn_r _ [74, 23, 24, 25, 244, 245, 246, 247, 248, 249, 250, 251, 252, 253, 254, 255, 256, 257, 258, 259, 260] (by decide +kernel) (by decide +kernel)
set_option maxRecDepth 20000 in
theorem gL_law_X0_clear : GoodIn wsL_law (wsV RL 22 RX0 yX0_clear wsX0_clear) := goodIn_app (goodIn_of _ (by decide +kernel)) ggL_law_X0_clear
set_option maxRecDepth 20000 in
theorem ggL_law_X1_clear : GoodIn wsL_law wsX1_clear := goodIn_r _ [78, 69, 70, 261, 262, 263, 264, 265, 266, 267, 268, 269, 270, 271, 272, 273, 274, 275] (by decide +kernel) (by decide +kernel)
set_option maxRecDepth 20000 in
theorem gL_law_X1_clear : GoodIn wsL_law (wsV RL 26 RX1 yX1_clear wsX1_clear) := goodIn_app (goodIn_of _ (by decide +kernel)) ggL_law_X1_clear
set_option maxRecDepth 20000 in
theorem ggL_law_X0_run : GoodIn wsL_law wsX0_run := goodIn_r _ [82, 24, 26, 28, 27, 30, 23, 31, 32, 33, 34, 83, 84, 85, 2, 86, 29, 87, 88, 89, 90, 20, 19, 21, 18, 16, 17, 91, 92, 93, 94, 95, 96, 97, 98, 99, 100, 101, 102, 103, 104, 105, 106, 107, 108, 109, 110, 13, 111, 112, 113, 114, 115, 116, 117, 118, 119, 120, 121, 122, 123, 124, 125, 126, 127, 128, 129, 130, 131, 132, 133, 134, 135, 136, 137, 138, 139, 140, 141, 142, 143, 144, 145, 146, 147, 148, 149, 150, 151, 152, 153, 154, 22, 244, 245, 246, 247, 248, 249, 250, 251, 252, 253, 254, 255, 256, 257, 258, 259, 260] (by decide +kernel) (by decide +kernel)
set_option maxRecDepth 20000 in
theorem gL_law_X0_run : GoodIn wsL_law (wsV RL 27 RX0 yX0_run wsX0_run) := goodIn_app (goodIn_of _ (by decide +kernel)) ggL_law_X0_run
set_option maxRecDepth 20000 in
theorem ggL_law_X1_run : GoodIn wsL_law wsX1_run := goodIn_r _ [158, 70, 44, 159, 160, 69, 161, 162, 163, 164, 5, 165, 42, 45, 40, 166, 167, 168, 169, 170, 171, 172, 173, 39, 43, 174, 175, 176, 177, 178, 179, 180, 181, 182, 183, 184, 185, 186, 187, 188, 189, 190, 191, 192, 193, 194, 195, 196, 197, 198, 41, 199, 200, 201, 202, 203, 204, 205, 206, 207, 208, 209, 210, 211, 261, 262, 263, 264, 265, 266, 267, 268, 269, 270, 271, 272, 273, 274, 275] (by decide +kernel) (by decide +kernel)
set_option maxRecDepth 20000 in
theorem gL_law_X1_run : GoodIn wsL_law (wsV RL 30 RX1 yX1_run wsX1_run) := goodIn_app (goodIn_of _ (by decide +kernel)) ggL_law_X1_run
set_option maxRecDepth 20000 in
theorem ggL_law_X0_result : GoodIn wsL_law wsX0_result := goodIn_r _ [215, 26, 244, 245, 246, 247, 248, 249, 250, 251, 252, 253, 254, 255, 256, 257, 258, 259, 260] (by decide +kernel) (by decide +kernel)
set_option maxRecDepth 20000 in
theorem gL_law_X0_result : GoodIn wsL_law (wsV RL 31 RX0 yX0_result wsX0_result) := goodIn_app (goodIn_of _ (by decide +kernel)) ggL_law_X0_result
set_option maxRecDepth 20000 in
theorem ggL_law_X1_result : GoodIn wsL_law wsX1_result := goodIn_r _ [219, 44, 55, 56, 5, 57, 261, 262, 263, 264, 265, 266, 267, 268, 269, 270, 271, 272, 273, 274, 275] (by decide +kernel) (by decide +kernel)
set_option maxRecDepth 20000 in
theorem gL_law_X1_result : GoodIn wsL_law (wsV RL 35 RX1 yX1_result wsX1_result) := goodIn_app (goodIn_of _ (by decide +kernel)) ggL_law_X1_result
set_option maxRecDepth 20000 in
theorem ggL_law_X0_failure : GoodIn wsL_law wsX0_failure := goodIn_r _ [223, 27, 244, 245, 246, 247, 248, 249, 250, 251, 252, 253, 254, 255, 256, 257, 258, 259, 260] (by decide +kernel) (by decide +kernel)
set_option maxRecDepth 20000 in
theorem gL_law_X0_failure : GoodIn wsL_law (wsV RL 36 RX0 yX0_failure wsX0_failure) := goodIn_app (goodIn_of _ (by decide +kernel)) ggL_law_X0_failure
set_option maxRecDepth 20000 in
theorem ggL_law_X1_failure : GoodIn wsL_law wsX1_failure := goodIn_r _ [227, 159, 261, 262, 263, 264, 265, 266, 267, 268, 269, 270, 271, 272, 273, 274, 275] (by decide +kernel) (by decide +kernel)
set_option maxRecDepth 20000 in
theorem gL_law_X1_failure : GoodIn wsL_law (wsV RL 39 RX1 yX1_failure wsX1_failure) := goodIn_app (goodIn_of _ (by decide +kernel)) ggL_law_X1_failure
set_option maxRecDepth 20000 in
theorem ggL_law_X0_state : GoodIn wsL_law wsX0_state := goodIn_r _ [231, 23, 24, 17, 18, 127, 128, 2, 129, 232, 233, 234, 235, 16, 236, 237, 238, 239, 13, 107, 108, 109, 110, 244, 245, 246, 247, 248, 249, 250, 251, 252, 253, 254, 255, 256, 257, 258, 259, 260] (by decide +kernel) (by decide +kernel)
set_option maxRecDepth 20000 in
theorem gL_law_X0_state : GoodIn wsL_law (wsV RL 40 RX0 yX0_state wsX0_state) := goodIn_app (goodIn_of _ (by decide +kernel)) ggL_law_X0_state
set_option maxRecDepth 20000 in
theorem ggL_law_X1_state : GoodIn wsL_law wsX1_state := goodIn_r _ [243, 69, 70, 199, 194, 41, 39, 55, 56, 5, 57, 261, 262, 263, 264, 265, 266, 267, 268, 269, 270, 271, 272, 273, 274, 275] (by decide +kernel) (by decide +kernel)
set_option maxRecDepth 20000 in
theorem gL_law_X1_state : GoodIn wsL_law (wsV RL 43 RX1 yX1_state wsX1_state) := goodIn_app (goodIn_of _ (by decide +kernel)) ggL_law_X1_state
theorem dL_law_0 : decode cL_law 0 = .ok (.new 7, 3) := by decide +kernel
theorem dL_law_3 : decode cL_law 3 = .ok (.dup, 1) := by decide +kernel
theorem dL_law_4 : decode cL_law 4 = .ok (.invokespecial 9, 3) := by decide +kernel
theorem dL_law_7 : decode cL_law 7 = .ok (.astore_n 1, 1) := by decide +kernel
theorem dL_law_8 : decode cL_law 8 = .ok (.new 10, 3) := by decide +kernel
theorem dL_law_11 : decode cL_law 11 = .ok (.dup, 1) := by decide +kernel
theorem dL_law_12 : decode cL_law 12 = .ok (.invokespecial 12, 3) := by decide +kernel
theorem dL_law_15 : decode cL_law 15 = .ok (.astore_n 2, 1) := by decide +kernel
theorem dL_law_16 : decode cL_law 16 = .ok (.iconst 0, 1) := by decide +kernel
theorem dL_law_17 : decode cL_law 17 = .ok (.istore_n 3, 1) := by decide +kernel
theorem dL_law_18 : decode cL_law 18 = .ok (.iload_n 3, 1) := by decide +kernel
theorem dL_law_19 : decode cL_law 19 = .ok (.aload_n 0, 1) := by decide +kernel
theorem dL_law_20 : decode cL_law 20 = .ok (.arraylength, 1) := by decide +kernel
theorem dL_law_21 : decode cL_law 21 = .ok (.iconst 3, 1) := by decide +kernel
theorem dL_law_22 : decode cL_law 22 = .ok (.isub, 1) := by decide +kernel
theorem dL_law_23 : decode cL_law 23 = .ok (.if_icmp .gt 210, 3) := by decide +kernel
theorem dL_law_26 : decode cL_law 26 = .ok (.aload_n 0, 1) := by decide +kernel
theorem dL_law_27 : decode cL_law 27 = .ok (.iload_n 3, 1) := by decide +kernel
theorem dL_law_28 : decode cL_law 28 = .ok (.iaload, 1) := by decide +kernel
theorem dL_law_29 : decode cL_law 29 = .ok (.bipush 7, 2) := by decide +kernel
theorem dL_law_31 : decode cL_law 31 = .ok (.iand, 1) := by decide +kernel
theorem dL_law_32 : decode cL_law 32 = .ok (.tableswitch 195 0 6 #[44, 77, 110, 123, 136, 159, 172], 44) := by decide +kernel
theorem dL_law_76 : decode cL_law 76 = .ok (.aload_n 1, 1) := by decide +kernel
theorem dL_law_77 : decode cL_law 77 = .ok (.aload_n 0, 1) := by decide +kernel
theorem dL_law_78 : decode cL_law 78 = .ok (.iload_n 3, 1) := by decide +kernel
theorem dL_law_79 : decode cL_law 79 = .ok (.iconst 1, 1) := by decide +kernel
theorem dL_law_80 : decode cL_law 80 = .ok (.iadd, 1) := by decide +kernel
theorem dL_law_81 : decode cL_law 81 = .ok (.iaload, 1) := by decide +kernel
theorem dL_law_82 : decode cL_law 82 = .ok (.aload_n 0, 1) := by decide +kernel
theorem dL_law_83 : decode cL_law 83 = .ok (.iload_n 3, 1) := by decide +kernel
theorem dL_law_84 : decode cL_law 84 = .ok (.iconst 2, 1) := by decide +kernel
theorem dL_law_85 : decode cL_law 85 = .ok (.iadd, 1) := by decide +kernel
theorem dL_law_86 : decode cL_law 86 = .ok (.iaload, 1) := by decide +kernel
theorem dL_law_87 : decode cL_law 87 = .ok (.invokevirtual 13, 3) := by decide +kernel
theorem dL_law_90 : decode cL_law 90 = .ok (.aload_n 2, 1) := by decide +kernel
theorem dL_law_91 : decode cL_law 91 = .ok (.aload_n 0, 1) := by decide +kernel
theorem dL_law_92 : decode cL_law 92 = .ok (.iload_n 3, 1) := by decide +kernel
theorem dL_law_93 : decode cL_law 93 = .ok (.iconst 1, 1) := by decide +kernel
theorem dL_law_94 : decode cL_law 94 = .ok (.iadd, 1) := by decide +kernel
theorem dL_law_95 : decode cL_law 95 = .ok (.iaload, 1) := by decide +kernel
theorem dL_law_96 : decode cL_law 96 = .ok (.aload_n 0, 1) := by decide +kernel
theorem dL_law_97 : decode cL_law 97 = .ok (.iload_n 3, 1) := by decide +kernel
theorem dL_law_98 : decode cL_law 98 = .ok (.iconst 2, 1) := by decide +kernel
theorem dL_law_99 : decode cL_law 99 = .ok (.iadd, 1) := by decide +kernel
theorem dL_law_100 : decode cL_law 100 = .ok (.iaload, 1) := by decide +kernel
theorem dL_law_101 : decode cL_law 101 = .ok (.invokevirtual 17, 3) := by decide +kernel
theorem dL_law_104 : decode cL_law 104 = .ok (.if_icmp .eq 123, 3) := by decide +kernel
theorem dL_law_107 : decode cL_law 107 = .ok (.iconst 0, 1) := by decide +kernel
theorem dL_law_108 : decode cL_law 108 = .ok (.ireturn, 1) := by decide +kernel
theorem dL_law_109 : decode cL_law 109 = .ok (.aload_n 1, 1) := by decide +kernel
theorem dL_law_110 : decode cL_law 110 = .ok (.aload_n 0, 1) := by decide +kernel
theorem dL_law_111 : decode cL_law 111 = .ok (.iload_n 3, 1) := by decide +kernel
theorem dL_law_112 : decode cL_law 112 = .ok (.iconst 1, 1) := by decide +kernel
theorem dL_law_113 : decode cL_law 113 = .ok (.iadd, 1) := by decide +kernel
theorem dL_law_114 : decode cL_law 114 = .ok (.iaload, 1) := by decide +kernel
theorem dL_law_115 : decode cL_law 115 = .ok (.aload_n 0, 1) := by decide +kernel
theorem dL_law_116 : decode cL_law 116 = .ok (.iload_n 3, 1) := by decide +kernel
theorem dL_law_117 : decode cL_law 117 = .ok (.iconst 2, 1) := by decide +kernel
theorem dL_law_118 : decode cL_law 118 = .ok (.iadd, 1) := by decide +kernel
theorem dL_law_119 : decode cL_law 119 = .ok (.iaload, 1) := by decide +kernel
theorem dL_law_120 : decode cL_law 120 = .ok (.invokevirtual 18, 3) := by decide +kernel
theorem dL_law_123 : decode cL_law 123 = .ok (.aload_n 2, 1) := by decide +kernel
theorem dL_law_124 : decode cL_law 124 = .ok (.aload_n 0, 1) := by decide +kernel
theorem dL_law_125 : decode cL_law 125 = .ok (.iload_n 3, 1) := by decide +kernel
theorem dL_law_126 : decode cL_law 126 = .ok (.iconst 1, 1) := by decide +kernel
theorem dL_law_127 : decode cL_law 127 = .ok (.iadd, 1) := by decide +kernel
theorem dL_law_128 : decode cL_law 128 = .ok (.iaload, 1) := by decide +kernel
theorem dL_law_129 : decode cL_law 129 = .ok (.aload_n 0, 1) := by decide +kernel
theorem dL_law_130 : decode cL_law 130 = .ok (.iload_n 3, 1) := by decide +kernel
theorem dL_law_131 : decode cL_law 131 = .ok (.iconst 2, 1) := by decide +kernel
theorem dL_law_132 : decode cL_law 132 = .ok (.iadd, 1) := by decide +kernel
theorem dL_law_133 : decode cL_law 133 = .ok (.iaload, 1) := by decide +kernel
theorem dL_law_134 : decode cL_law 134 = .ok (.invokevirtual 21, 3) := by decide +kernel
theorem dL_law_137 : decode cL_law 137 = .ok (.if_icmp .eq 90, 3) := by decide +kernel
theorem dL_law_140 : decode cL_law 140 = .ok (.iconst 0, 1) := by decide +kernel
theorem dL_law_141 : decode cL_law 141 = .ok (.ireturn, 1) := by decide +kernel
theorem dL_law_142 : decode cL_law 142 = .ok (.aload_n 1, 1) := by decide +kernel
theorem dL_law_143 : decode cL_law 143 = .ok (.invokevirtual 22, 3) := by decide +kernel
theorem dL_law_146 : decode cL_law 146 = .ok (.aload_n 2, 1) := by decide +kernel
theorem dL_law_147 : decode cL_law 147 = .ok (.invokevirtual 26, 3) := by decide +kernel
theorem dL_law_150 : decode cL_law 150 = .ok (.if_icmp .eq 77, 3) := by decide +kernel
theorem dL_law_153 : decode cL_law 153 = .ok (.iconst 0, 1) := by decide +kernel
theorem dL_law_154 : decode cL_law 154 = .ok (.ireturn, 1) := by decide +kernel
theorem dL_law_155 : decode cL_law 155 = .ok (.aload_n 1, 1) := by decide +kernel
theorem dL_law_156 : decode cL_law 156 = .ok (.invokevirtual 27, 3) := by decide +kernel
theorem dL_law_159 : decode cL_law 159 = .ok (.aload_n 2, 1) := by decide +kernel
theorem dL_law_160 : decode cL_law 160 = .ok (.invokevirtual 30, 3) := by decide +kernel
theorem dL_law_163 : decode cL_law 163 = .ok (.if_icmp .eq 64, 3) := by decide +kernel
theorem dL_law_166 : decode cL_law 166 = .ok (.iconst 0, 1) := by decide +kernel
theorem dL_law_167 : decode cL_law 167 = .ok (.ireturn, 1) := by decide +kernel
theorem dL_law_168 : decode cL_law 168 = .ok (.aload_n 1, 1) := by decide +kernel
theorem dL_law_169 : decode cL_law 169 = .ok (.aload_n 0, 1) := by decide +kernel
theorem dL_law_170 : decode cL_law 170 = .ok (.iload_n 3, 1) := by decide +kernel
theorem dL_law_171 : decode cL_law 171 = .ok (.iconst 1, 1) := by decide +kernel
theorem dL_law_172 : decode cL_law 172 = .ok (.iadd, 1) := by decide +kernel
theorem dL_law_173 : decode cL_law 173 = .ok (.iaload, 1) := by decide +kernel
theorem dL_law_174 : decode cL_law 174 = .ok (.invokevirtual 31, 3) := by decide +kernel
theorem dL_law_177 : decode cL_law 177 = .ok (.aload_n 2, 1) := by decide +kernel
theorem dL_law_178 : decode cL_law 178 = .ok (.aload_n 0, 1) := by decide +kernel
theorem dL_law_179 : decode cL_law 179 = .ok (.iload_n 3, 1) := by decide +kernel
theorem dL_law_180 : decode cL_law 180 = .ok (.iconst 1, 1) := by decide +kernel
theorem dL_law_181 : decode cL_law 181 = .ok (.iadd, 1) := by decide +kernel
theorem dL_law_182 : decode cL_law 182 = .ok (.iaload, 1) := by decide +kernel
theorem dL_law_183 : decode cL_law 183 = .ok (.invokevirtual 35, 3) := by decide +kernel
theorem dL_law_186 : decode cL_law 186 = .ok (.if_icmp .eq 41, 3) := by decide +kernel
theorem dL_law_189 : decode cL_law 189 = .ok (.iconst 0, 1) := by decide +kernel
theorem dL_law_190 : decode cL_law 190 = .ok (.ireturn, 1) := by decide +kernel
theorem dL_law_191 : decode cL_law 191 = .ok (.aload_n 1, 1) := by decide +kernel
theorem dL_law_192 : decode cL_law 192 = .ok (.invokevirtual 36, 3) := by decide +kernel
theorem dL_law_195 : decode cL_law 195 = .ok (.aload_n 2, 1) := by decide +kernel
theorem dL_law_196 : decode cL_law 196 = .ok (.invokevirtual 39, 3) := by decide +kernel
theorem dL_law_199 : decode cL_law 199 = .ok (.if_icmp .eq 28, 3) := by decide +kernel
theorem dL_law_202 : decode cL_law 202 = .ok (.iconst 0, 1) := by decide +kernel
theorem dL_law_203 : decode cL_law 203 = .ok (.ireturn, 1) := by decide +kernel
theorem dL_law_204 : decode cL_law 204 = .ok (.aload_n 1, 1) := by decide +kernel
theorem dL_law_205 : decode cL_law 205 = .ok (.aload_n 0, 1) := by decide +kernel
theorem dL_law_206 : decode cL_law 206 = .ok (.iload_n 3, 1) := by decide +kernel
theorem dL_law_207 : decode cL_law 207 = .ok (.iconst 1, 1) := by decide +kernel
theorem dL_law_208 : decode cL_law 208 = .ok (.iadd, 1) := by decide +kernel
theorem dL_law_209 : decode cL_law 209 = .ok (.iaload, 1) := by decide +kernel
theorem dL_law_210 : decode cL_law 210 = .ok (.invokevirtual 40, 3) := by decide +kernel
theorem dL_law_213 : decode cL_law 213 = .ok (.aload_n 2, 1) := by decide +kernel
theorem dL_law_214 : decode cL_law 214 = .ok (.aload_n 0, 1) := by decide +kernel
theorem dL_law_215 : decode cL_law 215 = .ok (.iload_n 3, 1) := by decide +kernel
theorem dL_law_216 : decode cL_law 216 = .ok (.iconst 1, 1) := by decide +kernel
theorem dL_law_217 : decode cL_law 217 = .ok (.iadd, 1) := by decide +kernel
theorem dL_law_218 : decode cL_law 218 = .ok (.iaload, 1) := by decide +kernel
theorem dL_law_219 : decode cL_law 219 = .ok (.invokevirtual 43, 3) := by decide +kernel
theorem dL_law_222 : decode cL_law 222 = .ok (.if_icmp .eq 5, 3) := by decide +kernel
theorem dL_law_225 : decode cL_law 225 = .ok (.iconst 0, 1) := by decide +kernel
theorem dL_law_226 : decode cL_law 226 = .ok (.ireturn, 1) := by decide +kernel
theorem dL_law_227 : decode cL_law 227 = .ok (.iinc 3 3, 3) := by decide +kernel
theorem dL_law_230 : decode cL_law 230 = .ok (.goto (-212), 3) := by decide +kernel
theorem dL_law_233 : decode cL_law 233 = .ok (.iconst 1, 1) := by decide +kernel
theorem dL_law_234 : decode cL_law 234 = .ok (.ireturn, 1) := by decide +kernel
abbrev vwCl : List vw_C := [(RX0, TX0, 17), (RX1, TX1, 15)]
end
section
/-! what a state is: scalar fields and arrays by the field's slot; worlds; rows of the kit for whole worlds -/
abbrev st_T : Type := (Nat → Int32) × (Nat → Nat → Int32)
def st_si (u : st_T) (k : Nat) (v : Int32) : st_T := (va_up u.1 k v, u.2)
def st_sa (u : st_T) (k i : Nat) (v : Int32) : st_T := (u.1, va_up u.2 k (upd (u.2 k) i v))
def st_sf (u : st_T) (k : Nat) (f : Nat → Int32) : st_T := (u.1, va_up u.2 k f)
theorem st_si_2 (u : st_T) (k : Nat) (v : Int32) (j : Nat) : (st_si u k v).2 j = u.2 j := rfl
theorem st_sa_2 (u : st_T) {k j : Nat} (i : Nat) (v : Int32) (h : j ≠ k) : (st_sa u k i v).2 j = u.2 j := va_up_ne _ _ h
theorem st_sf_2 (u : st_T) {k j : Nat} (f : Nat → Int32) (h : j ≠ k) : (st_sf u k f).2 j = u.2 j := va_up_ne _ _ h
def pj_fill (n : Nat) (v : Int32) (f : Nat → Int32) : Nat → Int32 := fun j => if j < n then v else f j
abbrev ix (i : Int32) : Nat := i.toNatClampNeg
abbrev ty_IZ (cI cZ : ClassId) : List (ClassId × FieldType) := [(cI, .int), (cZ, .boolean)]
def gx_ (D : va_G) (A : Nat → Prop) (H0 H : Heap) (locs : List Loc) (ws : va_W) : Prop := va_P D vwCl ws H ∧ va_D A ws ∧ va_S A H0 H locs
def gx_I (D : va_G) (cI cZ : ClassId) (ws : va_W) (sz : Nat) : State → Prop := fun U => U.heap.size = sz ∧ va_P D vwCl ws U.heap ∧ va_K D vwCl (ty_IZ cI cZ) U ∧ va_D (fun _ => True) ws
def gx_O {S : Type} (D : va_G) (cI cZ : ClassId) (wf : S → va_W) (ws : va_W) (sz : Nat) : S → State → Prop := fun u t => va_P D vwCl (wf u) t.heap ∧ va_K D vwCl (ty_IZ cI cZ) t ∧ va_D (va_A ws sz) (wf u)
theorem gx_blind {av : List Value} {D : va_G} {cI cZ : ClassId} {ws : va_W} {sz : Nat} : FrameBlind (va_Pc av (gx_I D cI cZ ws sz)) := fun a U g mk h => by
  obtain ⟨h0, h1, h2, h3, h4⟩ := h
  exact ⟨h0, h1, h2, va_K.moved (u := U) (U := U.calling g mk a) (Vm.Alike.refl U.vm) h3, h4⟩
theorem gx_in {C : String} {T : u_T} {N : Nat} {x : Cond} {l : List Cond} : ∀ w ∈ u_ws C T N, w ∈ x :: (l ++ u_ws C T N) := fun _ h => List.mem_cons_of_mem _ (List.mem_append_right _ h)
/-- the contracts of this proof: an int or nothing comes back, the world goes over -/
abbrev gx_Mi {S : Type} (l : Launch) (y : MethodName) (wsy : List Cond) (rm : Room) (av : List Value) (D : va_G) (cI cZ : ClassId) (wf : S → va_W) (u : S) (sz : Nat) (f : Int32 × S) : Prop :=
  Met l y wsy rm (va_Pc av (gx_I D cI cZ (wf u) sz)) (va_Qi (fun r u1 => r = f.1 ∧ u1 = f.2) (gx_O D cI cZ wf (wf u) sz) (va_A (wf u) sz)) 0 0 (va_A (wf u) sz)
abbrev gx_Mv {S : Type} (l : Launch) (y : MethodName) (wsy : List Cond) (rm : Room) (av : List Value) (D : va_G) (cI cZ : ClassId) (wf : S → va_W) (u : S) (sz : Nat) (f : S) : Prop :=
  Met l y wsy rm (va_Pc av (gx_I D cI cZ (wf u) sz)) (va_Qv (fun u1 => u1 = f) (gx_O D cI cZ wf (wf u) sz) (va_A (wf u) sz)) 0 0 (va_A (wf u) sz)
abbrev gx_Ms (l : Launch) (y : MethodName) (wsy : List Cond) (rm : Room) (av : List Value) (f : Int32) : Prop :=
  Met l y wsy rm (fun v _ => v = av.toArray) (vp_Si (fun r => r = f)) 0 0 (fun _ => False)
theorem gx_met {y : MethodName} {l : Launch} {wsy ws' : List Cond} {rm : Room} {cc : ByteArray} {maxL : Nat} {ret : Option FieldType} {av : List Value} {D : va_G} {cI cZ : ClassId} {ws0 : va_W} {sz : Nat} {Qc : Array Value → State → Outcome → State → Prop} {free : Addr → Prop}
    (hy : plainFor y = true) (hw : wsy = Cond.code y cc maxL ret :: ws') (hle : (lg_sl av).length ≤ maxL)
    (body : ∀ (p : Program) (e : Env) (s : State) (m : MethodId) (args : Array Value) (below : List Frame) (meth : Method) (c : Code) (A : Nat → Prop) (ls : Array Slot), s.heap.size = sz → p.tables.exec = Jvm.exec → c.code = cc → meth.sig.returnType = ret → meth.locks = false → (∀ w ∈ wsy, w.before args s = true) → s.vm.findClass y.cls = some m.cls → c.maxLocals = maxL → va_K D vwCl (ty_IZ cI cZ) s → A = va_A ws0 sz → (∀ x, s.heap.size ≤ x → A x) → gx_ D A s.heap s.heap [] ws0 → lv_has ls maxL (lv_args 0 av) →
      W p l e rm s m args below meth c s.heap [] 0 0 (MQ below Qc args s 0 0 free) (F0 m 0 ls [])) : Met l y wsy rm (va_Pc av (gx_I D cI cZ ws0 sz)) Qc 0 0 free := by
  refine va_MetF (cc := cc) (maxL := maxL) (ret := ret) hy hw ?_
  intro p e s m args below meth c s₁ B hml hv
  obtain ⟨rfl, hsz, hP, hK, hD0⟩ := hv
  have hts := atoms_spec (ws := wsy) B.pre
  rw [lg_entry_eq]
  subst hsz
  exact body p e s m _ below meth c (va_A ws0 s.heap.size) _ rfl B.exec B.bytes B.returns B.notSynchronized hts (findClass_of_methodNamed B.named) hml hK rfl (fun x hx => Or.inr hx) ⟨hP, hD0.self, va_S.rf⟩ (lv_entry av hle)
theorem gx_metS {y : MethodName} {l : Launch} {wsy ws' : List Cond} {rm : Room} {cc : ByteArray} {maxL : Nat} {ret : Option FieldType} {av : List Value} {Qc : Array Value → State → Outcome → State → Prop} {free : Addr → Prop}
    (hy : plainFor y = true) (hw : wsy = Cond.code y cc maxL ret :: ws') (hle : (lg_sl av).length ≤ maxL)
    (body : ∀ (p : Program) (e : Env) (s : State) (m : MethodId) (args : Array Value) (below : List Frame) (meth : Method) (c : Code) (ls : Array Slot), p.tables.exec = Jvm.exec → c.code = cc → meth.sig.returnType = ret → meth.locks = false → (∀ w ∈ wsy, w.before args s = true) → s.vm.findClass y.cls = some m.cls → c.maxLocals = maxL → lv_has ls maxL (lv_args 0 av) →
      W p l e rm s m args below meth c s.heap [] 0 0 (MQ below Qc args s 0 0 free) (F0 m 0 ls [])) : Met l y wsy rm (fun v _ => v = av.toArray) Qc 0 0 free := by
  refine va_MetF (cc := cc) (maxL := maxL) (ret := ret) hy hw ?_
  intro p e s m args below meth c s₁ B hml hv
  subst hv
  have hts := atoms_spec (ws := wsy) B.pre
  rw [lg_entry_eq]
  exact body p e s m _ below meth c _ B.exec B.bytes B.returns B.notSynchronized hts (findClass_of_methodNamed B.named) hml (lv_entry av hle)
section GX
variable {p : Program} {l : Launch} {e : Env} {R : Room} {s : State} {m : MethodId} {args : Array Value} {below : List Frame} {meth : Method} {c : Code} {H : Heap} {locs : List Loc} {cells slots : Nat} {Q : State → Prop}
variable {cc : ByteArray} {pc : Nat} {ls : Array Slot} {rest : List Value} {D : va_G} {A : Nat → Prop} {H0 : Heap} {cI cZ : ClassId} {h : Nat} {q : Nat → Nat} {u : st_T} {Ts : List Cond} {own : String} {sz : Nat} {ws0 : va_W}
theorem gx_iret {S : Type} {wf : S → va_W} {u1 : S} {f : Int32 × S} {v : Int32} (hx : p.tables.exec = Jvm.exec) (hb : c.code = cc) (hr : meth.sig.returnType = some .int) (hlocks : meth.locks = false) (hsz : s.heap.size = sz) (hK : va_K D vwCl (ty_IZ cI cZ) s) (hAe : A = va_A ws0 sz) (G : gx_ D A s.heap H locs (wf u1)) (hdg : decode cc pc = .ok (.ireturn, 1)) (hp : f = (v, u1)) :
    W p l e R s m args below meth c H locs cells slots (MQ below (va_Qi (fun r u1 => r = f.1 ∧ u1 = f.2) (gx_O D cI cZ wf ws0 sz) (va_A ws0 sz)) args s cells slots (va_A ws0 sz)) (F0 m pc ls [.int v]) := by
  subst hAe
  subst hp
  exact W.iret hx hb hr (fun t ht hW => ⟨⟨v, u1, rfl, ⟨rfl, rfl⟩, by rw [ht]; exact G.1, va_K.moved hW.alike hK, G.2.1⟩, G.2.2.F ht⟩) G.2.2.2.2 hdg hlocks
theorem gx_zret {S : Type} {wf : S → va_W} {u1 : S} {f : Int32 × S} {v : Int32} (hx : p.tables.exec = Jvm.exec) (hb : c.code = cc) (hr : meth.sig.returnType = some .boolean) (hlocks : meth.locks = false) (hsz : s.heap.size = sz) (hK : va_K D vwCl (ty_IZ cI cZ) s) (hAe : A = va_A ws0 sz) (G : gx_ D A s.heap H locs (wf u1)) (hdg : decode cc pc = .ok (.ireturn, 1)) (hn : narrow .boolean (.int v) = .int v) (hp : f = (v, u1)) :
    W p l e R s m args below meth c H locs cells slots (MQ below (va_Qi (fun r u1 => r = f.1 ∧ u1 = f.2) (gx_O D cI cZ wf ws0 sz) (va_A ws0 sz)) args s cells slots (va_A ws0 sz)) (F0 m pc ls [.int v]) := by
  subst hAe
  subst hp
  exact W.zret hx hb hr hn (fun t ht hW => ⟨⟨v, u1, rfl, ⟨rfl, rfl⟩, by rw [ht]; exact G.1, va_K.moved hW.alike hK, G.2.1⟩, G.2.2.F ht⟩) G.2.2.2.2 hdg hlocks
theorem gx_vret {S : Type} {wf : S → va_W} {u1 : S} {f : S} (hx : p.tables.exec = Jvm.exec) (hb : c.code = cc) (hr : meth.sig.returnType = none) (hlocks : meth.locks = false) (hsz : s.heap.size = sz) (hK : va_K D vwCl (ty_IZ cI cZ) s) (hAe : A = va_A ws0 sz) (G : gx_ D A s.heap H locs (wf u1)) (hdg : decode cc pc = .ok (.return_, 1)) (hp : f = u1) :
    W p l e R s m args below meth c H locs cells slots (MQ below (va_Qv (fun u1 => u1 = f) (gx_O D cI cZ wf ws0 sz) (va_A ws0 sz)) args s cells slots (va_A ws0 sz)) (F0 m pc ls []) := by
  subst hAe
  subst hp
  exact W.vret hx hb hr (fun t ht hW => ⟨⟨_, rfl, rfl, by rw [ht]; exact G.1, va_K.moved hW.alike hK, G.2.1⟩, G.2.2.F ht⟩) G.2.2.2.2 hdg hlocks
theorem gx_sret {f v : Int32} (hx : p.tables.exec = Jvm.exec) (hb : c.code = cc) (hr : meth.sig.returnType = some .int) (hlocks : meth.locks = false) (hdg : decode cc pc = .ok (.ireturn, 1)) (hp : f = v) :
    W p l e R s m args below meth c s.heap [] cells slots (MQ below (vp_Si (fun r => r = f)) args s cells slots (fun _ => False)) (F0 m pc ls [.int v]) := by
  subst hp
  exact W.iret hx hb hr (fun t ht hW => ⟨_, rfl, rfl, ht⟩) (fun _ h => by cases h) hdg hlocks
theorem gx_szret {f v : Int32} (hx : p.tables.exec = Jvm.exec) (hb : c.code = cc) (hr : meth.sig.returnType = some .boolean) (hlocks : meth.locks = false) (hdg : decode cc pc = .ok (.ireturn, 1)) (hn : narrow .boolean (.int v) = .int v) (hp : f = v) :
    W p l e R s m args below meth c s.heap [] cells slots (MQ below (vp_Si (fun r => r = f)) args s cells slots (fun _ => False)) (F0 m pc ls [.int v]) := by
  subst hp
  exact W.zret hx hb hr hn (fun t ht hW => ⟨_, rfl, rfl, ht⟩) (fun _ h => by cases h) hdg hlocks
theorem gx_free {ws : va_W} (hA : ∀ x, H0.size ≤ x → A x) (G : gx_ D A H0 H locs ws) : ∀ x, va_A ws H.size x → A x := fun x hx => hx.elim (fun ⟨k, e, hk⟩ => G.2.1.2 k (x, e) hk) (fun hx => hA x (Nat.le_trans G.2.2.1 hx))
theorem gx_calli {S : Type} {wf : S → va_W} {u : S} {f : Int32 × S} {C : String} {T : u_T} {N ci : Nat} {fs : List Value} {index maxL nL : Nat} {y : MethodName} {bytes : ByteArray} {ret : Option FieldType} {wsy ws' : List Cond} {rm : Room} {As st0 : List Value} (n : Nat)
    (hx : p.tables.exec = Jvm.exec) (hb : c.code = cc) (hml : c.maxLocals = nL) (hown : s.vm.findClass own = some m.cls) (hts : ∀ w ∈ Ts, w.before args s = true) (hK : va_K D vwCl (ty_IZ cI cZ) s) (hA : ∀ x, H0.size ≤ x → A x) (G : gx_ D A H0 H locs (wf u)) (hrec : (wf u)[0]? = some (h, .inr (ci, fs))) (hc : vwCl[ci]? = some (C, T, N))
    (hM : gx_Mi l y wsy rm (.ref h :: As) D cI cZ wf u H.size f) (gin : GoodIn Ts (wsV own index C y wsy)) (hw : wsy = Cond.code y bytes maxL ret :: ws') (hr0 : rm.cells = 0) (hr1 : rm.slots = 0)
    (hd : y.cls = C ∧ y.cls ≠ "java/lang/invoke/MethodHandle" ∧ y.cls ≠ "java/lang/invoke/VarHandle" ∧ (parseMethodDescriptor y.desc).map (fun d => d.parameters.length) = some n) (hR : rm.frames + 1 ≤ R.frames ∧ 8 + (maxL + 11) + rm.locals ≤ R.locals)
    (hn : As.length = n) (hls : ls.size = nL) (hst : st0 = As.reverse ++ .ref h :: rest) (hroom : (rest.map fun v => v.category).sum ≤ 8) (hdg : decode cc pc = .ok (.invokevirtual index, 3)) (hcl : cells ≤ R.cells) (hsl : slots ≤ R.slots)
    (kk : ∀ (H1 : Heap) (locs1 : List Loc), gx_ D A H0 H1 locs1 (wf f.2) → W p l e R s m args below meth c H1 locs1 cells slots Q (F0 m (pc + 3) ls (.int f.1 :: rest))) : W p l e R s m args below meth c H locs cells slots Q (F0 m pc ls st0) := by
  have hFc := gx_free hA G
  obtain ⟨hP, hD, hS⟩ := G
  refine va_calli (va_runV (As := As) (rest := rest) ⟨hx, hb, hml, hown, hts⟩ hM (cwV n hts gin hw hr0 hr1 hd hR) ⟨gx_blind, va_recv hK hP hc hrec, fun U hU hW => ⟨rfl, by rw [hU], by rw [hU]; exact hP, va_K.moved hW.alike hK, hD.weaken (fun _ _ _ _ => trivial)⟩⟩ rfl hn hls hst (lv_room hroom) hdg ⟨hcl, hsl⟩) hS (fun x _ h => hFc x h) hFc (fun r u1 t H1 locs1 ht hvm hw hB hz1 hk1 hS1 => ?_)
  obtain ⟨hP1, hK1, hD1⟩ := hB
  obtain ⟨rfl, rfl⟩ := hw
  rw [ht] at hP1
  exact kk H1 locs1 ⟨hP1, hD1.weaken (fun _ _ _ z => hFc _ z), hS1⟩
theorem gx_callv {S : Type} {wf : S → va_W} {u : S} {f : S} {C : String} {T : u_T} {N ci : Nat} {fs : List Value} {index maxL nL : Nat} {y : MethodName} {bytes : ByteArray} {ret : Option FieldType} {wsy ws' : List Cond} {rm : Room} {As st0 : List Value} (n : Nat)
    (hx : p.tables.exec = Jvm.exec) (hb : c.code = cc) (hml : c.maxLocals = nL) (hown : s.vm.findClass own = some m.cls) (hts : ∀ w ∈ Ts, w.before args s = true) (hK : va_K D vwCl (ty_IZ cI cZ) s) (hA : ∀ x, H0.size ≤ x → A x) (G : gx_ D A H0 H locs (wf u)) (hrec : (wf u)[0]? = some (h, .inr (ci, fs))) (hc : vwCl[ci]? = some (C, T, N))
    (hM : gx_Mv l y wsy rm (.ref h :: As) D cI cZ wf u H.size f) (gin : GoodIn Ts (wsV own index C y wsy)) (hw : wsy = Cond.code y bytes maxL ret :: ws') (hr0 : rm.cells = 0) (hr1 : rm.slots = 0)
    (hd : y.cls = C ∧ y.cls ≠ "java/lang/invoke/MethodHandle" ∧ y.cls ≠ "java/lang/invoke/VarHandle" ∧ (parseMethodDescriptor y.desc).map (fun d => d.parameters.length) = some n) (hR : rm.frames + 1 ≤ R.frames ∧ 8 + (maxL + 11) + rm.locals ≤ R.locals)
    (hn : As.length = n) (hls : ls.size = nL) (hst : st0 = As.reverse ++ .ref h :: rest) (hroom : (rest.map fun v => v.category).sum ≤ 8) (hdg : decode cc pc = .ok (.invokevirtual index, 3)) (hcl : cells ≤ R.cells) (hsl : slots ≤ R.slots)
    (kk : ∀ (H1 : Heap) (locs1 : List Loc), gx_ D A H0 H1 locs1 (wf f) → W p l e R s m args below meth c H1 locs1 cells slots Q (F0 m (pc + 3) ls rest)) : W p l e R s m args below meth c H locs cells slots Q (F0 m pc ls st0) := by
  have hFc := gx_free hA G
  obtain ⟨hP, hD, hS⟩ := G
  refine va_callv (va_runV (As := As) (rest := rest) ⟨hx, hb, hml, hown, hts⟩ hM (cwV n hts gin hw hr0 hr1 hd hR) ⟨gx_blind, va_recv hK hP hc hrec, fun U hU hW => ⟨rfl, by rw [hU], by rw [hU]; exact hP, va_K.moved hW.alike hK, hD.weaken (fun _ _ _ _ => trivial)⟩⟩ rfl hn hls hst (lv_room hroom) hdg ⟨hcl, hsl⟩) hS (fun x _ h => hFc x h) hFc (fun u1 t H1 locs1 ht hvm hw hB hz1 hk1 hS1 => ?_)
  obtain ⟨hP1, hK1, hD1⟩ := hB
  subst hw
  rw [ht] at hP1
  exact kk H1 locs1 ⟨hP1, hD1.weaken (fun _ _ _ z => hFc _ z), hS1⟩
theorem gx_calls {f : Int32} {index maxL nL : Nat} {y : MethodName} {bytes : ByteArray} {ret : Option FieldType} {wsy ws' : List Cond} {rm : Room} {As st0 : List Value} (n : Nat)
    (hx : p.tables.exec = Jvm.exec) (hb : c.code = cc) (hml : c.maxLocals = nL) (hown : s.vm.findClass own = some m.cls) (hts : ∀ w ∈ Ts, w.before args s = true)
    (hM : gx_Ms l y wsy rm As f) (gin : GoodIn Ts (va_wsS own index y wsy)) (hw : wsy = Cond.code y bytes maxL ret :: ws') (hr0 : rm.cells = 0) (hr1 : rm.slots = 0)
    (hd : y.cls ≠ "java/lang/invoke/MethodHandle" ∧ y.cls ≠ "java/lang/invoke/VarHandle" ∧ (parseMethodDescriptor y.desc).map (fun d => d.parameters.length) = some n) (hR : rm.frames + 1 ≤ R.frames ∧ 8 + (maxL + 11) + rm.locals ≤ R.locals)
    (hn : As.length = n) (hls : ls.size = nL) (hst : st0 = As.reverse ++ rest) (hroom : (rest.map fun v => v.category).sum ≤ 8) (hdg : decode cc pc = .ok (.invokestatic index, 3)) (hcl : cells ≤ R.cells) (hsl : slots ≤ R.slots)
    (kk : W p l e R s m args below meth c H locs cells slots Q (F0 m (pc + 3) ls (.int f :: rest))) : W p l e R s m args below meth c H locs cells slots Q (F0 m pc ls st0) :=
  vp_callSi (W.runS ⟨hx, hb, hml, hown, hts⟩ hM (va_cwS n hts gin hw hr0 hr1 hd hR) preEq rfl hn hls hst (lv_room hroom) hdg ⟨hcl, hsl⟩) (fun r hr => by subst hr; exact kk)
def gf0_ (q : Nat → Nat) (u : st_T) : List Value := [.ref (q 0), .int (u.1 1), .ref (q 2), .int (u.1 3), .int (u.1 4), .ref (q 5), .ref (q 6), .ref (q 7), .ref (q 8), .int (u.1 9), .int (u.1 10), .int (u.1 11), .ref (q 12), .int (u.1 13), .ref (q 14), .int (u.1 15), .int (u.1 16)]
def gw0_ (cI cZ : ClassId) (h : Nat) (q : Nat → Nat) (u : st_T) : va_W := [(h, .inr (0, gf0_ q u)), (q 0, .inl (cI, 5, .inl (u.2 0))), (q 2, .inl (cZ, 4, .inl (u.2 2))), (q 5, .inl (cI, 24, .inl (u.2 5))), (q 6, .inl (cI, 24, .inl (u.2 6))), (q 7, .inl (cI, 24, .inl (u.2 7))), (q 8, .inl (cI, 24, .inl (u.2 8))), (q 12, .inl (cI, 24, .inl (u.2 12))), (q 14, .inl (cI, 5, .inl (u.2 14)))]
theorem gt0_ : ∀ k, (TX0 k).1 = "MonitorDesk" := fun k => by unfold TX0; split <;> rfl
theorem gg0_get (hx : p.tables.exec = Jvm.exec) (hb : c.code = cc) (hts : ∀ w ∈ Ts, w.before args s = true) (hin : ∀ w ∈ wsX00, w ∈ Ts) (hown : s.vm.findClass RX0 = some m.cls) (hK : va_K D vwCl (ty_IZ cI cZ) s) (G : gx_ D A H0 H locs (gw0_ cI cZ h q u)) (k : Nat) (hk : k < 17) {index : Nat} (hlk : (Cond.fieldLink RX0 index "MonitorDesk" (TX0 k).2.1 (TX0 k).2.2.1) ∈ Ts) {v : Value} (hv : (gf0_ q u)[k]? = some v) (hdg : decode cc pc = .ok (.getfield index, 3))
    (kk : W p l e R s m args below meth c H locs cells slots Q (F0 m (pc + 3) ls (v :: rest))) : W p l e R s m args below meth c H locs cells slots Q (F0 m pc ls (.ref h :: rest)) :=
  va_get (D := D) (ci := 0) (C := RX0) (T := TX0) (N := 17) hx hb hts hin hown hK G.1 0 rfl rfl k hk (hts _ hlk) (fun x h9 => by rw [gt0_ k] at h9; exact h9) hv hdg kk
theorem gg0_putW (hx : p.tables.exec = Jvm.exec) (hb : c.code = cc) (hts : ∀ w ∈ Ts, w.before args s = true) (hin : ∀ w ∈ wsX00, w ∈ Ts) (hown : s.vm.findClass RX0 = some m.cls) (hK : va_K D vwCl (ty_IZ cI cZ) s) (G : gx_ D A H0 H locs (gw0_ cI cZ h q u)) (k : Nat) (hk : k < 17) {index : Nat} (hlk : (Cond.fieldLink RX0 index "MonitorDesk" (TX0 k).2.1 (TX0 k).2.2.1) ∈ Ts) {v : Int32} (hfin : (TX0 k).2.2.2 = false) (hn : narrow (tyX0 k) (.int v) = .int v) (hfit : fits (tyX0 k) (.int v) = true) (hset : (gw0_ cI cZ h q u).set 0 (h, .inr (0, (gf0_ q u).set k (.int v))) = gw0_ cI cZ h q (st_si u k v)) (hdg : decode cc pc = .ok (.putfield index, 3))
    (kk : ∀ (H1 : Heap) (locs1 : List Loc), gx_ D A H0 H1 locs1 (gw0_ cI cZ h q (st_si u k v)) → W p l e R s m args below meth c H1 locs1 cells slots Q (F0 m (pc + 3) ls rest)) : W p l e R s m args below meth c H locs cells slots Q (F0 m pc ls (.int v :: .ref h :: rest)) :=
  va_put (D := D) (ci := 0) (ty := tyX0 k) (C := RX0) (T := TX0) (N := 17) hx hb hts hin tyX0 tyX0_ok nmX0 hown hK G.1 G.2.1 G.2.2 0 rfl rfl k hk (hts _ hlk) (fun x h9 => by rw [gt0_ k] at h9; exact h9) hfin (tyX0_ok k hk) hn hfit (by simpa [gf0_] using hk) hdg (fun H1 locs1 h1 h2 h3 => kk H1 locs1 ⟨hset ▸ h1, hset ▸ h2, h3⟩)
theorem gg0_ld0 (hx : p.tables.exec = Jvm.exec) (hb : c.code = cc) (hK : va_K D vwCl (ty_IZ cI cZ) s) (G : gx_ D A H0 H locs (gw0_ cI cZ h q u)) {i : Int32} (hi : vp_in i 5) (hdg : decode cc pc = .ok (.iaload, 1))
    (kk : W p l e R s m args below meth c H locs cells slots Q (F0 m (pc + 1) ls (.int (u.2 0 (ix i)) :: rest))) : W p l e R s m args below meth c H locs cells slots Q (F0 m pc ls (.int i :: .ref (q 0) :: rest)) :=
  va_iald hx hb hK G.1 1 0 rfl rfl hi hdg kk
theorem gg0_st0 (hx : p.tables.exec = Jvm.exec) (hb : c.code = cc) (hK : va_K D vwCl (ty_IZ cI cZ) s) (G : gx_ D A H0 H locs (gw0_ cI cZ h q u)) {i x : Int32} (hi : vp_in i 5) (hdg : decode cc pc = .ok (.iastore, 1))
    (kk : ∀ (H1 : Heap) (locs1 : List Loc), gx_ D A H0 H1 locs1 (gw0_ cI cZ h q (st_sa u 0 (ix i) x)) → W p l e R s m args below meth c H1 locs1 cells slots Q (F0 m (pc + 1) ls rest)) : W p l e R s m args below meth c H locs cells slots Q (F0 m pc ls (.int x :: .int i :: .ref (q 0) :: rest)) :=
  va_iast hx hb hK G.1 G.2.1 G.2.2 1 0 rfl rfl hi hdg (fun H1 locs1 h1 h2 h3 => kk H1 locs1 ⟨h1, h2, h3⟩)
theorem gg0_put1 (hx : p.tables.exec = Jvm.exec) (hb : c.code = cc) (hts : ∀ w ∈ Ts, w.before args s = true) (hin : ∀ w ∈ wsX00, w ∈ Ts) (hown : s.vm.findClass RX0 = some m.cls) (hK : va_K D vwCl (ty_IZ cI cZ) s) (G : gx_ D A H0 H locs (gw0_ cI cZ h q u)) {index : Nat} (hlk : (Cond.fieldLink RX0 index "MonitorDesk" (TX0 1).2.1 (TX0 1).2.2.1) ∈ Ts) {v : Int32} (hdg : decode cc pc = .ok (.putfield index, 3))
    (kk : ∀ (H1 : Heap) (locs1 : List Loc), gx_ D A H0 H1 locs1 (gw0_ cI cZ h q (st_si u 1 v)) → W p l e R s m args below meth c H1 locs1 cells slots Q (F0 m (pc + 3) ls rest)) : W p l e R s m args below meth c H locs cells slots Q (F0 m pc ls (.int v :: .ref h :: rest)) :=
  gg0_putW hx hb hts hin hown hK G 1 (by decide) hlk rfl rfl rfl rfl hdg kk
theorem gg0_ld2 (hx : p.tables.exec = Jvm.exec) (hb : c.code = cc) (hK : va_K D vwCl (ty_IZ cI cZ) s) (G : gx_ D A H0 H locs (gw0_ cI cZ h q u)) {i : Int32} (hi : vp_in i 4) (hdg : decode cc pc = .ok (.baload, 1))
    (kk : W p l e R s m args below meth c H locs cells slots Q (F0 m (pc + 1) ls (.int (u.2 2 (ix i)) :: rest))) : W p l e R s m args below meth c H locs cells slots Q (F0 m pc ls (.int i :: .ref (q 2) :: rest)) :=
  va_zald hx hb hK G.1 2 1 rfl rfl hi hdg kk
theorem gg0_st2 (hx : p.tables.exec = Jvm.exec) (hb : c.code = cc) (hK : va_K D vwCl (ty_IZ cI cZ) s) (G : gx_ D A H0 H locs (gw0_ cI cZ h q u)) {i x : Int32} (hi : vp_in i 4) (hn : vp_nar .boolean x = x) (hdg : decode cc pc = .ok (.bastore, 1))
    (kk : ∀ (H1 : Heap) (locs1 : List Loc), gx_ D A H0 H1 locs1 (gw0_ cI cZ h q (st_sa u 2 (ix i) x)) → W p l e R s m args below meth c H1 locs1 cells slots Q (F0 m (pc + 1) ls rest)) : W p l e R s m args below meth c H locs cells slots Q (F0 m pc ls (.int x :: .int i :: .ref (q 2) :: rest)) :=
  va_zast hx hb hK G.1 G.2.1 G.2.2 2 1 rfl rfl hi hdg (fun H1 locs1 h1 h2 h3 => by rw [hn] at h1 h2; exact kk H1 locs1 ⟨h1, h2, h3⟩)
theorem gg0_put3 (hx : p.tables.exec = Jvm.exec) (hb : c.code = cc) (hts : ∀ w ∈ Ts, w.before args s = true) (hin : ∀ w ∈ wsX00, w ∈ Ts) (hown : s.vm.findClass RX0 = some m.cls) (hK : va_K D vwCl (ty_IZ cI cZ) s) (G : gx_ D A H0 H locs (gw0_ cI cZ h q u)) {index : Nat} (hlk : (Cond.fieldLink RX0 index "MonitorDesk" (TX0 3).2.1 (TX0 3).2.2.1) ∈ Ts) {v : Int32} (hdg : decode cc pc = .ok (.putfield index, 3))
    (kk : ∀ (H1 : Heap) (locs1 : List Loc), gx_ D A H0 H1 locs1 (gw0_ cI cZ h q (st_si u 3 v)) → W p l e R s m args below meth c H1 locs1 cells slots Q (F0 m (pc + 3) ls rest)) : W p l e R s m args below meth c H locs cells slots Q (F0 m pc ls (.int v :: .ref h :: rest)) :=
  gg0_putW hx hb hts hin hown hK G 3 (by decide) hlk rfl rfl rfl rfl hdg kk
theorem gg0_put4 (hx : p.tables.exec = Jvm.exec) (hb : c.code = cc) (hts : ∀ w ∈ Ts, w.before args s = true) (hin : ∀ w ∈ wsX00, w ∈ Ts) (hown : s.vm.findClass RX0 = some m.cls) (hK : va_K D vwCl (ty_IZ cI cZ) s) (G : gx_ D A H0 H locs (gw0_ cI cZ h q u)) {index : Nat} (hlk : (Cond.fieldLink RX0 index "MonitorDesk" (TX0 4).2.1 (TX0 4).2.2.1) ∈ Ts) {v : Int32} (hn : narrow .boolean (.int v) = .int v) (hf : fits .boolean (.int v) = true) (hdg : decode cc pc = .ok (.putfield index, 3))
    (kk : ∀ (H1 : Heap) (locs1 : List Loc), gx_ D A H0 H1 locs1 (gw0_ cI cZ h q (st_si u 4 v)) → W p l e R s m args below meth c H1 locs1 cells slots Q (F0 m (pc + 3) ls rest)) : W p l e R s m args below meth c H locs cells slots Q (F0 m pc ls (.int v :: .ref h :: rest)) :=
  gg0_putW hx hb hts hin hown hK G 4 (by decide) hlk rfl hn hf rfl hdg kk
theorem gg0_ld5 (hx : p.tables.exec = Jvm.exec) (hb : c.code = cc) (hK : va_K D vwCl (ty_IZ cI cZ) s) (G : gx_ D A H0 H locs (gw0_ cI cZ h q u)) {i : Int32} (hi : vp_in i 24) (hdg : decode cc pc = .ok (.iaload, 1))
    (kk : W p l e R s m args below meth c H locs cells slots Q (F0 m (pc + 1) ls (.int (u.2 5 (ix i)) :: rest))) : W p l e R s m args below meth c H locs cells slots Q (F0 m pc ls (.int i :: .ref (q 5) :: rest)) :=
  va_iald hx hb hK G.1 3 0 rfl rfl hi hdg kk
theorem gg0_st5 (hx : p.tables.exec = Jvm.exec) (hb : c.code = cc) (hK : va_K D vwCl (ty_IZ cI cZ) s) (G : gx_ D A H0 H locs (gw0_ cI cZ h q u)) {i x : Int32} (hi : vp_in i 24) (hdg : decode cc pc = .ok (.iastore, 1))
    (kk : ∀ (H1 : Heap) (locs1 : List Loc), gx_ D A H0 H1 locs1 (gw0_ cI cZ h q (st_sa u 5 (ix i) x)) → W p l e R s m args below meth c H1 locs1 cells slots Q (F0 m (pc + 1) ls rest)) : W p l e R s m args below meth c H locs cells slots Q (F0 m pc ls (.int x :: .int i :: .ref (q 5) :: rest)) :=
  va_iast hx hb hK G.1 G.2.1 G.2.2 3 0 rfl rfl hi hdg (fun H1 locs1 h1 h2 h3 => kk H1 locs1 ⟨h1, h2, h3⟩)
theorem gg0_ld6 (hx : p.tables.exec = Jvm.exec) (hb : c.code = cc) (hK : va_K D vwCl (ty_IZ cI cZ) s) (G : gx_ D A H0 H locs (gw0_ cI cZ h q u)) {i : Int32} (hi : vp_in i 24) (hdg : decode cc pc = .ok (.iaload, 1))
    (kk : W p l e R s m args below meth c H locs cells slots Q (F0 m (pc + 1) ls (.int (u.2 6 (ix i)) :: rest))) : W p l e R s m args below meth c H locs cells slots Q (F0 m pc ls (.int i :: .ref (q 6) :: rest)) :=
  va_iald hx hb hK G.1 4 0 rfl rfl hi hdg kk
theorem gg0_st6 (hx : p.tables.exec = Jvm.exec) (hb : c.code = cc) (hK : va_K D vwCl (ty_IZ cI cZ) s) (G : gx_ D A H0 H locs (gw0_ cI cZ h q u)) {i x : Int32} (hi : vp_in i 24) (hdg : decode cc pc = .ok (.iastore, 1))
    (kk : ∀ (H1 : Heap) (locs1 : List Loc), gx_ D A H0 H1 locs1 (gw0_ cI cZ h q (st_sa u 6 (ix i) x)) → W p l e R s m args below meth c H1 locs1 cells slots Q (F0 m (pc + 1) ls rest)) : W p l e R s m args below meth c H locs cells slots Q (F0 m pc ls (.int x :: .int i :: .ref (q 6) :: rest)) :=
  va_iast hx hb hK G.1 G.2.1 G.2.2 4 0 rfl rfl hi hdg (fun H1 locs1 h1 h2 h3 => kk H1 locs1 ⟨h1, h2, h3⟩)
theorem gg0_ld7 (hx : p.tables.exec = Jvm.exec) (hb : c.code = cc) (hK : va_K D vwCl (ty_IZ cI cZ) s) (G : gx_ D A H0 H locs (gw0_ cI cZ h q u)) {i : Int32} (hi : vp_in i 24) (hdg : decode cc pc = .ok (.iaload, 1))
    (kk : W p l e R s m args below meth c H locs cells slots Q (F0 m (pc + 1) ls (.int (u.2 7 (ix i)) :: rest))) : W p l e R s m args below meth c H locs cells slots Q (F0 m pc ls (.int i :: .ref (q 7) :: rest)) :=
  va_iald hx hb hK G.1 5 0 rfl rfl hi hdg kk
theorem gg0_st7 (hx : p.tables.exec = Jvm.exec) (hb : c.code = cc) (hK : va_K D vwCl (ty_IZ cI cZ) s) (G : gx_ D A H0 H locs (gw0_ cI cZ h q u)) {i x : Int32} (hi : vp_in i 24) (hdg : decode cc pc = .ok (.iastore, 1))
    (kk : ∀ (H1 : Heap) (locs1 : List Loc), gx_ D A H0 H1 locs1 (gw0_ cI cZ h q (st_sa u 7 (ix i) x)) → W p l e R s m args below meth c H1 locs1 cells slots Q (F0 m (pc + 1) ls rest)) : W p l e R s m args below meth c H locs cells slots Q (F0 m pc ls (.int x :: .int i :: .ref (q 7) :: rest)) :=
  va_iast hx hb hK G.1 G.2.1 G.2.2 5 0 rfl rfl hi hdg (fun H1 locs1 h1 h2 h3 => kk H1 locs1 ⟨h1, h2, h3⟩)
theorem gg0_ld8 (hx : p.tables.exec = Jvm.exec) (hb : c.code = cc) (hK : va_K D vwCl (ty_IZ cI cZ) s) (G : gx_ D A H0 H locs (gw0_ cI cZ h q u)) {i : Int32} (hi : vp_in i 24) (hdg : decode cc pc = .ok (.iaload, 1))
    (kk : W p l e R s m args below meth c H locs cells slots Q (F0 m (pc + 1) ls (.int (u.2 8 (ix i)) :: rest))) : W p l e R s m args below meth c H locs cells slots Q (F0 m pc ls (.int i :: .ref (q 8) :: rest)) :=
  va_iald hx hb hK G.1 6 0 rfl rfl hi hdg kk
theorem gg0_st8 (hx : p.tables.exec = Jvm.exec) (hb : c.code = cc) (hK : va_K D vwCl (ty_IZ cI cZ) s) (G : gx_ D A H0 H locs (gw0_ cI cZ h q u)) {i x : Int32} (hi : vp_in i 24) (hdg : decode cc pc = .ok (.iastore, 1))
    (kk : ∀ (H1 : Heap) (locs1 : List Loc), gx_ D A H0 H1 locs1 (gw0_ cI cZ h q (st_sa u 8 (ix i) x)) → W p l e R s m args below meth c H1 locs1 cells slots Q (F0 m (pc + 1) ls rest)) : W p l e R s m args below meth c H locs cells slots Q (F0 m pc ls (.int x :: .int i :: .ref (q 8) :: rest)) :=
  va_iast hx hb hK G.1 G.2.1 G.2.2 6 0 rfl rfl hi hdg (fun H1 locs1 h1 h2 h3 => kk H1 locs1 ⟨h1, h2, h3⟩)
theorem gg0_put9 (hx : p.tables.exec = Jvm.exec) (hb : c.code = cc) (hts : ∀ w ∈ Ts, w.before args s = true) (hin : ∀ w ∈ wsX00, w ∈ Ts) (hown : s.vm.findClass RX0 = some m.cls) (hK : va_K D vwCl (ty_IZ cI cZ) s) (G : gx_ D A H0 H locs (gw0_ cI cZ h q u)) {index : Nat} (hlk : (Cond.fieldLink RX0 index "MonitorDesk" (TX0 9).2.1 (TX0 9).2.2.1) ∈ Ts) {v : Int32} (hdg : decode cc pc = .ok (.putfield index, 3))
    (kk : ∀ (H1 : Heap) (locs1 : List Loc), gx_ D A H0 H1 locs1 (gw0_ cI cZ h q (st_si u 9 v)) → W p l e R s m args below meth c H1 locs1 cells slots Q (F0 m (pc + 3) ls rest)) : W p l e R s m args below meth c H locs cells slots Q (F0 m pc ls (.int v :: .ref h :: rest)) :=
  gg0_putW hx hb hts hin hown hK G 9 (by decide) hlk rfl rfl rfl rfl hdg kk
theorem gg0_put10 (hx : p.tables.exec = Jvm.exec) (hb : c.code = cc) (hts : ∀ w ∈ Ts, w.before args s = true) (hin : ∀ w ∈ wsX00, w ∈ Ts) (hown : s.vm.findClass RX0 = some m.cls) (hK : va_K D vwCl (ty_IZ cI cZ) s) (G : gx_ D A H0 H locs (gw0_ cI cZ h q u)) {index : Nat} (hlk : (Cond.fieldLink RX0 index "MonitorDesk" (TX0 10).2.1 (TX0 10).2.2.1) ∈ Ts) {v : Int32} (hdg : decode cc pc = .ok (.putfield index, 3))
    (kk : ∀ (H1 : Heap) (locs1 : List Loc), gx_ D A H0 H1 locs1 (gw0_ cI cZ h q (st_si u 10 v)) → W p l e R s m args below meth c H1 locs1 cells slots Q (F0 m (pc + 3) ls rest)) : W p l e R s m args below meth c H locs cells slots Q (F0 m pc ls (.int v :: .ref h :: rest)) :=
  gg0_putW hx hb hts hin hown hK G 10 (by decide) hlk rfl rfl rfl rfl hdg kk
theorem gg0_put11 (hx : p.tables.exec = Jvm.exec) (hb : c.code = cc) (hts : ∀ w ∈ Ts, w.before args s = true) (hin : ∀ w ∈ wsX00, w ∈ Ts) (hown : s.vm.findClass RX0 = some m.cls) (hK : va_K D vwCl (ty_IZ cI cZ) s) (G : gx_ D A H0 H locs (gw0_ cI cZ h q u)) {index : Nat} (hlk : (Cond.fieldLink RX0 index "MonitorDesk" (TX0 11).2.1 (TX0 11).2.2.1) ∈ Ts) {v : Int32} (hdg : decode cc pc = .ok (.putfield index, 3))
    (kk : ∀ (H1 : Heap) (locs1 : List Loc), gx_ D A H0 H1 locs1 (gw0_ cI cZ h q (st_si u 11 v)) → W p l e R s m args below meth c H1 locs1 cells slots Q (F0 m (pc + 3) ls rest)) : W p l e R s m args below meth c H locs cells slots Q (F0 m pc ls (.int v :: .ref h :: rest)) :=
  gg0_putW hx hb hts hin hown hK G 11 (by decide) hlk rfl rfl rfl rfl hdg kk
theorem gg0_ld12 (hx : p.tables.exec = Jvm.exec) (hb : c.code = cc) (hK : va_K D vwCl (ty_IZ cI cZ) s) (G : gx_ D A H0 H locs (gw0_ cI cZ h q u)) {i : Int32} (hi : vp_in i 24) (hdg : decode cc pc = .ok (.iaload, 1))
    (kk : W p l e R s m args below meth c H locs cells slots Q (F0 m (pc + 1) ls (.int (u.2 12 (ix i)) :: rest))) : W p l e R s m args below meth c H locs cells slots Q (F0 m pc ls (.int i :: .ref (q 12) :: rest)) :=
  va_iald hx hb hK G.1 7 0 rfl rfl hi hdg kk
theorem gg0_st12 (hx : p.tables.exec = Jvm.exec) (hb : c.code = cc) (hK : va_K D vwCl (ty_IZ cI cZ) s) (G : gx_ D A H0 H locs (gw0_ cI cZ h q u)) {i x : Int32} (hi : vp_in i 24) (hdg : decode cc pc = .ok (.iastore, 1))
    (kk : ∀ (H1 : Heap) (locs1 : List Loc), gx_ D A H0 H1 locs1 (gw0_ cI cZ h q (st_sa u 12 (ix i) x)) → W p l e R s m args below meth c H1 locs1 cells slots Q (F0 m (pc + 1) ls rest)) : W p l e R s m args below meth c H locs cells slots Q (F0 m pc ls (.int x :: .int i :: .ref (q 12) :: rest)) :=
  va_iast hx hb hK G.1 G.2.1 G.2.2 7 0 rfl rfl hi hdg (fun H1 locs1 h1 h2 h3 => kk H1 locs1 ⟨h1, h2, h3⟩)
theorem gg0_put13 (hx : p.tables.exec = Jvm.exec) (hb : c.code = cc) (hts : ∀ w ∈ Ts, w.before args s = true) (hin : ∀ w ∈ wsX00, w ∈ Ts) (hown : s.vm.findClass RX0 = some m.cls) (hK : va_K D vwCl (ty_IZ cI cZ) s) (G : gx_ D A H0 H locs (gw0_ cI cZ h q u)) {index : Nat} (hlk : (Cond.fieldLink RX0 index "MonitorDesk" (TX0 13).2.1 (TX0 13).2.2.1) ∈ Ts) {v : Int32} (hdg : decode cc pc = .ok (.putfield index, 3))
    (kk : ∀ (H1 : Heap) (locs1 : List Loc), gx_ D A H0 H1 locs1 (gw0_ cI cZ h q (st_si u 13 v)) → W p l e R s m args below meth c H1 locs1 cells slots Q (F0 m (pc + 3) ls rest)) : W p l e R s m args below meth c H locs cells slots Q (F0 m pc ls (.int v :: .ref h :: rest)) :=
  gg0_putW hx hb hts hin hown hK G 13 (by decide) hlk rfl rfl rfl rfl hdg kk
theorem gg0_ld14 (hx : p.tables.exec = Jvm.exec) (hb : c.code = cc) (hK : va_K D vwCl (ty_IZ cI cZ) s) (G : gx_ D A H0 H locs (gw0_ cI cZ h q u)) {i : Int32} (hi : vp_in i 5) (hdg : decode cc pc = .ok (.iaload, 1))
    (kk : W p l e R s m args below meth c H locs cells slots Q (F0 m (pc + 1) ls (.int (u.2 14 (ix i)) :: rest))) : W p l e R s m args below meth c H locs cells slots Q (F0 m pc ls (.int i :: .ref (q 14) :: rest)) :=
  va_iald hx hb hK G.1 8 0 rfl rfl hi hdg kk
theorem gg0_st14 (hx : p.tables.exec = Jvm.exec) (hb : c.code = cc) (hK : va_K D vwCl (ty_IZ cI cZ) s) (G : gx_ D A H0 H locs (gw0_ cI cZ h q u)) {i x : Int32} (hi : vp_in i 5) (hdg : decode cc pc = .ok (.iastore, 1))
    (kk : ∀ (H1 : Heap) (locs1 : List Loc), gx_ D A H0 H1 locs1 (gw0_ cI cZ h q (st_sa u 14 (ix i) x)) → W p l e R s m args below meth c H1 locs1 cells slots Q (F0 m (pc + 1) ls rest)) : W p l e R s m args below meth c H locs cells slots Q (F0 m pc ls (.int x :: .int i :: .ref (q 14) :: rest)) :=
  va_iast hx hb hK G.1 G.2.1 G.2.2 8 0 rfl rfl hi hdg (fun H1 locs1 h1 h2 h3 => kk H1 locs1 ⟨h1, h2, h3⟩)
theorem gg0_put15 (hx : p.tables.exec = Jvm.exec) (hb : c.code = cc) (hts : ∀ w ∈ Ts, w.before args s = true) (hin : ∀ w ∈ wsX00, w ∈ Ts) (hown : s.vm.findClass RX0 = some m.cls) (hK : va_K D vwCl (ty_IZ cI cZ) s) (G : gx_ D A H0 H locs (gw0_ cI cZ h q u)) {index : Nat} (hlk : (Cond.fieldLink RX0 index "MonitorDesk" (TX0 15).2.1 (TX0 15).2.2.1) ∈ Ts) {v : Int32} (hdg : decode cc pc = .ok (.putfield index, 3))
    (kk : ∀ (H1 : Heap) (locs1 : List Loc), gx_ D A H0 H1 locs1 (gw0_ cI cZ h q (st_si u 15 v)) → W p l e R s m args below meth c H1 locs1 cells slots Q (F0 m (pc + 3) ls rest)) : W p l e R s m args below meth c H locs cells slots Q (F0 m pc ls (.int v :: .ref h :: rest)) :=
  gg0_putW hx hb hts hin hown hK G 15 (by decide) hlk rfl rfl rfl rfl hdg kk
theorem gg0_put16 (hx : p.tables.exec = Jvm.exec) (hb : c.code = cc) (hts : ∀ w ∈ Ts, w.before args s = true) (hin : ∀ w ∈ wsX00, w ∈ Ts) (hown : s.vm.findClass RX0 = some m.cls) (hK : va_K D vwCl (ty_IZ cI cZ) s) (G : gx_ D A H0 H locs (gw0_ cI cZ h q u)) {index : Nat} (hlk : (Cond.fieldLink RX0 index "MonitorDesk" (TX0 16).2.1 (TX0 16).2.2.1) ∈ Ts) {v : Int32} (hdg : decode cc pc = .ok (.putfield index, 3))
    (kk : ∀ (H1 : Heap) (locs1 : List Loc), gx_ D A H0 H1 locs1 (gw0_ cI cZ h q (st_si u 16 v)) → W p l e R s m args below meth c H1 locs1 cells slots Q (F0 m (pc + 3) ls rest)) : W p l e R s m args below meth c H locs cells slots Q (F0 m pc ls (.int v :: .ref h :: rest)) :=
  gg0_putW hx hb hts hin hown hK G 16 (by decide) hlk rfl rfl rfl rfl hdg kk
def gf1_ (q : Nat → Nat) (u : st_T) : List Value := [.ref (q 0), .ref (q 1), .int (u.1 2), .ref (q 3), .int (u.1 4), .int (u.1 5), .ref (q 6), .ref (q 7), .int (u.1 8), .int (u.1 9), .ref (q 10), .int (u.1 11), .ref (q 12), .int (u.1 13), .int (u.1 14)]
def gw1_ (cI cZ : ClassId) (h : Nat) (q : Nat → Nat) (u : st_T) : va_W := [(h, .inr (1, gf1_ q u)), (q 0, .inl (cI, 5, .inl (u.2 0))), (q 1, .inl (cI, 520, .inl (u.2 1))), (q 3, .inl (cZ, 4, .inl (u.2 3))), (q 6, .inl (cI, 24, .inl (u.2 6))), (q 7, .inl (cI, 24, .inl (u.2 7))), (q 10, .inl (cI, 24, .inl (u.2 10))), (q 12, .inl (cI, 8, .inl (u.2 12)))]
theorem gt1_ : ∀ k, (TX1 k).1 = "MonitorDeskModel" := fun k => by unfold TX1; split <;> rfl
theorem gg1_get (hx : p.tables.exec = Jvm.exec) (hb : c.code = cc) (hts : ∀ w ∈ Ts, w.before args s = true) (hin : ∀ w ∈ wsX10, w ∈ Ts) (hown : s.vm.findClass RX1 = some m.cls) (hK : va_K D vwCl (ty_IZ cI cZ) s) (G : gx_ D A H0 H locs (gw1_ cI cZ h q u)) (k : Nat) (hk : k < 15) {index : Nat} (hlk : (Cond.fieldLink RX1 index "MonitorDeskModel" (TX1 k).2.1 (TX1 k).2.2.1) ∈ Ts) {v : Value} (hv : (gf1_ q u)[k]? = some v) (hdg : decode cc pc = .ok (.getfield index, 3))
    (kk : W p l e R s m args below meth c H locs cells slots Q (F0 m (pc + 3) ls (v :: rest))) : W p l e R s m args below meth c H locs cells slots Q (F0 m pc ls (.ref h :: rest)) :=
  va_get (D := D) (ci := 1) (C := RX1) (T := TX1) (N := 15) hx hb hts hin hown hK G.1 0 rfl rfl k hk (hts _ hlk) (fun x h9 => by rw [gt1_ k] at h9; exact h9) hv hdg kk
theorem gg1_putW (hx : p.tables.exec = Jvm.exec) (hb : c.code = cc) (hts : ∀ w ∈ Ts, w.before args s = true) (hin : ∀ w ∈ wsX10, w ∈ Ts) (hown : s.vm.findClass RX1 = some m.cls) (hK : va_K D vwCl (ty_IZ cI cZ) s) (G : gx_ D A H0 H locs (gw1_ cI cZ h q u)) (k : Nat) (hk : k < 15) {index : Nat} (hlk : (Cond.fieldLink RX1 index "MonitorDeskModel" (TX1 k).2.1 (TX1 k).2.2.1) ∈ Ts) {v : Int32} (hfin : (TX1 k).2.2.2 = false) (hn : narrow (tyX1 k) (.int v) = .int v) (hfit : fits (tyX1 k) (.int v) = true) (hset : (gw1_ cI cZ h q u).set 0 (h, .inr (1, (gf1_ q u).set k (.int v))) = gw1_ cI cZ h q (st_si u k v)) (hdg : decode cc pc = .ok (.putfield index, 3))
    (kk : ∀ (H1 : Heap) (locs1 : List Loc), gx_ D A H0 H1 locs1 (gw1_ cI cZ h q (st_si u k v)) → W p l e R s m args below meth c H1 locs1 cells slots Q (F0 m (pc + 3) ls rest)) : W p l e R s m args below meth c H locs cells slots Q (F0 m pc ls (.int v :: .ref h :: rest)) :=
  va_put (D := D) (ci := 1) (ty := tyX1 k) (C := RX1) (T := TX1) (N := 15) hx hb hts hin tyX1 tyX1_ok nmX1 hown hK G.1 G.2.1 G.2.2 0 rfl rfl k hk (hts _ hlk) (fun x h9 => by rw [gt1_ k] at h9; exact h9) hfin (tyX1_ok k hk) hn hfit (by simpa [gf1_] using hk) hdg (fun H1 locs1 h1 h2 h3 => kk H1 locs1 ⟨hset ▸ h1, hset ▸ h2, h3⟩)
theorem gg1_ld0 (hx : p.tables.exec = Jvm.exec) (hb : c.code = cc) (hK : va_K D vwCl (ty_IZ cI cZ) s) (G : gx_ D A H0 H locs (gw1_ cI cZ h q u)) {i : Int32} (hi : vp_in i 5) (hdg : decode cc pc = .ok (.iaload, 1))
    (kk : W p l e R s m args below meth c H locs cells slots Q (F0 m (pc + 1) ls (.int (u.2 0 (ix i)) :: rest))) : W p l e R s m args below meth c H locs cells slots Q (F0 m pc ls (.int i :: .ref (q 0) :: rest)) :=
  va_iald hx hb hK G.1 1 0 rfl rfl hi hdg kk
theorem gg1_st0 (hx : p.tables.exec = Jvm.exec) (hb : c.code = cc) (hK : va_K D vwCl (ty_IZ cI cZ) s) (G : gx_ D A H0 H locs (gw1_ cI cZ h q u)) {i x : Int32} (hi : vp_in i 5) (hdg : decode cc pc = .ok (.iastore, 1))
    (kk : ∀ (H1 : Heap) (locs1 : List Loc), gx_ D A H0 H1 locs1 (gw1_ cI cZ h q (st_sa u 0 (ix i) x)) → W p l e R s m args below meth c H1 locs1 cells slots Q (F0 m (pc + 1) ls rest)) : W p l e R s m args below meth c H locs cells slots Q (F0 m pc ls (.int x :: .int i :: .ref (q 0) :: rest)) :=
  va_iast hx hb hK G.1 G.2.1 G.2.2 1 0 rfl rfl hi hdg (fun H1 locs1 h1 h2 h3 => kk H1 locs1 ⟨h1, h2, h3⟩)
theorem gg1_ld1 (hx : p.tables.exec = Jvm.exec) (hb : c.code = cc) (hK : va_K D vwCl (ty_IZ cI cZ) s) (G : gx_ D A H0 H locs (gw1_ cI cZ h q u)) {i : Int32} (hi : vp_in i 520) (hdg : decode cc pc = .ok (.iaload, 1))
    (kk : W p l e R s m args below meth c H locs cells slots Q (F0 m (pc + 1) ls (.int (u.2 1 (ix i)) :: rest))) : W p l e R s m args below meth c H locs cells slots Q (F0 m pc ls (.int i :: .ref (q 1) :: rest)) :=
  va_iald hx hb hK G.1 2 0 rfl rfl hi hdg kk
theorem gg1_st1 (hx : p.tables.exec = Jvm.exec) (hb : c.code = cc) (hK : va_K D vwCl (ty_IZ cI cZ) s) (G : gx_ D A H0 H locs (gw1_ cI cZ h q u)) {i x : Int32} (hi : vp_in i 520) (hdg : decode cc pc = .ok (.iastore, 1))
    (kk : ∀ (H1 : Heap) (locs1 : List Loc), gx_ D A H0 H1 locs1 (gw1_ cI cZ h q (st_sa u 1 (ix i) x)) → W p l e R s m args below meth c H1 locs1 cells slots Q (F0 m (pc + 1) ls rest)) : W p l e R s m args below meth c H locs cells slots Q (F0 m pc ls (.int x :: .int i :: .ref (q 1) :: rest)) :=
  va_iast hx hb hK G.1 G.2.1 G.2.2 2 0 rfl rfl hi hdg (fun H1 locs1 h1 h2 h3 => kk H1 locs1 ⟨h1, h2, h3⟩)
theorem gg1_put2 (hx : p.tables.exec = Jvm.exec) (hb : c.code = cc) (hts : ∀ w ∈ Ts, w.before args s = true) (hin : ∀ w ∈ wsX10, w ∈ Ts) (hown : s.vm.findClass RX1 = some m.cls) (hK : va_K D vwCl (ty_IZ cI cZ) s) (G : gx_ D A H0 H locs (gw1_ cI cZ h q u)) {index : Nat} (hlk : (Cond.fieldLink RX1 index "MonitorDeskModel" (TX1 2).2.1 (TX1 2).2.2.1) ∈ Ts) {v : Int32} (hdg : decode cc pc = .ok (.putfield index, 3))
    (kk : ∀ (H1 : Heap) (locs1 : List Loc), gx_ D A H0 H1 locs1 (gw1_ cI cZ h q (st_si u 2 v)) → W p l e R s m args below meth c H1 locs1 cells slots Q (F0 m (pc + 3) ls rest)) : W p l e R s m args below meth c H locs cells slots Q (F0 m pc ls (.int v :: .ref h :: rest)) :=
  gg1_putW hx hb hts hin hown hK G 2 (by decide) hlk rfl rfl rfl rfl hdg kk
theorem gg1_ld3 (hx : p.tables.exec = Jvm.exec) (hb : c.code = cc) (hK : va_K D vwCl (ty_IZ cI cZ) s) (G : gx_ D A H0 H locs (gw1_ cI cZ h q u)) {i : Int32} (hi : vp_in i 4) (hdg : decode cc pc = .ok (.baload, 1))
    (kk : W p l e R s m args below meth c H locs cells slots Q (F0 m (pc + 1) ls (.int (u.2 3 (ix i)) :: rest))) : W p l e R s m args below meth c H locs cells slots Q (F0 m pc ls (.int i :: .ref (q 3) :: rest)) :=
  va_zald hx hb hK G.1 3 1 rfl rfl hi hdg kk
theorem gg1_st3 (hx : p.tables.exec = Jvm.exec) (hb : c.code = cc) (hK : va_K D vwCl (ty_IZ cI cZ) s) (G : gx_ D A H0 H locs (gw1_ cI cZ h q u)) {i x : Int32} (hi : vp_in i 4) (hn : vp_nar .boolean x = x) (hdg : decode cc pc = .ok (.bastore, 1))
    (kk : ∀ (H1 : Heap) (locs1 : List Loc), gx_ D A H0 H1 locs1 (gw1_ cI cZ h q (st_sa u 3 (ix i) x)) → W p l e R s m args below meth c H1 locs1 cells slots Q (F0 m (pc + 1) ls rest)) : W p l e R s m args below meth c H locs cells slots Q (F0 m pc ls (.int x :: .int i :: .ref (q 3) :: rest)) :=
  va_zast hx hb hK G.1 G.2.1 G.2.2 3 1 rfl rfl hi hdg (fun H1 locs1 h1 h2 h3 => by rw [hn] at h1 h2; exact kk H1 locs1 ⟨h1, h2, h3⟩)
theorem gg1_put4 (hx : p.tables.exec = Jvm.exec) (hb : c.code = cc) (hts : ∀ w ∈ Ts, w.before args s = true) (hin : ∀ w ∈ wsX10, w ∈ Ts) (hown : s.vm.findClass RX1 = some m.cls) (hK : va_K D vwCl (ty_IZ cI cZ) s) (G : gx_ D A H0 H locs (gw1_ cI cZ h q u)) {index : Nat} (hlk : (Cond.fieldLink RX1 index "MonitorDeskModel" (TX1 4).2.1 (TX1 4).2.2.1) ∈ Ts) {v : Int32} (hdg : decode cc pc = .ok (.putfield index, 3))
    (kk : ∀ (H1 : Heap) (locs1 : List Loc), gx_ D A H0 H1 locs1 (gw1_ cI cZ h q (st_si u 4 v)) → W p l e R s m args below meth c H1 locs1 cells slots Q (F0 m (pc + 3) ls rest)) : W p l e R s m args below meth c H locs cells slots Q (F0 m pc ls (.int v :: .ref h :: rest)) :=
  gg1_putW hx hb hts hin hown hK G 4 (by decide) hlk rfl rfl rfl rfl hdg kk
theorem gg1_put5 (hx : p.tables.exec = Jvm.exec) (hb : c.code = cc) (hts : ∀ w ∈ Ts, w.before args s = true) (hin : ∀ w ∈ wsX10, w ∈ Ts) (hown : s.vm.findClass RX1 = some m.cls) (hK : va_K D vwCl (ty_IZ cI cZ) s) (G : gx_ D A H0 H locs (gw1_ cI cZ h q u)) {index : Nat} (hlk : (Cond.fieldLink RX1 index "MonitorDeskModel" (TX1 5).2.1 (TX1 5).2.2.1) ∈ Ts) {v : Int32} (hn : narrow .boolean (.int v) = .int v) (hf : fits .boolean (.int v) = true) (hdg : decode cc pc = .ok (.putfield index, 3))
    (kk : ∀ (H1 : Heap) (locs1 : List Loc), gx_ D A H0 H1 locs1 (gw1_ cI cZ h q (st_si u 5 v)) → W p l e R s m args below meth c H1 locs1 cells slots Q (F0 m (pc + 3) ls rest)) : W p l e R s m args below meth c H locs cells slots Q (F0 m pc ls (.int v :: .ref h :: rest)) :=
  gg1_putW hx hb hts hin hown hK G 5 (by decide) hlk rfl hn hf rfl hdg kk
theorem gg1_ld6 (hx : p.tables.exec = Jvm.exec) (hb : c.code = cc) (hK : va_K D vwCl (ty_IZ cI cZ) s) (G : gx_ D A H0 H locs (gw1_ cI cZ h q u)) {i : Int32} (hi : vp_in i 24) (hdg : decode cc pc = .ok (.iaload, 1))
    (kk : W p l e R s m args below meth c H locs cells slots Q (F0 m (pc + 1) ls (.int (u.2 6 (ix i)) :: rest))) : W p l e R s m args below meth c H locs cells slots Q (F0 m pc ls (.int i :: .ref (q 6) :: rest)) :=
  va_iald hx hb hK G.1 4 0 rfl rfl hi hdg kk
theorem gg1_st6 (hx : p.tables.exec = Jvm.exec) (hb : c.code = cc) (hK : va_K D vwCl (ty_IZ cI cZ) s) (G : gx_ D A H0 H locs (gw1_ cI cZ h q u)) {i x : Int32} (hi : vp_in i 24) (hdg : decode cc pc = .ok (.iastore, 1))
    (kk : ∀ (H1 : Heap) (locs1 : List Loc), gx_ D A H0 H1 locs1 (gw1_ cI cZ h q (st_sa u 6 (ix i) x)) → W p l e R s m args below meth c H1 locs1 cells slots Q (F0 m (pc + 1) ls rest)) : W p l e R s m args below meth c H locs cells slots Q (F0 m pc ls (.int x :: .int i :: .ref (q 6) :: rest)) :=
  va_iast hx hb hK G.1 G.2.1 G.2.2 4 0 rfl rfl hi hdg (fun H1 locs1 h1 h2 h3 => kk H1 locs1 ⟨h1, h2, h3⟩)
theorem gg1_ld7 (hx : p.tables.exec = Jvm.exec) (hb : c.code = cc) (hK : va_K D vwCl (ty_IZ cI cZ) s) (G : gx_ D A H0 H locs (gw1_ cI cZ h q u)) {i : Int32} (hi : vp_in i 24) (hdg : decode cc pc = .ok (.iaload, 1))
    (kk : W p l e R s m args below meth c H locs cells slots Q (F0 m (pc + 1) ls (.int (u.2 7 (ix i)) :: rest))) : W p l e R s m args below meth c H locs cells slots Q (F0 m pc ls (.int i :: .ref (q 7) :: rest)) :=
  va_iald hx hb hK G.1 5 0 rfl rfl hi hdg kk
theorem gg1_st7 (hx : p.tables.exec = Jvm.exec) (hb : c.code = cc) (hK : va_K D vwCl (ty_IZ cI cZ) s) (G : gx_ D A H0 H locs (gw1_ cI cZ h q u)) {i x : Int32} (hi : vp_in i 24) (hdg : decode cc pc = .ok (.iastore, 1))
    (kk : ∀ (H1 : Heap) (locs1 : List Loc), gx_ D A H0 H1 locs1 (gw1_ cI cZ h q (st_sa u 7 (ix i) x)) → W p l e R s m args below meth c H1 locs1 cells slots Q (F0 m (pc + 1) ls rest)) : W p l e R s m args below meth c H locs cells slots Q (F0 m pc ls (.int x :: .int i :: .ref (q 7) :: rest)) :=
  va_iast hx hb hK G.1 G.2.1 G.2.2 5 0 rfl rfl hi hdg (fun H1 locs1 h1 h2 h3 => kk H1 locs1 ⟨h1, h2, h3⟩)
theorem gg1_put8 (hx : p.tables.exec = Jvm.exec) (hb : c.code = cc) (hts : ∀ w ∈ Ts, w.before args s = true) (hin : ∀ w ∈ wsX10, w ∈ Ts) (hown : s.vm.findClass RX1 = some m.cls) (hK : va_K D vwCl (ty_IZ cI cZ) s) (G : gx_ D A H0 H locs (gw1_ cI cZ h q u)) {index : Nat} (hlk : (Cond.fieldLink RX1 index "MonitorDeskModel" (TX1 8).2.1 (TX1 8).2.2.1) ∈ Ts) {v : Int32} (hdg : decode cc pc = .ok (.putfield index, 3))
    (kk : ∀ (H1 : Heap) (locs1 : List Loc), gx_ D A H0 H1 locs1 (gw1_ cI cZ h q (st_si u 8 v)) → W p l e R s m args below meth c H1 locs1 cells slots Q (F0 m (pc + 3) ls rest)) : W p l e R s m args below meth c H locs cells slots Q (F0 m pc ls (.int v :: .ref h :: rest)) :=
  gg1_putW hx hb hts hin hown hK G 8 (by decide) hlk rfl rfl rfl rfl hdg kk
theorem gg1_put9 (hx : p.tables.exec = Jvm.exec) (hb : c.code = cc) (hts : ∀ w ∈ Ts, w.before args s = true) (hin : ∀ w ∈ wsX10, w ∈ Ts) (hown : s.vm.findClass RX1 = some m.cls) (hK : va_K D vwCl (ty_IZ cI cZ) s) (G : gx_ D A H0 H locs (gw1_ cI cZ h q u)) {index : Nat} (hlk : (Cond.fieldLink RX1 index "MonitorDeskModel" (TX1 9).2.1 (TX1 9).2.2.1) ∈ Ts) {v : Int32} (hdg : decode cc pc = .ok (.putfield index, 3))
    (kk : ∀ (H1 : Heap) (locs1 : List Loc), gx_ D A H0 H1 locs1 (gw1_ cI cZ h q (st_si u 9 v)) → W p l e R s m args below meth c H1 locs1 cells slots Q (F0 m (pc + 3) ls rest)) : W p l e R s m args below meth c H locs cells slots Q (F0 m pc ls (.int v :: .ref h :: rest)) :=
  gg1_putW hx hb hts hin hown hK G 9 (by decide) hlk rfl rfl rfl rfl hdg kk
theorem gg1_ld10 (hx : p.tables.exec = Jvm.exec) (hb : c.code = cc) (hK : va_K D vwCl (ty_IZ cI cZ) s) (G : gx_ D A H0 H locs (gw1_ cI cZ h q u)) {i : Int32} (hi : vp_in i 24) (hdg : decode cc pc = .ok (.iaload, 1))
    (kk : W p l e R s m args below meth c H locs cells slots Q (F0 m (pc + 1) ls (.int (u.2 10 (ix i)) :: rest))) : W p l e R s m args below meth c H locs cells slots Q (F0 m pc ls (.int i :: .ref (q 10) :: rest)) :=
  va_iald hx hb hK G.1 6 0 rfl rfl hi hdg kk
theorem gg1_st10 (hx : p.tables.exec = Jvm.exec) (hb : c.code = cc) (hK : va_K D vwCl (ty_IZ cI cZ) s) (G : gx_ D A H0 H locs (gw1_ cI cZ h q u)) {i x : Int32} (hi : vp_in i 24) (hdg : decode cc pc = .ok (.iastore, 1))
    (kk : ∀ (H1 : Heap) (locs1 : List Loc), gx_ D A H0 H1 locs1 (gw1_ cI cZ h q (st_sa u 10 (ix i) x)) → W p l e R s m args below meth c H1 locs1 cells slots Q (F0 m (pc + 1) ls rest)) : W p l e R s m args below meth c H locs cells slots Q (F0 m pc ls (.int x :: .int i :: .ref (q 10) :: rest)) :=
  va_iast hx hb hK G.1 G.2.1 G.2.2 6 0 rfl rfl hi hdg (fun H1 locs1 h1 h2 h3 => kk H1 locs1 ⟨h1, h2, h3⟩)
theorem gg1_put11 (hx : p.tables.exec = Jvm.exec) (hb : c.code = cc) (hts : ∀ w ∈ Ts, w.before args s = true) (hin : ∀ w ∈ wsX10, w ∈ Ts) (hown : s.vm.findClass RX1 = some m.cls) (hK : va_K D vwCl (ty_IZ cI cZ) s) (G : gx_ D A H0 H locs (gw1_ cI cZ h q u)) {index : Nat} (hlk : (Cond.fieldLink RX1 index "MonitorDeskModel" (TX1 11).2.1 (TX1 11).2.2.1) ∈ Ts) {v : Int32} (hdg : decode cc pc = .ok (.putfield index, 3))
    (kk : ∀ (H1 : Heap) (locs1 : List Loc), gx_ D A H0 H1 locs1 (gw1_ cI cZ h q (st_si u 11 v)) → W p l e R s m args below meth c H1 locs1 cells slots Q (F0 m (pc + 3) ls rest)) : W p l e R s m args below meth c H locs cells slots Q (F0 m pc ls (.int v :: .ref h :: rest)) :=
  gg1_putW hx hb hts hin hown hK G 11 (by decide) hlk rfl rfl rfl rfl hdg kk
theorem gg1_ld12 (hx : p.tables.exec = Jvm.exec) (hb : c.code = cc) (hK : va_K D vwCl (ty_IZ cI cZ) s) (G : gx_ D A H0 H locs (gw1_ cI cZ h q u)) {i : Int32} (hi : vp_in i 8) (hdg : decode cc pc = .ok (.iaload, 1))
    (kk : W p l e R s m args below meth c H locs cells slots Q (F0 m (pc + 1) ls (.int (u.2 12 (ix i)) :: rest))) : W p l e R s m args below meth c H locs cells slots Q (F0 m pc ls (.int i :: .ref (q 12) :: rest)) :=
  va_iald hx hb hK G.1 7 0 rfl rfl hi hdg kk
theorem gg1_st12 (hx : p.tables.exec = Jvm.exec) (hb : c.code = cc) (hK : va_K D vwCl (ty_IZ cI cZ) s) (G : gx_ D A H0 H locs (gw1_ cI cZ h q u)) {i x : Int32} (hi : vp_in i 8) (hdg : decode cc pc = .ok (.iastore, 1))
    (kk : ∀ (H1 : Heap) (locs1 : List Loc), gx_ D A H0 H1 locs1 (gw1_ cI cZ h q (st_sa u 12 (ix i) x)) → W p l e R s m args below meth c H1 locs1 cells slots Q (F0 m (pc + 1) ls rest)) : W p l e R s m args below meth c H locs cells slots Q (F0 m pc ls (.int x :: .int i :: .ref (q 12) :: rest)) :=
  va_iast hx hb hK G.1 G.2.1 G.2.2 7 0 rfl rfl hi hdg (fun H1 locs1 h1 h2 h3 => kk H1 locs1 ⟨h1, h2, h3⟩)
theorem gg1_put13 (hx : p.tables.exec = Jvm.exec) (hb : c.code = cc) (hts : ∀ w ∈ Ts, w.before args s = true) (hin : ∀ w ∈ wsX10, w ∈ Ts) (hown : s.vm.findClass RX1 = some m.cls) (hK : va_K D vwCl (ty_IZ cI cZ) s) (G : gx_ D A H0 H locs (gw1_ cI cZ h q u)) {index : Nat} (hlk : (Cond.fieldLink RX1 index "MonitorDeskModel" (TX1 13).2.1 (TX1 13).2.2.1) ∈ Ts) {v : Int32} (hdg : decode cc pc = .ok (.putfield index, 3))
    (kk : ∀ (H1 : Heap) (locs1 : List Loc), gx_ D A H0 H1 locs1 (gw1_ cI cZ h q (st_si u 13 v)) → W p l e R s m args below meth c H1 locs1 cells slots Q (F0 m (pc + 3) ls rest)) : W p l e R s m args below meth c H locs cells slots Q (F0 m pc ls (.int v :: .ref h :: rest)) :=
  gg1_putW hx hb hts hin hown hK G 13 (by decide) hlk rfl rfl rfl rfl hdg kk
theorem gg1_put14 (hx : p.tables.exec = Jvm.exec) (hb : c.code = cc) (hts : ∀ w ∈ Ts, w.before args s = true) (hin : ∀ w ∈ wsX10, w ∈ Ts) (hown : s.vm.findClass RX1 = some m.cls) (hK : va_K D vwCl (ty_IZ cI cZ) s) (G : gx_ D A H0 H locs (gw1_ cI cZ h q u)) {index : Nat} (hlk : (Cond.fieldLink RX1 index "MonitorDeskModel" (TX1 14).2.1 (TX1 14).2.2.1) ∈ Ts) {v : Int32} (hdg : decode cc pc = .ok (.putfield index, 3))
    (kk : ∀ (H1 : Heap) (locs1 : List Loc), gx_ D A H0 H1 locs1 (gw1_ cI cZ h q (st_si u 14 v)) → W p l e R s m args below meth c H1 locs1 cells slots Q (F0 m (pc + 3) ls rest)) : W p l e R s m args below meth c H locs cells slots Q (F0 m pc ls (.int v :: .ref h :: rest)) :=
  gg1_putW hx hb hts hin hown hK G 14 (by decide) hlk rfl rfl rfl rfl hdg kk
theorem gx_is {x y : Int32} (e1 : x = y) (k : W p l e R s m args below meth c H locs cells slots Q (F0 m pc ls (.int y :: rest))) : W p l e R s m args below meth c H locs cells slots Q (F0 m pc ls (.int x :: rest)) := e1 ▸ k
theorem gx_callr {S : Type} {wf : S → va_W} {u : S} {f : Int32} {C : String} {T : u_T} {N ci : Nat} {fs : List Value} {index maxL nL : Nat} {y : MethodName} {bytes : ByteArray} {ret : Option FieldType} {wsy ws' : List Cond} {rm : Room} {As st0 : List Value} (n : Nat)
    (hx : p.tables.exec = Jvm.exec) (hb : c.code = cc) (hml : c.maxLocals = nL) (hown : s.vm.findClass own = some m.cls) (hts : ∀ w ∈ Ts, w.before args s = true) (hK : va_K D vwCl (ty_IZ cI cZ) s) (hA : ∀ x, H0.size ≤ x → A x) (G : gx_ D A H0 H locs (wf u)) (hrec : (wf u)[0]? = some (h, .inr (ci, fs))) (hc : vwCl[ci]? = some (C, T, N))
    (hM : gx_Mi l y wsy rm (.ref h :: As) D cI cZ wf u H.size (f, u)) (gin : GoodIn Ts (wsV own index C y wsy)) (hw : wsy = Cond.code y bytes maxL ret :: ws') (hr0 : rm.cells = 0) (hr1 : rm.slots = 0)
    (hd : y.cls = C ∧ y.cls ≠ "java/lang/invoke/MethodHandle" ∧ y.cls ≠ "java/lang/invoke/VarHandle" ∧ (parseMethodDescriptor y.desc).map (fun d => d.parameters.length) = some n) (hR : rm.frames + 1 ≤ R.frames ∧ 8 + (maxL + 11) + rm.locals ≤ R.locals)
    (hn : As.length = n) (hls : ls.size = nL) (hst : st0 = As.reverse ++ .ref h :: rest) (hroom : (rest.map fun v => v.category).sum ≤ 8) (hdg : decode cc pc = .ok (.invokevirtual index, 3)) (hcl : cells ≤ R.cells) (hsl : slots ≤ R.slots)
    (kk : ∀ (H1 : Heap) (locs1 : List Loc), gx_ D A H0 H1 locs1 (wf u) → W p l e R s m args below meth c H1 locs1 cells slots Q (F0 m (pc + 3) ls (.int f :: rest))) : W p l e R s m args below meth c H locs cells slots Q (F0 m pc ls st0) :=
  gx_calli (wf := wf) (f := (f, u)) n hx hb hml hown hts hK hA G hrec hc hM gin hw hr0 hr1 hd hR hn hls hst hroom hdg hcl hsl kk
end GX
end
section
/-! static methods: the numbers that they answer -/
theorem in_1 {x M : Int32} {n : Nat} (hM : M.toInt = n) (h0 : ¬ x < 0) (h1 : ¬ M ≤ x) : vp_in x n := by
  rw [Int32.lt_iff_toInt_lt, Int32.toInt_zero] at h0
  rw [Int32.le_iff_toInt_le, hM] at h1
  exact vp_in_iff.mpr ⟨by omega, by omega⟩
theorem in_2 {x M : Int32} {n : Nat} (hM : M.toInt = n) (h0 : ¬ x < 0) (h1 : x < M) : vp_in x n := by
  rw [Int32.lt_iff_toInt_lt, Int32.toInt_zero] at h0
  rw [Int32.lt_iff_toInt_lt, hM] at h1
  exact vp_in_iff.mpr ⟨by omega, by omega⟩
theorem in_3 {x : Int32} (h0 : ¬ x < -2) (h1 : x < 5) (h2 : ¬ x = -2) (h3 : ¬ x = -1) : vp_in x 5 := by
  rw [Int32.lt_iff_toInt_lt] at h0 h1
  have e2 := lv_neT h2 (a := -2) (by decide)
  have e3 := lv_neT h3 (a := -1) (by decide)
  rw [show (-2 : Int32).toInt = -2 by decide] at h0
  rw [show (5 : Int32).toInt = 5 by decide] at h1
  exact vp_in_iff.mpr ⟨by omega, by omega⟩
theorem in_4 {x : Int32} (h0 : ¬ x < -2) (h1 : x ≤ 4) (h2 : ¬ x = -2) (h3 : ¬ x = -1) : vp_in x 5 := by
  refine in_3 h0 ?_ h2 h3
  rw [Int32.le_iff_toInt_le, show (4 : Int32).toInt = 4 by decide] at h1
  rw [Int32.lt_iff_toInt_lt, show (5 : Int32).toInt = 5 by decide]
  omega
theorem in_z {n : Nat} (h : 0 < n) : vp_in 0 n := vp_in_iff.mpr ⟨by simp, by simpa using h⟩
def pj_floorMod_7cf53 (p0 p1 : Int32) : Int32 :=
  if 0 ≤ p0 ^^^ p1 then
    p0 - p0 / p1 * p1
  else
    if p0 - p0 / p1 * p1 = 0 then
      p0 - p0 / p1 * p1
    else
      (p0 - p0 / p1 * p1) + p1
set_option maxHeartbeats 4000000 in
set_option maxRecDepth 100000 in
theorem kj_floorMod_7cf53 (l : Launch) (p0 p1 : Int32) (hz : ¬ p1 = 0) : gx_Ms l yJ9_floorMod_7cf53 wsJ9_floorMod_7cf53 { frames := 0, cells := 0, slots := 0, locals := 0 } [.int p0, .int p1] (pj_floorMod_7cf53 p0 p1) := by
  refine gx_metS (cc := cJ9_floorMod_7cf53) (maxL := 3) (ret := (some .int)) (by decide +kernel) rfl (Nat.le_of_ble_eq_true rfl) (fun p e s m args below meth c ls hx hb hr hlocks hts hown hml hl => ?_)
  have hl : lv_has ls 3 [(0, .int p0), (1, .int p1)] := hl
  refine lv_iload_n hx hb dJ9_floorMod_7cf53_0 rfl (lv_at hl 0 rfl) ?_
  refine lv_iload_n hx hb dJ9_floorMod_7cf53_1 rfl (lv_at hl 1 rfl) ?_
  refine lv_irem hx hb dJ9_floorMod_7cf53_2 hz ?_
  refine lv_istore_n (lv' := [(2, .int (p0 - p0 / p1 * p1)), (0, .int p0), (1, .int p1)]) hx hb dJ9_floorMod_7cf53_3 rfl hl (by decide) rfl (fun ls hl => ?_)
  refine lv_iload_n hx hb dJ9_floorMod_7cf53_4 rfl (lv_at hl 1 rfl) ?_
  refine lv_iload_n hx hb dJ9_floorMod_7cf53_5 rfl (lv_at hl 2 rfl) ?_
  refine lv_ixor hx hb dJ9_floorMod_7cf53_6 ?_
  refine lv_if_ge (tgt := 18) hx hb dJ9_floorMod_7cf53_7 (by decide) (fun c_7 => ?_) (fun c_7 => ?_)
  · refine lv_iload_n hx hb dJ9_floorMod_7cf53_18 rfl (lv_at hl 0 rfl) ?_
    exact gx_sret hx hb hr hlocks dJ9_floorMod_7cf53_19 (by unfold pj_floorMod_7cf53; rw [if_pos c_7])
  · refine lv_iload_n hx hb dJ9_floorMod_7cf53_10 rfl (lv_at hl 0 rfl) ?_
    refine lv_if_eq (tgt := 18) hx hb dJ9_floorMod_7cf53_11 (by decide) (fun c_11 => ?_) (fun c_11 => ?_)
    · refine lv_iload_n hx hb dJ9_floorMod_7cf53_18 rfl (lv_at hl 0 rfl) ?_
      exact gx_sret hx hb hr hlocks dJ9_floorMod_7cf53_19 (by unfold pj_floorMod_7cf53; rw [if_neg c_7, if_pos c_11])
    · refine lv_iload_n hx hb dJ9_floorMod_7cf53_14 rfl (lv_at hl 0 rfl) ?_
      refine lv_iload_n hx hb dJ9_floorMod_7cf53_15 rfl (lv_at hl 2 rfl) ?_
      refine lv_iadd hx hb dJ9_floorMod_7cf53_16 ?_
      exact gx_sret hx hb hr hlocks dJ9_floorMod_7cf53_17 (by unfold pj_floorMod_7cf53; rw [if_neg c_7, if_neg c_11])
theorem hd_J9_floorMod_7cf53 : yJ9_floorMod_7cf53.cls ≠ "java/lang/invoke/MethodHandle" ∧ yJ9_floorMod_7cf53.cls ≠ "java/lang/invoke/VarHandle" ∧ (parseMethodDescriptor yJ9_floorMod_7cf53.desc).map (fun d => d.parameters.length) = some 2 := by decide +kernel
def pd_opensBlock (p0 : Int32) : Int32 :=
  if p0 = 1 then
    1
  else
    if p0 = 2 then
      1
    else
      0
set_option maxHeartbeats 4000000 in
set_option maxRecDepth 100000 in
theorem kd_opensBlock (l : Launch) (p0 : Int32) : gx_Ms l yX0_opensBlock wsX0_opensBlock { frames := 0, cells := 0, slots := 0, locals := 0 } [.int p0] (pd_opensBlock p0) := by
  refine gx_metS (cc := cX0_opensBlock) (maxL := 1) (ret := (some .boolean)) (by decide +kernel) rfl (Nat.le_of_ble_eq_true rfl) (fun p e s m args below meth c ls hx hb hr hlocks hts hown hml hl => ?_)
  have hl : lv_has ls 1 [(0, .int p0)] := hl
  refine lv_iload_n hx hb dX0_opensBlock_0 rfl (lv_at hl 0 rfl) ?_
  refine lv_iconst (v := 1) hx hb dX0_opensBlock_1 (by decide) ?_
  refine lv_icmp_eq (tgt := 10) hx hb dX0_opensBlock_2 (by decide) (fun c_2 => ?_) (fun c_2 => ?_)
  · refine lv_iconst (v := 1) hx hb dX0_opensBlock_10 (by decide) ?_
    refine lv_goto (tgt := 15) hx hb dX0_opensBlock_11 (by decide) ?_
    exact gx_szret hx hb hr hlocks dX0_opensBlock_15 rfl (by unfold pd_opensBlock; rw [if_pos c_2])
  · refine lv_iload_n hx hb dX0_opensBlock_5 rfl (lv_at hl 0 rfl) ?_
    refine lv_iconst (v := 2) hx hb dX0_opensBlock_6 (by decide) ?_
    refine lv_icmp_ne (tgt := 14) hx hb dX0_opensBlock_7 (by decide) (fun c_7 => ?_) (fun c_7 => ?_)
    · refine lv_iconst (v := 0) hx hb dX0_opensBlock_14 (by decide) ?_
      exact gx_szret hx hb hr hlocks dX0_opensBlock_15 rfl (by unfold pd_opensBlock; rw [if_neg c_2, if_neg c_7])
    · refine lv_iconst (v := 1) hx hb dX0_opensBlock_10 (by decide) ?_
      refine lv_goto (tgt := 15) hx hb dX0_opensBlock_11 (by decide) ?_
      exact gx_szret hx hb hr hlocks dX0_opensBlock_15 rfl (by unfold pd_opensBlock; rw [if_neg c_2, if_pos c_7])
theorem hd_X0_opensBlock : yX0_opensBlock.cls ≠ "java/lang/invoke/MethodHandle" ∧ yX0_opensBlock.cls ≠ "java/lang/invoke/VarHandle" ∧ (parseMethodDescriptor yX0_opensBlock.desc).map (fun d => d.parameters.length) = some 1 := by decide +kernel
def pd_asNumber (p0 : Int32) : Int32 :=
  if p0 = 0 then
    0
  else
    1
set_option maxHeartbeats 4000000 in
set_option maxRecDepth 100000 in
theorem kd_asNumber (l : Launch) (p0 : Int32) : gx_Ms l yX0_asNumber wsX0_asNumber { frames := 0, cells := 0, slots := 0, locals := 0 } [.int p0] (pd_asNumber p0) := by
  refine gx_metS (cc := cX0_asNumber) (maxL := 1) (ret := (some .int)) (by decide +kernel) rfl (Nat.le_of_ble_eq_true rfl) (fun p e s m args below meth c ls hx hb hr hlocks hts hown hml hl => ?_)
  have hl : lv_has ls 1 [(0, .int p0)] := hl
  refine lv_iload_n hx hb dX0_asNumber_0 rfl (lv_at hl 0 rfl) ?_
  refine lv_if_eq (tgt := 8) hx hb dX0_asNumber_1 (by decide) (fun c_1 => ?_) (fun c_1 => ?_)
  · refine lv_iconst (v := 0) hx hb dX0_asNumber_8 (by decide) ?_
    exact gx_sret hx hb hr hlocks dX0_asNumber_9 (by unfold pd_asNumber; rw [if_pos c_1])
  · refine lv_iconst (v := 1) hx hb dX0_asNumber_4 (by decide) ?_
    refine lv_goto (tgt := 9) hx hb dX0_asNumber_5 (by decide) ?_
    exact gx_sret hx hb hr hlocks dX0_asNumber_9 (by unfold pd_asNumber; rw [if_neg c_1])
theorem hd_X0_asNumber : yX0_asNumber.cls ≠ "java/lang/invoke/MethodHandle" ∧ yX0_asNumber.cls ≠ "java/lang/invoke/VarHandle" ∧ (parseMethodDescriptor yX0_asNumber.desc).map (fun d => d.parameters.length) = some 1 := by decide +kernel
def pm_in (p0 p1 : Int32) : Int32 :=
  if p0 < 0 then
    0
  else
    if p1 ≤ p0 then
      0
    else
      1
set_option maxHeartbeats 4000000 in
set_option maxRecDepth 100000 in
theorem km_in (l : Launch) (p0 p1 : Int32) : gx_Ms l yX1_in wsX1_in { frames := 0, cells := 0, slots := 0, locals := 0 } [.int p0, .int p1] (pm_in p0 p1) := by
  refine gx_metS (cc := cX1_in) (maxL := 2) (ret := (some .boolean)) (by decide +kernel) rfl (Nat.le_of_ble_eq_true rfl) (fun p e s m args below meth c ls hx hb hr hlocks hts hown hml hl => ?_)
  have hl : lv_has ls 2 [(0, .int p0), (1, .int p1)] := hl
  refine lv_iload_n hx hb dX1_in_0 rfl (lv_at hl 0 rfl) ?_
  refine lv_if_lt (tgt := 13) hx hb dX1_in_1 (by decide) (fun c_1 => ?_) (fun c_1 => ?_)
  · refine lv_iconst (v := 0) hx hb dX1_in_13 (by decide) ?_
    exact gx_szret hx hb hr hlocks dX1_in_14 rfl (by unfold pm_in; rw [if_pos c_1])
  · refine lv_iload_n hx hb dX1_in_4 rfl (lv_at hl 0 rfl) ?_
    refine lv_iload_n hx hb dX1_in_5 rfl (lv_at hl 1 rfl) ?_
    refine lv_icmp_ge (tgt := 13) hx hb dX1_in_6 (by decide) (fun c_6 => ?_) (fun c_6 => ?_)
    · refine lv_iconst (v := 0) hx hb dX1_in_13 (by decide) ?_
      exact gx_szret hx hb hr hlocks dX1_in_14 rfl (by unfold pm_in; rw [if_neg c_1, if_pos c_6])
    · refine lv_iconst (v := 1) hx hb dX1_in_9 (by decide) ?_
      refine lv_goto (tgt := 14) hx hb dX1_in_10 (by decide) ?_
      exact gx_szret hx hb hr hlocks dX1_in_14 rfl (by unfold pm_in; rw [if_neg c_1, if_neg c_6])
theorem hd_X1_in : yX1_in.cls ≠ "java/lang/invoke/MethodHandle" ∧ yX1_in.cls ≠ "java/lang/invoke/VarHandle" ∧ (parseMethodDescriptor yX1_in.desc).map (fun d => d.parameters.length) = some 2 := by decide +kernel
def pm_modulo (p0 p1 : Int32) : Int32 :=
  ((p0 - p0 / p1 * p1) + p1) - ((p0 - p0 / p1 * p1) + p1) / p1 * p1
set_option maxHeartbeats 4000000 in
set_option maxRecDepth 100000 in
theorem km_modulo (l : Launch) (p0 p1 : Int32) (hz : ¬ p1 = 0) : gx_Ms l yX1_modulo wsX1_modulo { frames := 0, cells := 0, slots := 0, locals := 0 } [.int p0, .int p1] (pm_modulo p0 p1) := by
  refine gx_metS (cc := cX1_modulo) (maxL := 2) (ret := (some .int)) (by decide +kernel) rfl (Nat.le_of_ble_eq_true rfl) (fun p e s m args below meth c ls hx hb hr hlocks hts hown hml hl => ?_)
  have hl : lv_has ls 2 [(0, .int p0), (1, .int p1)] := hl
  refine lv_iload_n hx hb dX1_modulo_0 rfl (lv_at hl 0 rfl) ?_
  refine lv_iload_n hx hb dX1_modulo_1 rfl (lv_at hl 1 rfl) ?_
  refine lv_irem hx hb dX1_modulo_2 hz ?_
  refine lv_iload_n hx hb dX1_modulo_3 rfl (lv_at hl 1 rfl) ?_
  refine lv_iadd hx hb dX1_modulo_4 ?_
  refine lv_iload_n hx hb dX1_modulo_5 rfl (lv_at hl 1 rfl) ?_
  refine lv_irem hx hb dX1_modulo_6 hz ?_
  exact gx_sret hx hb hr hlocks dX1_modulo_7 (by unfold pm_modulo; rfl)
theorem hd_X1_modulo : yX1_modulo.cls ≠ "java/lang/invoke/MethodHandle" ∧ yX1_modulo.cls ≠ "java/lang/invoke/VarHandle" ∧ (parseMethodDescriptor yX1_modulo.desc).map (fun d => d.parameters.length) = some 2 := by decide +kernel
end
section
/-! remainders: floorMod and modulo are one number, in its range -/
theorem xo_sign {a m : Int32} (hm : 0 ≤ m.toInt) : 0 ≤ a ^^^ m ↔ 0 ≤ a.toInt := by
  rw [Int32.le_iff_toInt_le, Int32.toInt_zero]
  have e1 : (a ^^^ m).toInt = (a.toBitVec ^^^ m.toBitVec).toInt := by rw [← Int32.toBitVec_xor]; rfl
  have e2 : a.toInt = a.toBitVec.toInt := rfl
  have e3 : m.toInt = m.toBitVec.toInt := rfl
  have h1 : (a.toBitVec ^^^ m.toBitVec).msb = (a.toBitVec.msb ^^ m.toBitVec.msb) := BitVec.msb_xor
  rw [BitVec.msb_eq_toInt, BitVec.msb_eq_toInt, BitVec.msb_eq_toInt] at h1
  rw [e1, e2]
  rw [e3] at hm
  rw [show decide (m.toBitVec.toInt < 0) = false from decide_eq_false (by omega), Bool.xor_false] at h1
  have h2 := decide_eq_decide.mp h1
  omega
theorem fm_toInt {a m : Int32} (hm : 0 < m.toInt) : (pj_floorMod_7cf53 a m).toInt = a.toInt % m.toInt := by
  have hr := rem_toInt a m
  have hb := tmod_bounds (a := a.toInt) hm
  have ha1 := Int32.toInt_lt a
  have ha2 := Int32.le_toInt a
  have hm1 := Int32.toInt_lt m
  unfold pj_floorMod_7cf53
  have hx := xo_sign (a := a) (m := m) (by omega)
  generalize hre : a - a / m * m = r at hr ⊢
  by_cases h : 0 ≤ a ^^^ m
  · rw [if_pos h, hr]
    exact Int.tmod_eq_emod_of_nonneg (hx.mp h)
  · rw [if_neg h]
    have hneg : ¬ 0 ≤ a.toInt := fun z => h (hx.mpr z)
    have hte : a.toInt.tmod m.toInt = -((-a.toInt) % m.toInt) := by
      have e : a.toInt.tmod m.toInt = -((-a.toInt).tmod m.toInt) := by
        first | (rw [Int.neg_tmod, Int.neg_neg]) | simp [Int.neg_tmod]
      rw [e, Int.tmod_eq_emod_of_nonneg (by omega)]
    have g1 := Int.emod_nonneg (-a.toInt) (by omega : m.toInt ≠ 0)
    have g2 := Int.emod_lt_of_pos (-a.toInt) hm
    have g3 := Int.mul_ediv_add_emod (-a.toInt) m.toInt
    by_cases h0 : r = 0
    · rw [if_pos h0, h0, Int32.toInt_zero]
      rw [h0, Int32.toInt_zero] at hr
      have : (-a.toInt) % m.toInt = 0 := by omega
      have hd : m.toInt ∣ -a.toInt := Int.dvd_of_emod_eq_zero this
      have hd2 : m.toInt ∣ a.toInt := by simpa using hd
      exact (Int.emod_eq_zero_of_dvd hd2).symm
    · rw [if_neg h0]
      have hr0 : r.toInt ≠ 0 := fun z => h0 (Int32.toInt_inj.mp (by rw [z, Int32.toInt_zero]))
      rw [Jvm.Kit.i32_add (by omega) (by omega)]
      have e1 : a.toInt = (r.toInt + m.toInt) + m.toInt * (-((-a.toInt) / m.toInt) - 1) := by
        rw [hr, hte]
        have := Int.mul_sub m.toInt (-((-a.toInt) / m.toInt)) 1
        rw [this, Int.mul_neg, Int.mul_one]
        omega
      have e2 : a.toInt % m.toInt = (r.toInt + m.toInt) % m.toInt := by
        conv => lhs; rw [e1]
        exact Int.add_mul_emod_self_left _ _ _
      rw [e2, Int.emod_eq_of_lt (by omega) (by omega)]
theorem mo_toInt {a m : Int32} (hm : 0 < m.toInt) (h2 : m.toInt < 1000) : (pm_modulo a m).toInt = a.toInt % m.toInt := by
  have hb := tmod_bounds (a := a.toInt) hm
  have hr := rem_toInt a m
  unfold pm_modulo
  rw [rem_toInt, Jvm.Kit.i32_add (by omega) (by omega), hr, Int.tmod_eq_emod_of_nonneg (by omega), Int.add_emod_right]
  have e1 : a.toInt = a.toInt.tmod m.toInt + m.toInt * (a.toInt.tdiv m.toInt) := by
    have := Int.mul_tdiv_add_tmod a.toInt m.toInt
    omega
  conv => rhs; rw [e1]
  rw [Int.add_mul_emod_self_left]
theorem fm_mo {a m : Int32} (hm : 0 < m.toInt) (h2 : m.toInt < 1000) : pj_floorMod_7cf53 a m = pm_modulo a m := Int32.toInt_inj.mp (by rw [fm_toInt hm, mo_toInt hm h2])
theorem fm_in {a m : Int32} {n : Nat} (hm : m.toInt = n) (hn : 0 < n) : vp_in (pj_floorMod_7cf53 a m) n := by
  have h1 := Int.emod_nonneg a.toInt (by omega : m.toInt ≠ 0)
  have h2 := Int.emod_lt_of_pos a.toInt (by omega : 0 < m.toInt)
  exact vp_in_iff.mpr (by rw [fm_toInt (by omega)]; omega)
theorem mo_in {a m : Int32} {n : Nat} (hm : m.toInt = n) (hn : 0 < n) (h2 : n < 1000) : vp_in (pm_modulo a m) n := by
  have h1 := Int.emod_nonneg a.toInt (by omega : m.toInt ≠ 0)
  have h3 := Int.emod_lt_of_pos a.toInt (by omega : 0 < m.toInt)
  exact vp_in_iff.mpr (by rw [mo_toInt (by omega) (by omega)]; omega)
theorem fm_in5 (a : Int32) : vp_in (pj_floorMod_7cf53 a 5) 5 := fm_in (by decide) (by decide)
theorem fm_in4 (a : Int32) : vp_in (pj_floorMod_7cf53 a 4) 4 := fm_in (by decide) (by decide)
theorem mo_in5 (a : Int32) : vp_in (pm_modulo a 5) 5 := mo_in (by decide) (by decide) (by decide)
theorem mo_in4 (a : Int32) : vp_in (pm_modulo a 4) 4 := mo_in (by decide) (by decide) (by decide)
theorem re_in {x : Int32} (h : 0 ≤ x.toInt) : vp_in (x - x / 5 * 5) 5 := by
  refine vp_in_iff.mpr ?_
  rw [rem_toInt, show (5 : Int32).toInt = 5 by decide, Int.tmod_eq_emod_of_nonneg h]
  omega
theorem ng_toInt {x : Int32} (h : ¬ x = -2147483648) : (-x).toInt = -x.toInt := by
  have h1 := lv_neT h (a := -2147483648) (by decide)
  have h2 := Int32.le_toInt x
  have h3 := Int32.toInt_lt x
  rw [Int32.toInt_neg]
  exact Int.bmod_eq_of_le_mul_two (by omega) (by omega)
theorem wt_abs {x : Int32} (h : ¬ x = -2147483648) : 0 ≤ (if 0 ≤ x then x else 0 - x).toInt := by
  by_cases h0 : 0 ≤ x
  · rw [if_pos h0]
    rw [Int32.le_iff_toInt_le, Int32.toInt_zero] at h0
    exact h0
  · rw [if_neg h0, Int32.zero_sub, ng_toInt h]
    rw [Int32.le_iff_toInt_le, Int32.toInt_zero] at h0
    omega
theorem wt_in {x : Int32} (h : ¬ x = -2147483648) : vp_in ((if 0 ≤ x then x else 0 - x) - (if 0 ≤ x then x else 0 - x) / 5 * 5) 5 := re_in (wt_abs h)
theorem wt_p {x : Int32} (h : 0 ≤ x) : vp_in (x - x / 5 * 5) 5 := re_in (by rw [Int32.le_iff_toInt_le, Int32.toInt_zero] at h; exact h)
theorem wt_n {x : Int32} (h : ¬ x = -2147483648) (h0 : ¬ 0 ≤ x) : vp_in (-x - -x / 5 * 5) 5 := re_in (by
  rw [Int32.le_iff_toInt_le, Int32.toInt_zero] at h0
  rw [ng_toInt h]
  omega)
theorem nz_flag {x : Int32} (h : x = 0 ∨ x = 1) : narrow .boolean (.int x) = .int x := by rcases h with rfl | rfl <;> rfl
end
section
/-! the class: a pure function and a contract for each method -/
def pd_lh (u : st_T) (p0 : Int32) : Nat → Int32 → Int32
  | 0, _ => p0
  | n + 1, i => if p0 ≤ i then p0 else if u.2 0 (ix i) = u.2 0 (ix p0) then i else pd_lh u p0 n (i + 1)
def pd_leastHandle (u : st_T) (p0 : Int32) : Int32 := pd_lh u p0 6 0
theorem lh_toInt1 {i : Int32} (h : i.toInt < 1000) (h0 : 0 ≤ i.toInt) : (i + 1).toInt = i.toInt + 1 := by rw [Jvm.Kit.i32_add (by simp; omega) (by simp; omega)]; simp
theorem lh_in {u : st_T} {p0 : Int32} (hp : vp_in p0 5) : ∀ (n : Nat) (i : Int32), 0 ≤ i.toInt → vp_in (pd_lh u p0 n i) 5 := by
  intro n
  induction n with
  | zero => intro i _; exact hp
  | succ n ih =>
    intro i hi
    unfold pd_lh
    by_cases h1 : p0 ≤ i
    · rw [if_pos h1]; exact hp
    · rw [if_neg h1]
      have hp2 := vp_in_iff.mp hp
      rw [Int32.le_iff_toInt_le] at h1
      by_cases h2 : u.2 0 (ix i) = u.2 0 (ix p0)
      · rw [if_pos h2]; exact vp_in_iff.mpr ⟨hi, by omega⟩
      · rw [if_neg h2]; exact ih _ (by rw [lh_toInt1 (by omega) hi]; omega)
theorem least_in {u : st_T} {p0 : Int32} (hp : vp_in p0 5) : vp_in (pd_leastHandle u p0) 5 := lh_in hp 6 0 (by simp)
set_option maxHeartbeats 4000000 in
set_option maxRecDepth 100000 in
theorem kd_leastHandle (l : Launch) (dC : Nat → ClassId) (dI : Nat → Nat → Nat) (cI cZ : ClassId) (h : Nat) (q : Nat → Nat) (sz : Nat) (u : st_T) (p0 : Int32) (hp0 : vp_in p0 5) : gx_Mi l yX0_leastHandle wsX0_leastHandle { frames := 0, cells := 0, slots := 0, locals := 0 } [.ref h, .int p0] (dC, dI) cI cZ (gw0_ cI cZ h q) u sz (pd_leastHandle u p0, u) := by
  refine gx_met (cc := cX0_leastHandle) (maxL := 3) (ret := (some .int)) (by decide +kernel) rfl (Nat.le_of_ble_eq_true rfl) (fun p e s m args below meth c A ls hsz hx hb hr hlocks hts hown hml hK hAe hA G hl => ?_)
  have hown : s.vm.findClass RX0 = some m.cls := hown
  have hin : ∀ w ∈ wsX00, w ∈ wsX0_leastHandle := gx_in
  have hl : lv_has ls 3 [(0, .ref h), (1, .int p0)] := hl
  have hp2 := vp_in_iff.mp hp0
  have loop : ∀ (n : Nat) (i : Int32), 0 ≤ i.toInt → i.toInt ≤ p0.toInt → p0.toInt - i.toInt < n → pd_leastHandle u p0 = pd_lh u p0 n i → ∀ (H : Heap) (locs : List Loc) (ls : Array Slot), gx_ (dC, dI) A s.heap H locs (gw0_ cI cZ h q u) → lv_has ls 3 [(2, .int i), (0, .ref h), (1, .int p0)] → W p l e { frames := 0, cells := 0, slots := 0, locals := 0 } s m args below meth c H locs 0 0 (MQ below (va_Qi (fun r u1 => r = (pd_leastHandle u p0, u).1 ∧ u1 = (pd_leastHandle u p0, u).2) (gx_O (dC, dI) cI cZ (gw0_ cI cZ h q) (gw0_ cI cZ h q u) sz) (va_A (gw0_ cI cZ h q u) sz)) args s 0 0 (va_A (gw0_ cI cZ h q u) sz)) (F0 m 2 ls []) := by
    intro n
    induction n with
    | zero => intro i h1 h2 h3; exact absurd h3 (by omega)
    | succ n ih =>
      intro i hi0 hip hin2 hf H locs ls G hl
      unfold pd_lh at hf
      refine lv_iload_n hx hb dX0_leastHandle_2 rfl (lv_at hl 0 rfl) ?_
      refine lv_iload_n hx hb dX0_leastHandle_3 rfl (lv_at hl 2 rfl) ?_
      refine lv_icmp_ge (tgt := 30) hx hb dX0_leastHandle_4 (by decide) (fun c_4 => ?_) (fun c_4 => ?_)
      · refine lv_iload_n hx hb dX0_leastHandle_30 rfl (lv_at hl 2 rfl) ?_
        exact gx_iret (wf := gw0_ cI cZ h q) (u1 := u) hx hb hr hlocks hsz hK hAe G dX0_leastHandle_31 (congrArg (fun z => (z, u)) (by rw [hf, if_pos c_4]))
      · refine lv_aload_n hx hb dX0_leastHandle_7 rfl (lv_at hl 1 rfl) ?_
        refine gg0_get (v := .ref (q 0)) hx hb hts hin hown hK G 0 (by decide) (index := 9) (by decide +kernel) rfl dX0_leastHandle_8 ?_
        refine lv_iload_n hx hb dX0_leastHandle_11 rfl (lv_at hl 0 rfl) ?_
        refine gg0_ld0 hx hb hK G (i := i) (vp_in_iff.mpr (by have q4 := c_4; rw [Int32.le_iff_toInt_le] at q4; omega)) dX0_leastHandle_12 ?_
        refine lv_aload_n hx hb dX0_leastHandle_13 rfl (lv_at hl 1 rfl) ?_
        refine gg0_get (v := .ref (q 0)) hx hb hts hin hown hK G 0 (by decide) (index := 9) (by decide +kernel) rfl dX0_leastHandle_14 ?_
        refine lv_iload_n hx hb dX0_leastHandle_17 rfl (lv_at hl 2 rfl) ?_
        refine gg0_ld0 hx hb hK G (i := p0) hp0 dX0_leastHandle_18 ?_
        refine lv_icmp_ne (tgt := 24) hx hb dX0_leastHandle_19 (by decide) (fun c_19 => ?_) (fun c_19 => ?_)
        · refine lv_iinc (v := i + 1) (lv' := [(2, .int (i + 1)), (0, .ref h), (1, .int p0)]) hx hb dX0_leastHandle_24 hl (k := 0) rfl (congrArg (fun z => i + z) (by decide)) (by decide) rfl (fun ls hl => ?_)
          refine lv_goto (tgt := 2) hx hb dX0_leastHandle_27 (by decide) ?_
          rw [if_neg c_4, if_neg c_19] at hf
          have q4 := c_4
          rw [Int32.le_iff_toInt_le] at q4
          have q5 := lh_toInt1 (i := i) (by omega) hi0
          exact ih (i + 1) (by omega) (by omega) (by omega) hf H locs ls G (lv_sub hl [0, 1, 2] rfl)
        · refine lv_iload_n hx hb dX0_leastHandle_22 rfl (lv_at hl 0 rfl) ?_
          exact gx_iret (wf := gw0_ cI cZ h q) (u1 := u) hx hb hr hlocks hsz hK hAe G dX0_leastHandle_23 (congrArg (fun z => (z, u)) (by rw [hf, if_neg c_4, if_pos c_19]))
  refine lv_iconst (v := 0) hx hb dX0_leastHandle_0 (by decide) ?_
  refine lv_istore_n (lv' := [(2, .int 0), (0, .ref h), (1, .int p0)]) hx hb dX0_leastHandle_1 rfl hl (by decide) rfl (fun ls hl => ?_)
  exact loop 6 0 (by simp) (by simp; omega) (by simp; omega) rfl _ _ ls G hl
theorem hd_X0_leastHandle : yX0_leastHandle.cls = RX0 ∧ yX0_leastHandle.cls ≠ "java/lang/invoke/MethodHandle" ∧ yX0_leastHandle.cls ≠ "java/lang/invoke/VarHandle" ∧ (parseMethodDescriptor yX0_leastHandle.desc).map (fun d => d.parameters.length) = some 1 := by decide +kernel
def pd_ce (u : st_T) : Nat → Int32 → Int32 → Int32
  | 0, c, _ => c
  | n + 1, c, i => if 4 ≤ i then c else pd_ce u n (c + pd_asNumber (u.2 2 (ix i))) (i + 1)
def pd_countEnded (u : st_T) : Int32 := pd_ce u 5 0 0
set_option maxHeartbeats 4000000 in
set_option maxRecDepth 100000 in
theorem kd_countEnded (l : Launch) (dC : Nat → ClassId) (dI : Nat → Nat → Nat) (cI cZ : ClassId) (h : Nat) (q : Nat → Nat) (sz : Nat) (u : st_T) : gx_Mi l yX0_countEnded wsX0_countEnded { frames := 1, cells := 0, slots := 0, locals := 20 } [.ref h] (dC, dI) cI cZ (gw0_ cI cZ h q) u sz (pd_countEnded u, u) := by
  refine gx_met (cc := cX0_countEnded) (maxL := 3) (ret := (some .int)) (by decide +kernel) rfl (Nat.le_of_ble_eq_true rfl) (fun p e s m args below meth c A ls hsz hx hb hr hlocks hts hown hml hK hAe hA G hl => ?_)
  have hown : s.vm.findClass RX0 = some m.cls := hown
  have hin : ∀ w ∈ wsX00, w ∈ wsX0_countEnded := gx_in
  have hl : lv_has ls 3 [(0, .ref h)] := hl
  have loop : ∀ (n : Nat) (cn i : Int32), 0 ≤ i.toInt → i.toInt ≤ 4 → 4 - i.toInt < n → pd_countEnded u = pd_ce u n cn i → ∀ (H : Heap) (locs : List Loc) (ls : Array Slot), gx_ (dC, dI) A s.heap H locs (gw0_ cI cZ h q u) → lv_has ls 3 [(2, .int i), (1, .int cn), (0, .ref h)] → W p l e { frames := 1, cells := 0, slots := 0, locals := 20 } s m args below meth c H locs 0 0 (MQ below (va_Qi (fun r u1 => r = (pd_countEnded u, u).1 ∧ u1 = (pd_countEnded u, u).2) (gx_O (dC, dI) cI cZ (gw0_ cI cZ h q) (gw0_ cI cZ h q u) sz) (va_A (gw0_ cI cZ h q u) sz)) args s 0 0 (va_A (gw0_ cI cZ h q u) sz)) (F0 m 4 ls []) := by
    intro n
    induction n with
    | zero => intro cn i h1 h2 h3; exact absurd h3 (by omega)
    | succ n ih =>
      intro cn i hi0 hip hin2 hf H locs ls G hl
      unfold pd_ce at hf
      refine lv_iload_n hx hb dX0_countEnded_4 rfl (lv_at hl 0 rfl) ?_
      refine lv_iconst (v := 4) hx hb dX0_countEnded_5 (by decide) ?_
      refine lv_icmp_ge (tgt := 27) hx hb dX0_countEnded_6 (by decide) (fun c_6 => ?_) (fun c_6 => ?_)
      · refine lv_iload_n hx hb dX0_countEnded_27 rfl (lv_at hl 1 rfl) ?_
        exact gx_iret (wf := gw0_ cI cZ h q) (u1 := u) hx hb hr hlocks hsz hK hAe G dX0_countEnded_28 (congrArg (fun z => (z, u)) (by rw [hf, if_pos c_6]))
      · refine lv_iload_n hx hb dX0_countEnded_9 rfl (lv_at hl 1 rfl) ?_
        refine lv_aload_n hx hb dX0_countEnded_10 rfl (lv_at hl 2 rfl) ?_
        refine gg0_get (v := .ref (q 2)) hx hb hts hin hown hK G 2 (by decide) (index := 17) (by decide +kernel) rfl dX0_countEnded_11 ?_
        refine lv_iload_n hx hb dX0_countEnded_14 rfl (lv_at hl 0 rfl) ?_
        refine gg0_ld2 hx hb hK G (i := i) (in_1 (M := 4) (by decide) (by rw [Int32.lt_iff_toInt_lt, Int32.toInt_zero]; omega) c_6) dX0_countEnded_15 ?_
        refine gx_calls (f := pd_asNumber (u.2 2 (ix i))) (As := [.int (u.2 2 (ix i))]) (rest := [.int cn]) 1 hx hb hml hown hts (kd_asNumber l (u.2 2 (ix i)) ) gX0_countEnded_X0_asNumber rfl rfl rfl hd_X0_asNumber ⟨Nat.le_of_ble_eq_true rfl, Nat.le_of_ble_eq_true rfl⟩ rfl hl.1 rfl (Nat.le_of_ble_eq_true rfl) dX0_countEnded_16 (Nat.zero_le _) (Nat.zero_le _) ?_
        refine lv_iadd hx hb dX0_countEnded_19 ?_
        refine lv_istore_n (lv' := [(1, .int (cn + (pd_asNumber (u.2 2 (ix i))))), (2, .int i), (0, .ref h)]) hx hb dX0_countEnded_20 rfl hl (by decide) rfl (fun ls hl => ?_)
        refine lv_iinc (v := i + 1) (lv' := [(2, .int (i + 1)), (1, .int (cn + (pd_asNumber (u.2 2 (ix i))))), (0, .ref h)]) hx hb dX0_countEnded_21 hl (k := 1) rfl (congrArg (fun z => i + z) (by decide)) (by decide) rfl (fun ls hl => ?_)
        refine lv_goto (tgt := 4) hx hb dX0_countEnded_24 (by decide) ?_
        rw [if_neg c_6] at hf
        have q4 := c_6
        rw [Int32.le_iff_toInt_le, show (4 : Int32).toInt = 4 by decide] at q4
        have q5 := lh_toInt1 (i := i) (by omega) hi0
        exact ih _ (i + 1) (by omega) (by omega) (by omega) hf H locs ls G (lv_sub hl [0, 1, 2] rfl)
  refine lv_iconst (v := 0) hx hb dX0_countEnded_0 (by decide) ?_
  refine lv_istore_n (lv' := [(1, .int 0), (0, .ref h)]) hx hb dX0_countEnded_1 rfl hl (by decide) rfl (fun ls hl => ?_)
  refine lv_iconst (v := 0) hx hb dX0_countEnded_2 (by decide) ?_
  refine lv_istore_n (lv' := [(2, .int 0), (1, .int 0), (0, .ref h)]) hx hb dX0_countEnded_3 rfl hl (by decide) rfl (fun ls hl => ?_)
  exact loop 5 0 0 (by simp) (by simp) (by simp) rfl _ _ ls G hl
theorem hd_X0_countEnded : yX0_countEnded.cls = RX0 ∧ yX0_countEnded.cls ≠ "java/lang/invoke/MethodHandle" ∧ yX0_countEnded.cls ≠ "java/lang/invoke/VarHandle" ∧ (parseMethodDescriptor yX0_countEnded.desc).map (fun d => d.parameters.length) = some 0 := by decide +kernel
def pd_hold (u : st_T) (p0 p1 : Int32) : Int32 × st_T :=
  if p0 < 0 then
    ((-1), u)
  else
    if 5 ≤ p0 then
      ((-1), u)
    else
      if p1 < (-2) then
        ((-1), u)
      else
        if p1 < 5 then
          if p1 = (-2) then
            (0, st_sa (st_si u 1 ((u.1 1) + 1)) 0 (ix p0) ((u.1 1) + 1))
          else
            if p1 = (-1) then
              (0, st_sa u 0 (ix p0) 0)
            else
              (0, st_sa u 0 (ix p0) (u.2 0 (ix p1)))
        else
          ((-1), u)
set_option maxHeartbeats 4000000 in
set_option maxRecDepth 100000 in
theorem kd_hold (l : Launch) (dC : Nat → ClassId) (dI : Nat → Nat → Nat) (cI cZ : ClassId) (h : Nat) (q : Nat → Nat) (sz : Nat) (u : st_T) (p0 p1 : Int32) : gx_Mi l yX0_hold wsX0_hold { frames := 0, cells := 0, slots := 0, locals := 0 } [.ref h, .int p0, .int p1] (dC, dI) cI cZ (gw0_ cI cZ h q) u sz (pd_hold u p0 p1) := by
  refine gx_met (cc := cX0_hold) (maxL := 3) (ret := (some .int)) (by decide +kernel) rfl (Nat.le_of_ble_eq_true rfl) (fun p e s m args below meth c A ls hsz hx hb hr hlocks hts hown hml hK hAe hA G hl => ?_)
  have hown : s.vm.findClass RX0 = some m.cls := hown
  have hin : ∀ w ∈ wsX00, w ∈ wsX0_hold := gx_in
  have hl : lv_has ls 3 [(0, .ref h), (1, .int p0), (2, .int p1)] := hl
  refine lv_iload_n hx hb dX0_hold_0 rfl (lv_at hl 1 rfl) ?_
  refine lv_if_lt (tgt := 20) hx hb dX0_hold_1 (by decide) (fun c_1 => ?_) (fun c_1 => ?_)
  · refine lv_iconst (v := (-1)) hx hb dX0_hold_20 (by decide) ?_
    exact gx_iret (wf := gw0_ cI cZ h q) (u1 := u) hx hb hr hlocks hsz hK hAe G dX0_hold_21 (by unfold pd_hold; rw [if_pos c_1])
  · refine lv_iload_n hx hb dX0_hold_4 rfl (lv_at hl 1 rfl) ?_
    refine lv_iconst (v := 5) hx hb dX0_hold_5 (by decide) ?_
    refine lv_icmp_ge (tgt := 20) hx hb dX0_hold_6 (by decide) (fun c_6 => ?_) (fun c_6 => ?_)
    · refine lv_iconst (v := (-1)) hx hb dX0_hold_20 (by decide) ?_
      exact gx_iret (wf := gw0_ cI cZ h q) (u1 := u) hx hb hr hlocks hsz hK hAe G dX0_hold_21 (by unfold pd_hold; rw [if_neg c_1, if_pos c_6])
    · refine lv_iload_n hx hb dX0_hold_9 rfl (lv_at hl 2 rfl) ?_
      refine lv_bipush (v := (-2)) hx hb dX0_hold_10 (by decide) ?_
      refine lv_icmp_lt (tgt := 20) hx hb dX0_hold_12 (by decide) (fun c_12 => ?_) (fun c_12 => ?_)
      · refine lv_iconst (v := (-1)) hx hb dX0_hold_20 (by decide) ?_
        exact gx_iret (wf := gw0_ cI cZ h q) (u1 := u) hx hb hr hlocks hsz hK hAe G dX0_hold_21 (by unfold pd_hold; rw [if_neg c_1, if_neg c_6, if_pos c_12])
      · refine lv_iload_n hx hb dX0_hold_15 rfl (lv_at hl 2 rfl) ?_
        refine lv_iconst (v := 5) hx hb dX0_hold_16 (by decide) ?_
        refine lv_icmp_lt (tgt := 22) hx hb dX0_hold_17 (by decide) (fun c_17 => ?_) (fun c_17 => ?_)
        · refine lv_iload_n hx hb dX0_hold_22 rfl (lv_at hl 2 rfl) ?_
          refine lv_bipush (v := (-2)) hx hb dX0_hold_23 (by decide) ?_
          refine lv_icmp_ne (tgt := 51) hx hb dX0_hold_25 (by decide) (fun c_25 => ?_) (fun c_25 => ?_)
          · refine lv_iload_n hx hb dX0_hold_51 rfl (lv_at hl 2 rfl) ?_
            refine lv_iconst (v := (-1)) hx hb dX0_hold_52 (by decide) ?_
            refine lv_icmp_ne (tgt := 66) hx hb dX0_hold_53 (by decide) (fun c_53 => ?_) (fun c_53 => ?_)
            · refine lv_aload_n hx hb dX0_hold_66 rfl (lv_at hl 0 rfl) ?_
              refine gg0_get (v := .ref (q 0)) hx hb hts hin hown hK G 0 (by decide) (index := 9) (by decide +kernel) rfl dX0_hold_67 ?_
              refine lv_iload_n hx hb dX0_hold_70 rfl (lv_at hl 1 rfl) ?_
              refine lv_aload_n hx hb dX0_hold_71 rfl (lv_at hl 0 rfl) ?_
              refine gg0_get (v := .ref (q 0)) hx hb hts hin hown hK G 0 (by decide) (index := 9) (by decide +kernel) rfl dX0_hold_72 ?_
              refine lv_iload_n hx hb dX0_hold_75 rfl (lv_at hl 2 rfl) ?_
              refine gg0_ld0 hx hb hK G (i := p1) (in_3 c_12 c_17 c_25 c_53) dX0_hold_76 ?_
              refine gg0_st0 hx hb hK G (i := p0) (x := u.2 0 (ix p1)) (in_1 (M := 5) (by decide) c_1 c_6) dX0_hold_77 (fun H locs G => ?_)
              refine lv_iconst (v := 0) hx hb dX0_hold_78 (by decide) ?_
              exact gx_iret (wf := gw0_ cI cZ h q) (u1 := st_sa u 0 (ix p0) (u.2 0 (ix p1))) hx hb hr hlocks hsz hK hAe G dX0_hold_79 (by unfold pd_hold; rw [if_neg c_1, if_neg c_6, if_neg c_12, if_pos c_17, if_neg c_25, if_neg c_53])
            · refine lv_aload_n hx hb dX0_hold_56 rfl (lv_at hl 0 rfl) ?_
              refine gg0_get (v := .ref (q 0)) hx hb hts hin hown hK G 0 (by decide) (index := 9) (by decide +kernel) rfl dX0_hold_57 ?_
              refine lv_iload_n hx hb dX0_hold_60 rfl (lv_at hl 1 rfl) ?_
              refine lv_iconst (v := 0) hx hb dX0_hold_61 (by decide) ?_
              refine gg0_st0 hx hb hK G (i := p0) (x := 0) (in_1 (M := 5) (by decide) c_1 c_6) dX0_hold_62 (fun H locs G => ?_)
              refine lv_goto (tgt := 78) hx hb dX0_hold_63 (by decide) ?_
              refine lv_iconst (v := 0) hx hb dX0_hold_78 (by decide) ?_
              exact gx_iret (wf := gw0_ cI cZ h q) (u1 := st_sa u 0 (ix p0) 0) hx hb hr hlocks hsz hK hAe G dX0_hold_79 (by unfold pd_hold; rw [if_neg c_1, if_neg c_6, if_neg c_12, if_pos c_17, if_neg c_25, if_pos c_53])
          · refine lv_aload_n hx hb dX0_hold_28 rfl (lv_at hl 0 rfl) ?_
            refine lv_dup hx hb dX0_hold_29 rfl ?_
            refine gg0_get (v := .int (u.1 1)) hx hb hts hin hown hK G 1 (by decide) (index := 13) (by decide +kernel) rfl dX0_hold_30 ?_
            refine lv_iconst (v := 1) hx hb dX0_hold_33 (by decide) ?_
            refine lv_iadd hx hb dX0_hold_34 ?_
            refine gg0_put1 (v := (u.1 1) + 1) hx hb hts hin hown hK G (index := 13) (by decide +kernel) dX0_hold_35 (fun H locs G => ?_)
            refine lv_aload_n hx hb dX0_hold_38 rfl (lv_at hl 0 rfl) ?_
            refine gg0_get (v := .ref (q 0)) hx hb hts hin hown hK G 0 (by decide) (index := 9) (by decide +kernel) rfl dX0_hold_39 ?_
            refine lv_iload_n hx hb dX0_hold_42 rfl (lv_at hl 1 rfl) ?_
            refine lv_aload_n hx hb dX0_hold_43 rfl (lv_at hl 0 rfl) ?_
            refine gg0_get (v := .int ((u.1 1) + 1)) hx hb hts hin hown hK G 1 (by decide) (index := 13) (by decide +kernel) rfl dX0_hold_44 ?_
            refine gg0_st0 hx hb hK G (i := p0) (x := (u.1 1) + 1) (in_1 (M := 5) (by decide) c_1 c_6) dX0_hold_47 (fun H locs G => ?_)
            refine lv_goto (tgt := 78) hx hb dX0_hold_48 (by decide) ?_
            refine lv_iconst (v := 0) hx hb dX0_hold_78 (by decide) ?_
            exact gx_iret (wf := gw0_ cI cZ h q) (u1 := st_sa (st_si u 1 ((u.1 1) + 1)) 0 (ix p0) ((u.1 1) + 1)) hx hb hr hlocks hsz hK hAe G dX0_hold_79 (by unfold pd_hold; rw [if_neg c_1, if_neg c_6, if_neg c_12, if_pos c_17, if_pos c_25])
        · refine lv_iconst (v := (-1)) hx hb dX0_hold_20 (by decide) ?_
          exact gx_iret (wf := gw0_ cI cZ h q) (u1 := u) hx hb hr hlocks hsz hK hAe G dX0_hold_21 (by unfold pd_hold; rw [if_neg c_1, if_neg c_6, if_neg c_12, if_neg c_17])
theorem hd_X0_hold : yX0_hold.cls = RX0 ∧ yX0_hold.cls ≠ "java/lang/invoke/MethodHandle" ∧ yX0_hold.cls ≠ "java/lang/invoke/VarHandle" ∧ (parseMethodDescriptor yX0_hold.desc).map (fun d => d.parameters.length) = some 2 := by decide +kernel
def pd_step_86 (u : st_T) (p0 p1 : Int32) : Int32 × st_T :=
  if pd_opensBlock p0 = 0 then
    if p0 = 0 then
      ((u.1 9) + 1, st_si (st_si (st_si (st_sa (st_sa (st_sa (st_sa u 5 (ix (u.1 9)) p0) 6 (ix (u.1 9)) p1) 7 (ix (u.1 9)) (u.1 11)) 8 (ix (u.1 11)) (u.1 9)) 11 ((st_sa (st_sa (st_sa u 5 (ix (u.1 9)) p0) 6 (ix (u.1 9)) p1) 7 (ix (u.1 9)) (u.1 11)).2 7 (ix (u.1 11)))) 10 ((u.1 10) - 1)) 9 ((u.1 9) + 1))
    else
      ((u.1 9) + 1, st_si (st_sa (st_sa (st_sa u 5 (ix (u.1 9)) p0) 6 (ix (u.1 9)) p1) 7 (ix (u.1 9)) (u.1 11)) 9 ((u.1 9) + 1))
  else
    ((u.1 9) + 1, st_si (st_si (st_si (st_sa (st_sa (st_sa u 5 (ix (u.1 9)) p0) 6 (ix (u.1 9)) p1) 7 (ix (u.1 9)) (u.1 11)) 11 (u.1 9)) 10 ((u.1 10) + 1)) 9 ((u.1 9) + 1))
def pd_step (u : st_T) (p0 p1 : Int32) : Int32 × st_T :=
  if p0 < 0 then
    ((-1), u)
  else
    if 15 < p0 then
      ((-1), u)
    else
      if u.1 9 < 24 then
        if p0 = 0 then
          if u.1 11 = (-1) then
            ((-1), u)
          else
            if pd_opensBlock p0 = 0 then
              pd_step_86 u p0 p1
            else
              if u.1 10 < 8 then
                pd_step_86 u p0 p1
              else
                ((-1), u)
        else
          if pd_opensBlock p0 = 0 then
            pd_step_86 u p0 p1
          else
            if u.1 10 < 8 then
              pd_step_86 u p0 p1
            else
              ((-1), u)
      else
        ((-1), u)
set_option maxHeartbeats 4000000 in
set_option maxRecDepth 100000 in
theorem kd_step (l : Launch) (dC : Nat → ClassId) (dI : Nat → Nat → Nat) (cI cZ : ClassId) (h : Nat) (q : Nat → Nat) (sz : Nat) (u : st_T) (p0 p1 : Int32) (hsc : ¬ u.1 9 < 0) (hlo : u.1 11 = -1 ∨ vp_in (u.1 11) 24) : gx_Mi l yX0_step wsX0_step { frames := 1, cells := 0, slots := 0, locals := 20 } [.ref h, .int p0, .int p1] (dC, dI) cI cZ (gw0_ cI cZ h q) u sz (pd_step u p0 p1) := by
  refine gx_met (cc := cX0_step) (maxL := 3) (ret := (some .int)) (by decide +kernel) rfl (Nat.le_of_ble_eq_true rfl) (fun p e s m args below meth c A ls hsz hx hb hr hlocks hts hown hml hK hAe hA G hl => ?_)
  have hown : s.vm.findClass RX0 = some m.cls := hown
  have hin : ∀ w ∈ wsX00, w ∈ wsX0_step := gx_in
  have hl : lv_has ls 3 [(0, .ref h), (1, .int p0), (2, .int p1)] := hl
  have tail_86 : ∀ (H : Heap) (locs : List Loc) (ls : Array Slot), gx_ (dC, dI) A s.heap H locs (gw0_ cI cZ h q (st_sa (st_sa (st_sa u 5 (ix (u.1 9)) p0) 6 (ix (u.1 9)) p1) 7 (ix (u.1 9)) (u.1 11))) → lv_has ls 3 [(0, .ref h), (1, .int p0), (2, .int p1)] → (p0 = 0 → ¬ u.1 11 = -1) → pd_step u p0 p1 = pd_step_86 u p0 p1 → W p l e { frames := 1, cells := 0, slots := 0, locals := 20 } s m args below meth c H locs 0 0 (MQ below (va_Qi (fun r u1 => r = (pd_step u p0 p1).1 ∧ u1 = (pd_step u p0 p1).2) (gx_O (dC, dI) cI cZ (gw0_ cI cZ h q) (gw0_ cI cZ h q u) sz) (va_A (gw0_ cI cZ h q u) sz)) args s 0 0 (va_A (gw0_ cI cZ h q u) sz)) (F0 m 86 ls []) := by
    intro H locs ls G hl c_30 hf
    refine lv_iload_n hx hb dX0_step_86 rfl (lv_at hl 1 rfl) ?_
    refine gx_calls (f := pd_opensBlock p0) (As := [.int p0]) (rest := []) 1 hx hb hml hown hts (kd_opensBlock l p0 ) gX0_step_X0_opensBlock rfl rfl rfl hd_X0_opensBlock ⟨Nat.le_of_ble_eq_true rfl, Nat.le_of_ble_eq_true rfl⟩ rfl hl.1 rfl (Nat.le_of_ble_eq_true rfl) dX0_step_87 (Nat.zero_le _) (Nat.zero_le _) ?_
    refine lv_if_eq (tgt := 114) hx hb dX0_step_90 (by decide) (fun c_90 => ?_) (fun c_90 => ?_)
    · refine lv_iload_n hx hb dX0_step_114 rfl (lv_at hl 1 rfl) ?_
      refine lv_if_ne (tgt := 154) hx hb dX0_step_115 (by decide) (fun c_115 => ?_) (fun c_115 => ?_)
      · refine lv_aload_n hx hb dX0_step_154 rfl (lv_at hl 0 rfl) ?_
        refine lv_dup hx hb dX0_step_155 rfl ?_
        refine gg0_get (v := .int (u.1 9)) hx hb hts hin hown hK G 9 (by decide) (index := 40) (by decide +kernel) rfl dX0_step_156 ?_
        refine lv_iconst (v := 1) hx hb dX0_step_159 (by decide) ?_
        refine lv_iadd hx hb dX0_step_160 ?_
        refine gg0_put9 (v := (u.1 9) + 1) hx hb hts hin hown hK G (index := 40) (by decide +kernel) dX0_step_161 (fun H locs G => ?_)
        refine lv_aload_n hx hb dX0_step_164 rfl (lv_at hl 0 rfl) ?_
        refine gg0_get (v := .int ((u.1 9) + 1)) hx hb hts hin hown hK G 9 (by decide) (index := 40) (by decide +kernel) rfl dX0_step_165 ?_
        exact gx_iret (wf := gw0_ cI cZ h q) (u1 := st_si (st_sa (st_sa (st_sa u 5 (ix (u.1 9)) p0) 6 (ix (u.1 9)) p1) 7 (ix (u.1 9)) (u.1 11)) 9 ((u.1 9) + 1)) hx hb hr hlocks hsz hK hAe G dX0_step_168 (hf.trans (by unfold pd_step_86; rw [if_pos c_90, if_neg c_115]))
      · refine lv_aload_n hx hb dX0_step_118 rfl (lv_at hl 0 rfl) ?_
        refine gg0_get (v := .ref (q 8)) hx hb hts hin hown hK G 8 (by decide) (index := 37) (by decide +kernel) rfl dX0_step_119 ?_
        refine lv_aload_n hx hb dX0_step_122 rfl (lv_at hl 0 rfl) ?_
        refine gg0_get (v := .int (u.1 11)) hx hb hts hin hown hK G 11 (by decide) (index := 46) (by decide +kernel) rfl dX0_step_123 ?_
        refine lv_aload_n hx hb dX0_step_126 rfl (lv_at hl 0 rfl) ?_
        refine gg0_get (v := .int (u.1 9)) hx hb hts hin hown hK G 9 (by decide) (index := 40) (by decide +kernel) rfl dX0_step_127 ?_
        refine gg0_st8 hx hb hK G (i := u.1 11) (x := u.1 9) (hlo.resolve_left (c_30 c_115)) dX0_step_130 (fun H locs G => ?_)
        refine lv_aload_n hx hb dX0_step_131 rfl (lv_at hl 0 rfl) ?_
        refine lv_aload_n hx hb dX0_step_132 rfl (lv_at hl 0 rfl) ?_
        refine gg0_get (v := .ref (q 7)) hx hb hts hin hown hK G 7 (by decide) (index := 34) (by decide +kernel) rfl dX0_step_133 ?_
        refine lv_aload_n hx hb dX0_step_136 rfl (lv_at hl 0 rfl) ?_
        refine gg0_get (v := .int (u.1 11)) hx hb hts hin hown hK G 11 (by decide) (index := 46) (by decide +kernel) rfl dX0_step_137 ?_
        refine gg0_ld7 hx hb hK G (i := u.1 11) (hlo.resolve_left (c_30 c_115)) dX0_step_140 ?_
        refine gx_is (y := (st_sa (st_sa (st_sa u 5 (ix (u.1 9)) p0) 6 (ix (u.1 9)) p1) 7 (ix (u.1 9)) (u.1 11)).2 7 (ix (u.1 11))) (congrFun (st_sa_2 _ _ _ (by decide)) _) ?_
        refine gg0_put11 (v := (st_sa (st_sa (st_sa u 5 (ix (u.1 9)) p0) 6 (ix (u.1 9)) p1) 7 (ix (u.1 9)) (u.1 11)).2 7 (ix (u.1 11))) hx hb hts hin hown hK G (index := 46) (by decide +kernel) dX0_step_141 (fun H locs G => ?_)
        refine lv_aload_n hx hb dX0_step_144 rfl (lv_at hl 0 rfl) ?_
        refine lv_dup hx hb dX0_step_145 rfl ?_
        refine gg0_get (v := .int (u.1 10)) hx hb hts hin hown hK G 10 (by decide) (index := 43) (by decide +kernel) rfl dX0_step_146 ?_
        refine lv_iconst (v := 1) hx hb dX0_step_149 (by decide) ?_
        refine lv_isub hx hb dX0_step_150 ?_
        refine gg0_put10 (v := (u.1 10) - 1) hx hb hts hin hown hK G (index := 43) (by decide +kernel) dX0_step_151 (fun H locs G => ?_)
        refine lv_aload_n hx hb dX0_step_154 rfl (lv_at hl 0 rfl) ?_
        refine lv_dup hx hb dX0_step_155 rfl ?_
        refine gg0_get (v := .int (u.1 9)) hx hb hts hin hown hK G 9 (by decide) (index := 40) (by decide +kernel) rfl dX0_step_156 ?_
        refine lv_iconst (v := 1) hx hb dX0_step_159 (by decide) ?_
        refine lv_iadd hx hb dX0_step_160 ?_
        refine gg0_put9 (v := (u.1 9) + 1) hx hb hts hin hown hK G (index := 40) (by decide +kernel) dX0_step_161 (fun H locs G => ?_)
        refine lv_aload_n hx hb dX0_step_164 rfl (lv_at hl 0 rfl) ?_
        refine gg0_get (v := .int ((u.1 9) + 1)) hx hb hts hin hown hK G 9 (by decide) (index := 40) (by decide +kernel) rfl dX0_step_165 ?_
        exact gx_iret (wf := gw0_ cI cZ h q) (u1 := st_si (st_si (st_si (st_sa (st_sa (st_sa (st_sa u 5 (ix (u.1 9)) p0) 6 (ix (u.1 9)) p1) 7 (ix (u.1 9)) (u.1 11)) 8 (ix (u.1 11)) (u.1 9)) 11 ((st_sa (st_sa (st_sa u 5 (ix (u.1 9)) p0) 6 (ix (u.1 9)) p1) 7 (ix (u.1 9)) (u.1 11)).2 7 (ix (u.1 11)))) 10 ((u.1 10) - 1)) 9 ((u.1 9) + 1)) hx hb hr hlocks hsz hK hAe G dX0_step_168 (hf.trans (by unfold pd_step_86; rw [if_pos c_90, if_pos c_115]))
    · refine lv_aload_n hx hb dX0_step_93 rfl (lv_at hl 0 rfl) ?_
      refine lv_aload_n hx hb dX0_step_94 rfl (lv_at hl 0 rfl) ?_
      refine gg0_get (v := .int (u.1 9)) hx hb hts hin hown hK G 9 (by decide) (index := 40) (by decide +kernel) rfl dX0_step_95 ?_
      refine gg0_put11 (v := u.1 9) hx hb hts hin hown hK G (index := 46) (by decide +kernel) dX0_step_98 (fun H locs G => ?_)
      refine lv_aload_n hx hb dX0_step_101 rfl (lv_at hl 0 rfl) ?_
      refine lv_dup hx hb dX0_step_102 rfl ?_
      refine gg0_get (v := .int (u.1 10)) hx hb hts hin hown hK G 10 (by decide) (index := 43) (by decide +kernel) rfl dX0_step_103 ?_
      refine lv_iconst (v := 1) hx hb dX0_step_106 (by decide) ?_
      refine lv_iadd hx hb dX0_step_107 ?_
      refine gg0_put10 (v := (u.1 10) + 1) hx hb hts hin hown hK G (index := 43) (by decide +kernel) dX0_step_108 (fun H locs G => ?_)
      refine lv_goto (tgt := 154) hx hb dX0_step_111 (by decide) ?_
      refine lv_aload_n hx hb dX0_step_154 rfl (lv_at hl 0 rfl) ?_
      refine lv_dup hx hb dX0_step_155 rfl ?_
      refine gg0_get (v := .int (u.1 9)) hx hb hts hin hown hK G 9 (by decide) (index := 40) (by decide +kernel) rfl dX0_step_156 ?_
      refine lv_iconst (v := 1) hx hb dX0_step_159 (by decide) ?_
      refine lv_iadd hx hb dX0_step_160 ?_
      refine gg0_put9 (v := (u.1 9) + 1) hx hb hts hin hown hK G (index := 40) (by decide +kernel) dX0_step_161 (fun H locs G => ?_)
      refine lv_aload_n hx hb dX0_step_164 rfl (lv_at hl 0 rfl) ?_
      refine gg0_get (v := .int ((u.1 9) + 1)) hx hb hts hin hown hK G 9 (by decide) (index := 40) (by decide +kernel) rfl dX0_step_165 ?_
      exact gx_iret (wf := gw0_ cI cZ h q) (u1 := st_si (st_si (st_si (st_sa (st_sa (st_sa u 5 (ix (u.1 9)) p0) 6 (ix (u.1 9)) p1) 7 (ix (u.1 9)) (u.1 11)) 11 (u.1 9)) 10 ((u.1 10) + 1)) 9 ((u.1 9) + 1)) hx hb hr hlocks hsz hK hAe G dX0_step_168 (hf.trans (by unfold pd_step_86; rw [if_neg c_90]))
  refine lv_iload_n hx hb dX0_step_0 rfl (lv_at hl 1 rfl) ?_
  refine lv_if_lt (tgt := 19) hx hb dX0_step_1 (by decide) (fun c_1 => ?_) (fun c_1 => ?_)
  · refine lv_iconst (v := (-1)) hx hb dX0_step_19 (by decide) ?_
    exact gx_iret (wf := gw0_ cI cZ h q) (u1 := u) hx hb hr hlocks hsz hK hAe G dX0_step_20 (by unfold pd_step; rw [if_pos c_1])
  · refine lv_iload_n hx hb dX0_step_4 rfl (lv_at hl 1 rfl) ?_
    refine lv_bipush (v := 15) hx hb dX0_step_5 (by decide) ?_
    refine lv_icmp_gt (tgt := 19) hx hb dX0_step_7 (by decide) (fun c_7 => ?_) (fun c_7 => ?_)
    · refine lv_iconst (v := (-1)) hx hb dX0_step_19 (by decide) ?_
      exact gx_iret (wf := gw0_ cI cZ h q) (u1 := u) hx hb hr hlocks hsz hK hAe G dX0_step_20 (by unfold pd_step; rw [if_neg c_1, if_pos c_7])
    · refine lv_aload_n hx hb dX0_step_10 rfl (lv_at hl 0 rfl) ?_
      refine gg0_get (v := .int (u.1 9)) hx hb hts hin hown hK G 9 (by decide) (index := 40) (by decide +kernel) rfl dX0_step_11 ?_
      refine lv_bipush (v := 24) hx hb dX0_step_14 (by decide) ?_
      refine lv_icmp_lt (tgt := 21) hx hb dX0_step_16 (by decide) (fun c_16 => ?_) (fun c_16 => ?_)
      · refine lv_iload_n hx hb dX0_step_21 rfl (lv_at hl 1 rfl) ?_
        refine lv_if_ne (tgt := 35) hx hb dX0_step_22 (by decide) (fun c_22 => ?_) (fun c_22 => ?_)
        · refine lv_iload_n hx hb dX0_step_35 rfl (lv_at hl 1 rfl) ?_
          refine gx_calls (f := pd_opensBlock p0) (As := [.int p0]) (rest := []) 1 hx hb hml hown hts (kd_opensBlock l p0 ) gX0_step_X0_opensBlock rfl rfl rfl hd_X0_opensBlock ⟨Nat.le_of_ble_eq_true rfl, Nat.le_of_ble_eq_true rfl⟩ rfl hl.1 rfl (Nat.le_of_ble_eq_true rfl) dX0_step_36 (Nat.zero_le _) (Nat.zero_le _) ?_
          refine lv_if_eq (tgt := 53) hx hb dX0_step_39 (by decide) (fun c_39 => ?_) (fun c_39 => ?_)
          · refine lv_aload_n hx hb dX0_step_53 rfl (lv_at hl 0 rfl) ?_
            refine gg0_get (v := .ref (q 5)) hx hb hts hin hown hK G 5 (by decide) (index := 28) (by decide +kernel) rfl dX0_step_54 ?_
            refine lv_aload_n hx hb dX0_step_57 rfl (lv_at hl 0 rfl) ?_
            refine gg0_get (v := .int (u.1 9)) hx hb hts hin hown hK G 9 (by decide) (index := 40) (by decide +kernel) rfl dX0_step_58 ?_
            refine lv_iload_n hx hb dX0_step_61 rfl (lv_at hl 1 rfl) ?_
            refine gg0_st5 hx hb hK G (i := u.1 9) (x := p0) (in_2 (M := 24) (by decide) hsc c_16) dX0_step_62 (fun H locs G => ?_)
            refine lv_aload_n hx hb dX0_step_63 rfl (lv_at hl 0 rfl) ?_
            refine gg0_get (v := .ref (q 6)) hx hb hts hin hown hK G 6 (by decide) (index := 31) (by decide +kernel) rfl dX0_step_64 ?_
            refine lv_aload_n hx hb dX0_step_67 rfl (lv_at hl 0 rfl) ?_
            refine gg0_get (v := .int (u.1 9)) hx hb hts hin hown hK G 9 (by decide) (index := 40) (by decide +kernel) rfl dX0_step_68 ?_
            refine lv_iload_n hx hb dX0_step_71 rfl (lv_at hl 2 rfl) ?_
            refine gg0_st6 hx hb hK G (i := u.1 9) (x := p1) (in_2 (M := 24) (by decide) hsc c_16) dX0_step_72 (fun H locs G => ?_)
            refine lv_aload_n hx hb dX0_step_73 rfl (lv_at hl 0 rfl) ?_
            refine gg0_get (v := .ref (q 7)) hx hb hts hin hown hK G 7 (by decide) (index := 34) (by decide +kernel) rfl dX0_step_74 ?_
            refine lv_aload_n hx hb dX0_step_77 rfl (lv_at hl 0 rfl) ?_
            refine gg0_get (v := .int (u.1 9)) hx hb hts hin hown hK G 9 (by decide) (index := 40) (by decide +kernel) rfl dX0_step_78 ?_
            refine lv_aload_n hx hb dX0_step_81 rfl (lv_at hl 0 rfl) ?_
            refine gg0_get (v := .int (u.1 11)) hx hb hts hin hown hK G 11 (by decide) (index := 46) (by decide +kernel) rfl dX0_step_82 ?_
            refine gg0_st7 hx hb hK G (i := u.1 9) (x := u.1 11) (in_2 (M := 24) (by decide) hsc c_16) dX0_step_85 (fun H locs G => ?_)
            exact tail_86 _ _ ls G hl (fun z => absurd z c_22) (by unfold pd_step; rw [if_neg c_1, if_neg c_7, if_pos c_16, if_neg c_22, if_pos c_39])
          · refine lv_aload_n hx hb dX0_step_42 rfl (lv_at hl 0 rfl) ?_
            refine gg0_get (v := .int (u.1 10)) hx hb hts hin hown hK G 10 (by decide) (index := 43) (by decide +kernel) rfl dX0_step_43 ?_
            refine lv_bipush (v := 8) hx hb dX0_step_46 (by decide) ?_
            refine lv_icmp_lt (tgt := 53) hx hb dX0_step_48 (by decide) (fun c_48 => ?_) (fun c_48 => ?_)
            · refine lv_aload_n hx hb dX0_step_53 rfl (lv_at hl 0 rfl) ?_
              refine gg0_get (v := .ref (q 5)) hx hb hts hin hown hK G 5 (by decide) (index := 28) (by decide +kernel) rfl dX0_step_54 ?_
              refine lv_aload_n hx hb dX0_step_57 rfl (lv_at hl 0 rfl) ?_
              refine gg0_get (v := .int (u.1 9)) hx hb hts hin hown hK G 9 (by decide) (index := 40) (by decide +kernel) rfl dX0_step_58 ?_
              refine lv_iload_n hx hb dX0_step_61 rfl (lv_at hl 1 rfl) ?_
              refine gg0_st5 hx hb hK G (i := u.1 9) (x := p0) (in_2 (M := 24) (by decide) hsc c_16) dX0_step_62 (fun H locs G => ?_)
              refine lv_aload_n hx hb dX0_step_63 rfl (lv_at hl 0 rfl) ?_
              refine gg0_get (v := .ref (q 6)) hx hb hts hin hown hK G 6 (by decide) (index := 31) (by decide +kernel) rfl dX0_step_64 ?_
              refine lv_aload_n hx hb dX0_step_67 rfl (lv_at hl 0 rfl) ?_
              refine gg0_get (v := .int (u.1 9)) hx hb hts hin hown hK G 9 (by decide) (index := 40) (by decide +kernel) rfl dX0_step_68 ?_
              refine lv_iload_n hx hb dX0_step_71 rfl (lv_at hl 2 rfl) ?_
              refine gg0_st6 hx hb hK G (i := u.1 9) (x := p1) (in_2 (M := 24) (by decide) hsc c_16) dX0_step_72 (fun H locs G => ?_)
              refine lv_aload_n hx hb dX0_step_73 rfl (lv_at hl 0 rfl) ?_
              refine gg0_get (v := .ref (q 7)) hx hb hts hin hown hK G 7 (by decide) (index := 34) (by decide +kernel) rfl dX0_step_74 ?_
              refine lv_aload_n hx hb dX0_step_77 rfl (lv_at hl 0 rfl) ?_
              refine gg0_get (v := .int (u.1 9)) hx hb hts hin hown hK G 9 (by decide) (index := 40) (by decide +kernel) rfl dX0_step_78 ?_
              refine lv_aload_n hx hb dX0_step_81 rfl (lv_at hl 0 rfl) ?_
              refine gg0_get (v := .int (u.1 11)) hx hb hts hin hown hK G 11 (by decide) (index := 46) (by decide +kernel) rfl dX0_step_82 ?_
              refine gg0_st7 hx hb hK G (i := u.1 9) (x := u.1 11) (in_2 (M := 24) (by decide) hsc c_16) dX0_step_85 (fun H locs G => ?_)
              exact tail_86 _ _ ls G hl (fun z => absurd z c_22) (by unfold pd_step; rw [if_neg c_1, if_neg c_7, if_pos c_16, if_neg c_22, if_neg c_39, if_pos c_48])
            · refine lv_iconst (v := (-1)) hx hb dX0_step_51 (by decide) ?_
              exact gx_iret (wf := gw0_ cI cZ h q) (u1 := u) hx hb hr hlocks hsz hK hAe G dX0_step_52 (by unfold pd_step; rw [if_neg c_1, if_neg c_7, if_pos c_16, if_neg c_22, if_neg c_39, if_neg c_48])
        · refine lv_aload_n hx hb dX0_step_25 rfl (lv_at hl 0 rfl) ?_
          refine gg0_get (v := .int (u.1 11)) hx hb hts hin hown hK G 11 (by decide) (index := 46) (by decide +kernel) rfl dX0_step_26 ?_
          refine lv_iconst (v := (-1)) hx hb dX0_step_29 (by decide) ?_
          refine lv_icmp_ne (tgt := 35) hx hb dX0_step_30 (by decide) (fun c_30 => ?_) (fun c_30 => ?_)
          · refine lv_iload_n hx hb dX0_step_35 rfl (lv_at hl 1 rfl) ?_
            refine gx_calls (f := pd_opensBlock p0) (As := [.int p0]) (rest := []) 1 hx hb hml hown hts (kd_opensBlock l p0 ) gX0_step_X0_opensBlock rfl rfl rfl hd_X0_opensBlock ⟨Nat.le_of_ble_eq_true rfl, Nat.le_of_ble_eq_true rfl⟩ rfl hl.1 rfl (Nat.le_of_ble_eq_true rfl) dX0_step_36 (Nat.zero_le _) (Nat.zero_le _) ?_
            refine lv_if_eq (tgt := 53) hx hb dX0_step_39 (by decide) (fun c_39 => ?_) (fun c_39 => ?_)
            · refine lv_aload_n hx hb dX0_step_53 rfl (lv_at hl 0 rfl) ?_
              refine gg0_get (v := .ref (q 5)) hx hb hts hin hown hK G 5 (by decide) (index := 28) (by decide +kernel) rfl dX0_step_54 ?_
              refine lv_aload_n hx hb dX0_step_57 rfl (lv_at hl 0 rfl) ?_
              refine gg0_get (v := .int (u.1 9)) hx hb hts hin hown hK G 9 (by decide) (index := 40) (by decide +kernel) rfl dX0_step_58 ?_
              refine lv_iload_n hx hb dX0_step_61 rfl (lv_at hl 1 rfl) ?_
              refine gg0_st5 hx hb hK G (i := u.1 9) (x := p0) (in_2 (M := 24) (by decide) hsc c_16) dX0_step_62 (fun H locs G => ?_)
              refine lv_aload_n hx hb dX0_step_63 rfl (lv_at hl 0 rfl) ?_
              refine gg0_get (v := .ref (q 6)) hx hb hts hin hown hK G 6 (by decide) (index := 31) (by decide +kernel) rfl dX0_step_64 ?_
              refine lv_aload_n hx hb dX0_step_67 rfl (lv_at hl 0 rfl) ?_
              refine gg0_get (v := .int (u.1 9)) hx hb hts hin hown hK G 9 (by decide) (index := 40) (by decide +kernel) rfl dX0_step_68 ?_
              refine lv_iload_n hx hb dX0_step_71 rfl (lv_at hl 2 rfl) ?_
              refine gg0_st6 hx hb hK G (i := u.1 9) (x := p1) (in_2 (M := 24) (by decide) hsc c_16) dX0_step_72 (fun H locs G => ?_)
              refine lv_aload_n hx hb dX0_step_73 rfl (lv_at hl 0 rfl) ?_
              refine gg0_get (v := .ref (q 7)) hx hb hts hin hown hK G 7 (by decide) (index := 34) (by decide +kernel) rfl dX0_step_74 ?_
              refine lv_aload_n hx hb dX0_step_77 rfl (lv_at hl 0 rfl) ?_
              refine gg0_get (v := .int (u.1 9)) hx hb hts hin hown hK G 9 (by decide) (index := 40) (by decide +kernel) rfl dX0_step_78 ?_
              refine lv_aload_n hx hb dX0_step_81 rfl (lv_at hl 0 rfl) ?_
              refine gg0_get (v := .int (u.1 11)) hx hb hts hin hown hK G 11 (by decide) (index := 46) (by decide +kernel) rfl dX0_step_82 ?_
              refine gg0_st7 hx hb hK G (i := u.1 9) (x := u.1 11) (in_2 (M := 24) (by decide) hsc c_16) dX0_step_85 (fun H locs G => ?_)
              exact tail_86 _ _ ls G hl (fun _ => c_30) (by unfold pd_step; rw [if_neg c_1, if_neg c_7, if_pos c_16, if_pos c_22, if_neg c_30, if_pos c_39])
            · refine lv_aload_n hx hb dX0_step_42 rfl (lv_at hl 0 rfl) ?_
              refine gg0_get (v := .int (u.1 10)) hx hb hts hin hown hK G 10 (by decide) (index := 43) (by decide +kernel) rfl dX0_step_43 ?_
              refine lv_bipush (v := 8) hx hb dX0_step_46 (by decide) ?_
              refine lv_icmp_lt (tgt := 53) hx hb dX0_step_48 (by decide) (fun c_48 => ?_) (fun c_48 => ?_)
              · refine lv_aload_n hx hb dX0_step_53 rfl (lv_at hl 0 rfl) ?_
                refine gg0_get (v := .ref (q 5)) hx hb hts hin hown hK G 5 (by decide) (index := 28) (by decide +kernel) rfl dX0_step_54 ?_
                refine lv_aload_n hx hb dX0_step_57 rfl (lv_at hl 0 rfl) ?_
                refine gg0_get (v := .int (u.1 9)) hx hb hts hin hown hK G 9 (by decide) (index := 40) (by decide +kernel) rfl dX0_step_58 ?_
                refine lv_iload_n hx hb dX0_step_61 rfl (lv_at hl 1 rfl) ?_
                refine gg0_st5 hx hb hK G (i := u.1 9) (x := p0) (in_2 (M := 24) (by decide) hsc c_16) dX0_step_62 (fun H locs G => ?_)
                refine lv_aload_n hx hb dX0_step_63 rfl (lv_at hl 0 rfl) ?_
                refine gg0_get (v := .ref (q 6)) hx hb hts hin hown hK G 6 (by decide) (index := 31) (by decide +kernel) rfl dX0_step_64 ?_
                refine lv_aload_n hx hb dX0_step_67 rfl (lv_at hl 0 rfl) ?_
                refine gg0_get (v := .int (u.1 9)) hx hb hts hin hown hK G 9 (by decide) (index := 40) (by decide +kernel) rfl dX0_step_68 ?_
                refine lv_iload_n hx hb dX0_step_71 rfl (lv_at hl 2 rfl) ?_
                refine gg0_st6 hx hb hK G (i := u.1 9) (x := p1) (in_2 (M := 24) (by decide) hsc c_16) dX0_step_72 (fun H locs G => ?_)
                refine lv_aload_n hx hb dX0_step_73 rfl (lv_at hl 0 rfl) ?_
                refine gg0_get (v := .ref (q 7)) hx hb hts hin hown hK G 7 (by decide) (index := 34) (by decide +kernel) rfl dX0_step_74 ?_
                refine lv_aload_n hx hb dX0_step_77 rfl (lv_at hl 0 rfl) ?_
                refine gg0_get (v := .int (u.1 9)) hx hb hts hin hown hK G 9 (by decide) (index := 40) (by decide +kernel) rfl dX0_step_78 ?_
                refine lv_aload_n hx hb dX0_step_81 rfl (lv_at hl 0 rfl) ?_
                refine gg0_get (v := .int (u.1 11)) hx hb hts hin hown hK G 11 (by decide) (index := 46) (by decide +kernel) rfl dX0_step_82 ?_
                refine gg0_st7 hx hb hK G (i := u.1 9) (x := u.1 11) (in_2 (M := 24) (by decide) hsc c_16) dX0_step_85 (fun H locs G => ?_)
                exact tail_86 _ _ ls G hl (fun _ => c_30) (by unfold pd_step; rw [if_neg c_1, if_neg c_7, if_pos c_16, if_pos c_22, if_neg c_30, if_neg c_39, if_pos c_48])
              · refine lv_iconst (v := (-1)) hx hb dX0_step_51 (by decide) ?_
                exact gx_iret (wf := gw0_ cI cZ h q) (u1 := u) hx hb hr hlocks hsz hK hAe G dX0_step_52 (by unfold pd_step; rw [if_neg c_1, if_neg c_7, if_pos c_16, if_pos c_22, if_neg c_30, if_neg c_39, if_neg c_48])
          · refine lv_iconst (v := (-1)) hx hb dX0_step_33 (by decide) ?_
            exact gx_iret (wf := gw0_ cI cZ h q) (u1 := u) hx hb hr hlocks hsz hK hAe G dX0_step_34 (by unfold pd_step; rw [if_neg c_1, if_neg c_7, if_pos c_16, if_pos c_22, if_pos c_30])
      · refine lv_iconst (v := (-1)) hx hb dX0_step_19 (by decide) ?_
        exact gx_iret (wf := gw0_ cI cZ h q) (u1 := u) hx hb hr hlocks hsz hK hAe G dX0_step_20 (by unfold pd_step; rw [if_neg c_1, if_neg c_7, if_neg c_16])
theorem hd_X0_step : yX0_step.cls = RX0 ∧ yX0_step.cls ≠ "java/lang/invoke/MethodHandle" ∧ yX0_step.cls ≠ "java/lang/invoke/VarHandle" ∧ (parseMethodDescriptor yX0_step.desc).map (fun d => d.parameters.length) = some 2 := by decide +kernel
def pd_clear (u : st_T) : Int32 × st_T :=
  (u.1 9, st_si (st_si (st_si u 9 0) 10 0) 11 (-1))
set_option maxHeartbeats 4000000 in
set_option maxRecDepth 100000 in
theorem kd_clear (l : Launch) (dC : Nat → ClassId) (dI : Nat → Nat → Nat) (cI cZ : ClassId) (h : Nat) (q : Nat → Nat) (sz : Nat) (u : st_T) : gx_Mi l yX0_clear wsX0_clear { frames := 0, cells := 0, slots := 0, locals := 0 } [.ref h] (dC, dI) cI cZ (gw0_ cI cZ h q) u sz (pd_clear u) := by
  refine gx_met (cc := cX0_clear) (maxL := 2) (ret := (some .int)) (by decide +kernel) rfl (Nat.le_of_ble_eq_true rfl) (fun p e s m args below meth c A ls hsz hx hb hr hlocks hts hown hml hK hAe hA G hl => ?_)
  have hown : s.vm.findClass RX0 = some m.cls := hown
  have hin : ∀ w ∈ wsX00, w ∈ wsX0_clear := gx_in
  have hl : lv_has ls 2 [(0, .ref h)] := hl
  refine lv_aload_n hx hb dX0_clear_0 rfl (lv_at hl 0 rfl) ?_
  refine gg0_get (v := .int (u.1 9)) hx hb hts hin hown hK G 9 (by decide) (index := 40) (by decide +kernel) rfl dX0_clear_1 ?_
  refine lv_istore_n (lv' := [(1, .int (u.1 9)), (0, .ref h)]) hx hb dX0_clear_4 rfl hl (by decide) rfl (fun ls hl => ?_)
  refine lv_aload_n hx hb dX0_clear_5 rfl (lv_at hl 1 rfl) ?_
  refine lv_iconst (v := 0) hx hb dX0_clear_6 (by decide) ?_
  refine gg0_put9 (v := 0) hx hb hts hin hown hK G (index := 40) (by decide +kernel) dX0_clear_7 (fun H locs G => ?_)
  refine lv_aload_n hx hb dX0_clear_10 rfl (lv_at hl 1 rfl) ?_
  refine lv_iconst (v := 0) hx hb dX0_clear_11 (by decide) ?_
  refine gg0_put10 (v := 0) hx hb hts hin hown hK G (index := 43) (by decide +kernel) dX0_clear_12 (fun H locs G => ?_)
  refine lv_aload_n hx hb dX0_clear_15 rfl (lv_at hl 1 rfl) ?_
  refine lv_iconst (v := (-1)) hx hb dX0_clear_16 (by decide) ?_
  refine gg0_put11 (v := (-1)) hx hb hts hin hown hK G (index := 46) (by decide +kernel) dX0_clear_17 (fun H locs G => ?_)
  refine lv_iload_n hx hb dX0_clear_20 rfl (lv_at hl 0 rfl) ?_
  exact gx_iret (wf := gw0_ cI cZ h q) (u1 := st_si (st_si (st_si u 9 0) 10 0) 11 (-1)) hx hb hr hlocks hsz hK hAe G dX0_clear_21 (by unfold pd_clear; rfl)
theorem hd_X0_clear : yX0_clear.cls = RX0 ∧ yX0_clear.cls ≠ "java/lang/invoke/MethodHandle" ∧ yX0_clear.cls ≠ "java/lang/invoke/VarHandle" ∧ (parseMethodDescriptor yX0_clear.desc).map (fun d => d.parameters.length) = some 0 := by decide +kernel
def pd_result (u : st_T) (p0 : Int32) : Int32 :=
  if p0 < 0 then
    (-1)
  else
    if p0 < 24 then
      u.2 12 (ix p0)
    else
      (-1)
set_option maxHeartbeats 4000000 in
set_option maxRecDepth 100000 in
theorem kd_result (l : Launch) (dC : Nat → ClassId) (dI : Nat → Nat → Nat) (cI cZ : ClassId) (h : Nat) (q : Nat → Nat) (sz : Nat) (u : st_T) (p0 : Int32) : gx_Mi l yX0_result wsX0_result { frames := 0, cells := 0, slots := 0, locals := 0 } [.ref h, .int p0] (dC, dI) cI cZ (gw0_ cI cZ h q) u sz (pd_result u p0, u) := by
  refine gx_met (cc := cX0_result) (maxL := 2) (ret := (some .int)) (by decide +kernel) rfl (Nat.le_of_ble_eq_true rfl) (fun p e s m args below meth c A ls hsz hx hb hr hlocks hts hown hml hK hAe hA G hl => ?_)
  have hown : s.vm.findClass RX0 = some m.cls := hown
  have hin : ∀ w ∈ wsX00, w ∈ wsX0_result := gx_in
  have hl : lv_has ls 2 [(0, .ref h), (1, .int p0)] := hl
  refine lv_iload_n hx hb dX0_result_0 rfl (lv_at hl 1 rfl) ?_
  refine lv_if_lt (tgt := 10) hx hb dX0_result_1 (by decide) (fun c_1 => ?_) (fun c_1 => ?_)
  · refine lv_iconst (v := (-1)) hx hb dX0_result_10 (by decide) ?_
    exact gx_iret (wf := gw0_ cI cZ h q) (u1 := u) hx hb hr hlocks hsz hK hAe G dX0_result_11 (congrArg (fun z => (z, u)) (by unfold pd_result; rw [if_pos c_1]))
  · refine lv_iload_n hx hb dX0_result_4 rfl (lv_at hl 1 rfl) ?_
    refine lv_bipush (v := 24) hx hb dX0_result_5 (by decide) ?_
    refine lv_icmp_lt (tgt := 12) hx hb dX0_result_7 (by decide) (fun c_7 => ?_) (fun c_7 => ?_)
    · refine lv_aload_n hx hb dX0_result_12 rfl (lv_at hl 0 rfl) ?_
      refine gg0_get (v := .ref (q 12)) hx hb hts hin hown hK G 12 (by decide) (index := 49) (by decide +kernel) rfl dX0_result_13 ?_
      refine lv_iload_n hx hb dX0_result_16 rfl (lv_at hl 1 rfl) ?_
      refine gg0_ld12 hx hb hK G (i := p0) (in_2 (M := 24) (by decide) c_1 c_7) dX0_result_17 ?_
      exact gx_iret (wf := gw0_ cI cZ h q) (u1 := u) hx hb hr hlocks hsz hK hAe G dX0_result_18 (congrArg (fun z => (z, u)) (by unfold pd_result; rw [if_neg c_1, if_pos c_7]))
    · refine lv_iconst (v := (-1)) hx hb dX0_result_10 (by decide) ?_
      exact gx_iret (wf := gw0_ cI cZ h q) (u1 := u) hx hb hr hlocks hsz hK hAe G dX0_result_11 (congrArg (fun z => (z, u)) (by unfold pd_result; rw [if_neg c_1, if_neg c_7]))
theorem hd_X0_result : yX0_result.cls = RX0 ∧ yX0_result.cls ≠ "java/lang/invoke/MethodHandle" ∧ yX0_result.cls ≠ "java/lang/invoke/VarHandle" ∧ (parseMethodDescriptor yX0_result.desc).map (fun d => d.parameters.length) = some 1 := by decide +kernel
def pd_failure (u : st_T) : Int32 :=
  u.1 13
set_option maxHeartbeats 4000000 in
set_option maxRecDepth 100000 in
theorem kd_failure (l : Launch) (dC : Nat → ClassId) (dI : Nat → Nat → Nat) (cI cZ : ClassId) (h : Nat) (q : Nat → Nat) (sz : Nat) (u : st_T) : gx_Mi l yX0_failure wsX0_failure { frames := 0, cells := 0, slots := 0, locals := 0 } [.ref h] (dC, dI) cI cZ (gw0_ cI cZ h q) u sz (pd_failure u, u) := by
  refine gx_met (cc := cX0_failure) (maxL := 1) (ret := (some .int)) (by decide +kernel) rfl (Nat.le_of_ble_eq_true rfl) (fun p e s m args below meth c A ls hsz hx hb hr hlocks hts hown hml hK hAe hA G hl => ?_)
  have hown : s.vm.findClass RX0 = some m.cls := hown
  have hin : ∀ w ∈ wsX00, w ∈ wsX0_failure := gx_in
  have hl : lv_has ls 1 [(0, .ref h)] := hl
  refine lv_aload_n hx hb dX0_failure_0 rfl (lv_at hl 0 rfl) ?_
  refine gg0_get (v := .int (u.1 13)) hx hb hts hin hown hK G 13 (by decide) (index := 52) (by decide +kernel) rfl dX0_failure_1 ?_
  exact gx_iret (wf := gw0_ cI cZ h q) (u1 := u) hx hb hr hlocks hsz hK hAe G dX0_failure_4 (congrArg (fun z => (z, u)) (by unfold pd_failure; rfl))
theorem hd_X0_failure : yX0_failure.cls = RX0 ∧ yX0_failure.cls ≠ "java/lang/invoke/MethodHandle" ∧ yX0_failure.cls ≠ "java/lang/invoke/VarHandle" ∧ (parseMethodDescriptor yX0_failure.desc).map (fun d => d.parameters.length) = some 0 := by decide +kernel
theorem hs_in {x : Int32} (h1 : ¬ x < 5) (h2 : x < 10) : vp_in (x - 5) 5 := by
  rw [Int32.lt_iff_toInt_lt] at h1 h2
  rw [show (5 : Int32).toInt = 5 by decide] at h1
  rw [show (10 : Int32).toInt = 10 by decide] at h2
  refine vp_in_iff.mpr ?_
  have e : (x - 5).toInt = x.toInt - 5 := by
    rw [Int32.toInt_sub, show (5 : Int32).toInt = 5 by decide]
    exact Int.bmod_eq_of_le_mul_two (by omega) (by omega)
  omega
def pd_handleState (u : st_T) (p0 : Int32) : Int32 :=
  if p0 < 5 then
    (-1)
  else
    if p0 < 10 then
      if u.2 0 (ix (p0 - 5)) = 0 then
        (-2)
      else
        pd_leastHandle u (p0 - 5)
    else
      (-1)
set_option maxHeartbeats 4000000 in
set_option maxRecDepth 100000 in
theorem kd_handleState (l : Launch) (dC : Nat → ClassId) (dI : Nat → Nat → Nat) (cI cZ : ClassId) (h : Nat) (q : Nat → Nat) (sz : Nat) (u : st_T) (p0 : Int32) : gx_Mi l yX0_handleState wsX0_handleState { frames := 1, cells := 0, slots := 0, locals := 22 } [.ref h, .int p0] (dC, dI) cI cZ (gw0_ cI cZ h q) u sz (pd_handleState u p0, u) := by
  refine gx_met (cc := cX0_handleState) (maxL := 3) (ret := (some .int)) (by decide +kernel) rfl (Nat.le_of_ble_eq_true rfl) (fun p e s m args below meth c A ls hsz hx hb hr hlocks hts hown hml hK hAe hA G hl => ?_)
  have hown : s.vm.findClass RX0 = some m.cls := hown
  have hin : ∀ w ∈ wsX00, w ∈ wsX0_handleState := gx_in
  have hl : lv_has ls 3 [(0, .ref h), (1, .int p0)] := hl
  refine lv_iload_n hx hb dX0_handleState_0 rfl (lv_at hl 1 rfl) ?_
  refine lv_iconst (v := 5) hx hb dX0_handleState_1 (by decide) ?_
  refine lv_icmp_lt (tgt := 11) hx hb dX0_handleState_2 (by decide) (fun c_2 => ?_) (fun c_2 => ?_)
  · refine lv_iconst (v := (-1)) hx hb dX0_handleState_11 (by decide) ?_
    exact gx_iret (wf := gw0_ cI cZ h q) (u1 := u) hx hb hr hlocks hsz hK hAe G dX0_handleState_12 (congrArg (fun z => (z, u)) (by unfold pd_handleState; rw [if_pos c_2]))
  · refine lv_iload_n hx hb dX0_handleState_5 rfl (lv_at hl 1 rfl) ?_
    refine lv_bipush (v := 10) hx hb dX0_handleState_6 (by decide) ?_
    refine lv_icmp_lt (tgt := 13) hx hb dX0_handleState_8 (by decide) (fun c_8 => ?_) (fun c_8 => ?_)
    · refine lv_iload_n hx hb dX0_handleState_13 rfl (lv_at hl 1 rfl) ?_
      refine lv_iconst (v := 5) hx hb dX0_handleState_14 (by decide) ?_
      refine lv_isub hx hb dX0_handleState_15 ?_
      refine lv_istore_n (lv' := [(2, .int (p0 - 5)), (0, .ref h), (1, .int p0)]) hx hb dX0_handleState_16 rfl hl (by decide) rfl (fun ls hl => ?_)
      refine lv_aload_n hx hb dX0_handleState_17 rfl (lv_at hl 1 rfl) ?_
      refine gg0_get (v := .ref (q 0)) hx hb hts hin hown hK G 0 (by decide) (index := 9) (by decide +kernel) rfl dX0_handleState_18 ?_
      refine lv_iload_n hx hb dX0_handleState_21 rfl (lv_at hl 0 rfl) ?_
      refine gg0_ld0 hx hb hK G (i := p0 - 5) (hs_in c_2 c_8) dX0_handleState_22 ?_
      refine lv_if_ne (tgt := 31) hx hb dX0_handleState_23 (by decide) (fun c_23 => ?_) (fun c_23 => ?_)
      · refine lv_aload_n hx hb dX0_handleState_31 rfl (lv_at hl 1 rfl) ?_
        refine lv_iload_n hx hb dX0_handleState_32 rfl (lv_at hl 0 rfl) ?_
        refine gx_callr (wf := gw0_ cI cZ h q) (u := u) (f := pd_leastHandle u (p0 - 5)) (As := [.int (p0 - 5)]) (rest := []) 1 hx hb hml hown hts hK hA G rfl rfl (kd_leastHandle l dC dI cI cZ h q _ u (p0 - 5) (hs_in c_2 c_8)) gX0_handleState_X0_leastHandle rfl rfl rfl hd_X0_leastHandle ⟨Nat.le_of_ble_eq_true rfl, Nat.le_of_ble_eq_true rfl⟩ rfl hl.1 rfl (Nat.le_of_ble_eq_true rfl) dX0_handleState_33 (Nat.zero_le _) (Nat.zero_le _) (fun H locs G => ?_)
        exact gx_iret (wf := gw0_ cI cZ h q) (u1 := u) hx hb hr hlocks hsz hK hAe G dX0_handleState_36 (congrArg (fun z => (z, u)) (by unfold pd_handleState; rw [if_neg c_2, if_pos c_8, if_neg c_23]))
      · refine lv_bipush (v := (-2)) hx hb dX0_handleState_26 (by decide) ?_
        refine lv_goto (tgt := 36) hx hb dX0_handleState_28 (by decide) ?_
        exact gx_iret (wf := gw0_ cI cZ h q) (u1 := u) hx hb hr hlocks hsz hK hAe G dX0_handleState_36 (congrArg (fun z => (z, u)) (by unfold pd_handleState; rw [if_neg c_2, if_pos c_8, if_pos c_23]))
    · refine lv_iconst (v := (-1)) hx hb dX0_handleState_11 (by decide) ?_
      exact gx_iret (wf := gw0_ cI cZ h q) (u1 := u) hx hb hr hlocks hsz hK hAe G dX0_handleState_12 (congrArg (fun z => (z, u)) (by unfold pd_handleState; rw [if_neg c_2, if_neg c_8]))
theorem hd_X0_handleState : yX0_handleState.cls = RX0 ∧ yX0_handleState.cls ≠ "java/lang/invoke/MethodHandle" ∧ yX0_handleState.cls ≠ "java/lang/invoke/VarHandle" ∧ (parseMethodDescriptor yX0_handleState.desc).map (fun d => d.parameters.length) = some 1 := by decide +kernel
def pd_state (u : st_T) (p0 : Int32) : Int32 :=
  if p0 = 0 then
    u.1 9
  else
    if p0 = 1 then
      u.1 10
    else
      if p0 = 2 then
        u.1 3
      else
        if p0 = 3 then
          pd_asNumber (u.1 4)
        else
          if p0 = 4 then
            pd_countEnded u
          else
            pd_handleState u p0
set_option maxHeartbeats 4000000 in
set_option maxRecDepth 100000 in
theorem kd_state (l : Launch) (dC : Nat → ClassId) (dI : Nat → Nat → Nat) (cI cZ : ClassId) (h : Nat) (q : Nat → Nat) (sz : Nat) (u : st_T) (p0 : Int32) : gx_Mi l yX0_state wsX0_state { frames := 2, cells := 0, slots := 0, locals := 44 } [.ref h, .int p0] (dC, dI) cI cZ (gw0_ cI cZ h q) u sz (pd_state u p0, u) := by
  refine gx_met (cc := cX0_state) (maxL := 2) (ret := (some .int)) (by decide +kernel) rfl (Nat.le_of_ble_eq_true rfl) (fun p e s m args below meth c A ls hsz hx hb hr hlocks hts hown hml hK hAe hA G hl => ?_)
  have hown : s.vm.findClass RX0 = some m.cls := hown
  have hin : ∀ w ∈ wsX00, w ∈ wsX0_state := gx_in
  have hl : lv_has ls 2 [(0, .ref h), (1, .int p0)] := hl
  refine lv_iload_n hx hb dX0_state_0 rfl (lv_at hl 1 rfl) ?_
  by_cases c_1_0 : p0 = 0
  · refine lv_tableIn (tgt := 36) hx hb dX0_state_1 (by rw [c_1_0]; decide) (by rw [c_1_0]; decide) (by rw [c_1_0]; rfl) (by decide) ?_
    refine lv_aload_n hx hb dX0_state_36 rfl (lv_at hl 0 rfl) ?_
    refine gg0_get (v := .int (u.1 9)) hx hb hts hin hown hK G 9 (by decide) (index := 40) (by decide +kernel) rfl dX0_state_37 ?_
    exact gx_iret (wf := gw0_ cI cZ h q) (u1 := u) hx hb hr hlocks hsz hK hAe G dX0_state_40 (congrArg (fun z => (z, u)) (by unfold pd_state; rw [if_pos c_1_0]))
  by_cases c_1_1 : p0 = 1
  · refine lv_tableIn (tgt := 41) hx hb dX0_state_1 (by rw [c_1_1]; decide) (by rw [c_1_1]; decide) (by rw [c_1_1]; rfl) (by decide) ?_
    refine lv_aload_n hx hb dX0_state_41 rfl (lv_at hl 0 rfl) ?_
    refine gg0_get (v := .int (u.1 10)) hx hb hts hin hown hK G 10 (by decide) (index := 43) (by decide +kernel) rfl dX0_state_42 ?_
    exact gx_iret (wf := gw0_ cI cZ h q) (u1 := u) hx hb hr hlocks hsz hK hAe G dX0_state_45 (congrArg (fun z => (z, u)) (by unfold pd_state; rw [if_neg c_1_0, if_pos c_1_1]))
  by_cases c_1_2 : p0 = 2
  · refine lv_tableIn (tgt := 46) hx hb dX0_state_1 (by rw [c_1_2]; decide) (by rw [c_1_2]; decide) (by rw [c_1_2]; rfl) (by decide) ?_
    refine lv_aload_n hx hb dX0_state_46 rfl (lv_at hl 0 rfl) ?_
    refine gg0_get (v := .int (u.1 3)) hx hb hts hin hown hK G 3 (by decide) (index := 21) (by decide +kernel) rfl dX0_state_47 ?_
    exact gx_iret (wf := gw0_ cI cZ h q) (u1 := u) hx hb hr hlocks hsz hK hAe G dX0_state_50 (congrArg (fun z => (z, u)) (by unfold pd_state; rw [if_neg c_1_0, if_neg c_1_1, if_pos c_1_2]))
  by_cases c_1_3 : p0 = 3
  · refine lv_tableIn (tgt := 51) hx hb dX0_state_1 (by rw [c_1_3]; decide) (by rw [c_1_3]; decide) (by rw [c_1_3]; rfl) (by decide) ?_
    refine lv_aload_n hx hb dX0_state_51 rfl (lv_at hl 0 rfl) ?_
    refine gg0_get (v := .int (u.1 4)) hx hb hts hin hown hK G 4 (by decide) (index := 24) (by decide +kernel) rfl dX0_state_52 ?_
    refine gx_calls (f := pd_asNumber (u.1 4)) (As := [.int (u.1 4)]) (rest := []) 1 hx hb hml hown hts (kd_asNumber l (u.1 4) ) gX0_state_X0_asNumber rfl rfl rfl hd_X0_asNumber ⟨Nat.le_of_ble_eq_true rfl, Nat.le_of_ble_eq_true rfl⟩ rfl hl.1 rfl (Nat.le_of_ble_eq_true rfl) dX0_state_55 (Nat.zero_le _) (Nat.zero_le _) ?_
    exact gx_iret (wf := gw0_ cI cZ h q) (u1 := u) hx hb hr hlocks hsz hK hAe G dX0_state_58 (congrArg (fun z => (z, u)) (by unfold pd_state; rw [if_neg c_1_0, if_neg c_1_1, if_neg c_1_2, if_pos c_1_3]))
  by_cases c_1_4 : p0 = 4
  · refine lv_tableIn (tgt := 59) hx hb dX0_state_1 (by rw [c_1_4]; decide) (by rw [c_1_4]; decide) (by rw [c_1_4]; rfl) (by decide) ?_
    refine lv_aload_n hx hb dX0_state_59 rfl (lv_at hl 0 rfl) ?_
    refine gx_callr (wf := gw0_ cI cZ h q) (u := u) (f := pd_countEnded u) (As := []) (rest := []) 0 hx hb hml hown hts hK hA G rfl rfl (kd_countEnded l dC dI cI cZ h q _ u  ) gX0_state_X0_countEnded rfl rfl rfl hd_X0_countEnded ⟨Nat.le_of_ble_eq_true rfl, Nat.le_of_ble_eq_true rfl⟩ rfl hl.1 rfl (Nat.le_of_ble_eq_true rfl) dX0_state_60 (Nat.zero_le _) (Nat.zero_le _) (fun H locs G => ?_)
    exact gx_iret (wf := gw0_ cI cZ h q) (u1 := u) hx hb hr hlocks hsz hK hAe G dX0_state_63 (congrArg (fun z => (z, u)) (by unfold pd_state; rw [if_neg c_1_0, if_neg c_1_1, if_neg c_1_2, if_neg c_1_3, if_pos c_1_4]))
  refine lv_tableOut (tgt := 64) hx hb dX0_state_1 (by have z := p0.toInt; have z0 := lv_neT c_1_0 (a := 0) (by decide); have z1 := lv_neT c_1_1 (a := 1) (by decide); have z2 := lv_neT c_1_2 (a := 2) (by decide); have z3 := lv_neT c_1_3 (a := 3) (by decide); have z4 := lv_neT c_1_4 (a := 4) (by decide); omega) (by decide) ?_
  refine lv_aload_n hx hb dX0_state_64 rfl (lv_at hl 0 rfl) ?_
  refine lv_iload_n hx hb dX0_state_65 rfl (lv_at hl 1 rfl) ?_
  refine gx_callr (wf := gw0_ cI cZ h q) (u := u) (f := pd_handleState u p0) (As := [.int p0]) (rest := []) 1 hx hb hml hown hts hK hA G rfl rfl (kd_handleState l dC dI cI cZ h q _ u p0 ) gX0_state_X0_handleState rfl rfl rfl hd_X0_handleState ⟨Nat.le_of_ble_eq_true rfl, Nat.le_of_ble_eq_true rfl⟩ rfl hl.1 rfl (Nat.le_of_ble_eq_true rfl) dX0_state_66 (Nat.zero_le _) (Nat.zero_le _) (fun H locs G => ?_)
  exact gx_iret (wf := gw0_ cI cZ h q) (u1 := u) hx hb hr hlocks hsz hK hAe G dX0_state_69 (congrArg (fun z => (z, u)) (by unfold pd_state; rw [if_neg c_1_0, if_neg c_1_1, if_neg c_1_2, if_neg c_1_3, if_neg c_1_4]))
theorem hd_X0_state : yX0_state.cls = RX0 ∧ yX0_state.cls ≠ "java/lang/invoke/MethodHandle" ∧ yX0_state.cls ≠ "java/lang/invoke/VarHandle" ∧ (parseMethodDescriptor yX0_state.desc).map (fun d => d.parameters.length) = some 1 := by decide +kernel
def pd_raise (u : st_T) (p0 : Int32) : Int32 × st_T :=
  (0, st_si u 15 p0)
set_option maxHeartbeats 4000000 in
set_option maxRecDepth 100000 in
theorem kd_raise (l : Launch) (dC : Nat → ClassId) (dI : Nat → Nat → Nat) (cI cZ : ClassId) (h : Nat) (q : Nat → Nat) (sz : Nat) (u : st_T) (p0 : Int32) : gx_Mi l yX0_raise wsX0_raise { frames := 0, cells := 0, slots := 0, locals := 0 } [.ref h, .int p0] (dC, dI) cI cZ (gw0_ cI cZ h q) u sz (pd_raise u p0) := by
  refine gx_met (cc := cX0_raise) (maxL := 2) (ret := (some .int)) (by decide +kernel) rfl (Nat.le_of_ble_eq_true rfl) (fun p e s m args below meth c A ls hsz hx hb hr hlocks hts hown hml hK hAe hA G hl => ?_)
  have hown : s.vm.findClass RX0 = some m.cls := hown
  have hin : ∀ w ∈ wsX00, w ∈ wsX0_raise := gx_in
  have hl : lv_has ls 2 [(0, .ref h), (1, .int p0)] := hl
  refine lv_aload_n hx hb dX0_raise_0 rfl (lv_at hl 0 rfl) ?_
  refine lv_iload_n hx hb dX0_raise_1 rfl (lv_at hl 1 rfl) ?_
  refine gg0_put15 (v := p0) hx hb hts hin hown hK G (index := 58) (by decide +kernel) dX0_raise_2 (fun H locs G => ?_)
  refine lv_iconst (v := 0) hx hb dX0_raise_5 (by decide) ?_
  exact gx_iret (wf := gw0_ cI cZ h q) (u1 := st_si u 15 p0) hx hb hr hlocks hsz hK hAe G dX0_raise_6 (by unfold pd_raise; rfl)
theorem hd_X0_raise : yX0_raise.cls = RX0 ∧ yX0_raise.cls ≠ "java/lang/invoke/MethodHandle" ∧ yX0_raise.cls ≠ "java/lang/invoke/VarHandle" ∧ (parseMethodDescriptor yX0_raise.desc).map (fun d => d.parameters.length) = some 1 := by decide +kernel
def pd_isEnter (u : st_T) (p0 : Int32) : Int32 :=
  if p0 = (-1) then
    0
  else
    if u.2 5 (ix p0) = 1 then
      1
    else
      0
set_option maxHeartbeats 4000000 in
set_option maxRecDepth 100000 in
theorem kd_isEnter (l : Launch) (dC : Nat → ClassId) (dI : Nat → Nat → Nat) (cI cZ : ClassId) (h : Nat) (q : Nat → Nat) (sz : Nat) (u : st_T) (p0 : Int32) (hb0 : p0 = -1 ∨ vp_in p0 24) : gx_Mi l yX0_isEnter wsX0_isEnter { frames := 0, cells := 0, slots := 0, locals := 0 } [.ref h, .int p0] (dC, dI) cI cZ (gw0_ cI cZ h q) u sz (pd_isEnter u p0, u) := by
  refine gx_met (cc := cX0_isEnter) (maxL := 2) (ret := (some .boolean)) (by decide +kernel) rfl (Nat.le_of_ble_eq_true rfl) (fun p e s m args below meth c A ls hsz hx hb hr hlocks hts hown hml hK hAe hA G hl => ?_)
  have hown : s.vm.findClass RX0 = some m.cls := hown
  have hin : ∀ w ∈ wsX00, w ∈ wsX0_isEnter := gx_in
  have hl : lv_has ls 2 [(0, .ref h), (1, .int p0)] := hl
  refine lv_iload_n hx hb dX0_isEnter_0 rfl (lv_at hl 1 rfl) ?_
  refine lv_iconst (v := (-1)) hx hb dX0_isEnter_1 (by decide) ?_
  refine lv_icmp_eq (tgt := 19) hx hb dX0_isEnter_2 (by decide) (fun c_2 => ?_) (fun c_2 => ?_)
  · refine lv_iconst (v := 0) hx hb dX0_isEnter_19 (by decide) ?_
    exact gx_zret (wf := gw0_ cI cZ h q) (u1 := u) hx hb hr hlocks hsz hK hAe G dX0_isEnter_20 rfl (congrArg (fun z => (z, u)) (by unfold pd_isEnter; rw [if_pos c_2]))
  · refine lv_aload_n hx hb dX0_isEnter_5 rfl (lv_at hl 0 rfl) ?_
    refine gg0_get (v := .ref (q 5)) hx hb hts hin hown hK G 5 (by decide) (index := 28) (by decide +kernel) rfl dX0_isEnter_6 ?_
    refine lv_iload_n hx hb dX0_isEnter_9 rfl (lv_at hl 1 rfl) ?_
    refine gg0_ld5 hx hb hK G (i := p0) (hb0.resolve_left c_2) dX0_isEnter_10 ?_
    refine lv_iconst (v := 1) hx hb dX0_isEnter_11 (by decide) ?_
    refine lv_icmp_ne (tgt := 19) hx hb dX0_isEnter_12 (by decide) (fun c_12 => ?_) (fun c_12 => ?_)
    · refine lv_iconst (v := 0) hx hb dX0_isEnter_19 (by decide) ?_
      exact gx_zret (wf := gw0_ cI cZ h q) (u1 := u) hx hb hr hlocks hsz hK hAe G dX0_isEnter_20 rfl (congrArg (fun z => (z, u)) (by unfold pd_isEnter; rw [if_neg c_2, if_neg c_12]))
    · refine lv_iconst (v := 1) hx hb dX0_isEnter_15 (by decide) ?_
      refine lv_goto (tgt := 20) hx hb dX0_isEnter_16 (by decide) ?_
      exact gx_zret (wf := gw0_ cI cZ h q) (u1 := u) hx hb hr hlocks hsz hK hAe G dX0_isEnter_20 rfl (congrArg (fun z => (z, u)) (by unfold pd_isEnter; rw [if_neg c_2, if_pos c_12]))
theorem hd_X0_isEnter : yX0_isEnter.cls = RX0 ∧ yX0_isEnter.cls ≠ "java/lang/invoke/MethodHandle" ∧ yX0_isEnter.cls ≠ "java/lang/invoke/VarHandle" ∧ (parseMethodDescriptor yX0_isEnter.desc).map (fun d => d.parameters.length) = some 1 := by decide +kernel
def pd_giveBack (u : st_T) (p0 : Int32) : Int32 × st_T :=
  ((st_sa u 14 (ix (pd_leastHandle u (pj_floorMod_7cf53 (u.2 6 (ix p0)) 5))) ((u.2 14 (ix (pd_leastHandle u (pj_floorMod_7cf53 (u.2 6 (ix p0)) 5)))) - 1)).2 14 (ix (pd_leastHandle u (pj_floorMod_7cf53 (u.2 6 (ix p0)) 5))), st_sa u 14 (ix (pd_leastHandle u (pj_floorMod_7cf53 (u.2 6 (ix p0)) 5))) ((u.2 14 (ix (pd_leastHandle u (pj_floorMod_7cf53 (u.2 6 (ix p0)) 5)))) - 1))
set_option maxHeartbeats 4000000 in
set_option maxRecDepth 100000 in
theorem kd_giveBack (l : Launch) (dC : Nat → ClassId) (dI : Nat → Nat → Nat) (cI cZ : ClassId) (h : Nat) (q : Nat → Nat) (sz : Nat) (u : st_T) (p0 : Int32) (hp0 : vp_in p0 24) : gx_Mi l yX0_giveBack wsX0_giveBack { frames := 1, cells := 0, slots := 0, locals := 22 } [.ref h, .int p0] (dC, dI) cI cZ (gw0_ cI cZ h q) u sz (pd_giveBack u p0) := by
  refine gx_met (cc := cX0_giveBack) (maxL := 3) (ret := (some .int)) (by decide +kernel) rfl (Nat.le_of_ble_eq_true rfl) (fun p e s m args below meth c A ls hsz hx hb hr hlocks hts hown hml hK hAe hA G hl => ?_)
  have hown : s.vm.findClass RX0 = some m.cls := hown
  have hin : ∀ w ∈ wsX00, w ∈ wsX0_giveBack := gx_in
  have hl : lv_has ls 3 [(0, .ref h), (1, .int p0)] := hl
  refine lv_aload_n hx hb dX0_giveBack_0 rfl (lv_at hl 0 rfl) ?_
  refine lv_aload_n hx hb dX0_giveBack_1 rfl (lv_at hl 0 rfl) ?_
  refine gg0_get (v := .ref (q 6)) hx hb hts hin hown hK G 6 (by decide) (index := 31) (by decide +kernel) rfl dX0_giveBack_2 ?_
  refine lv_iload_n hx hb dX0_giveBack_5 rfl (lv_at hl 1 rfl) ?_
  refine gg0_ld6 hx hb hK G (i := p0) hp0 dX0_giveBack_6 ?_
  refine lv_iconst (v := 5) hx hb dX0_giveBack_7 (by decide) ?_
  refine gx_calls (f := pj_floorMod_7cf53 (u.2 6 (ix p0)) 5) (As := [.int (u.2 6 (ix p0)), .int 5]) (rest := [.ref h]) 2 hx hb hml hown hts (kj_floorMod_7cf53 l (u.2 6 (ix p0)) 5 (by decide)) gX0_giveBack_J9_floorMod_7cf53 rfl rfl rfl hd_J9_floorMod_7cf53 ⟨Nat.le_of_ble_eq_true rfl, Nat.le_of_ble_eq_true rfl⟩ rfl hl.1 rfl (Nat.le_of_ble_eq_true rfl) dX0_giveBack_8 (Nat.zero_le _) (Nat.zero_le _) ?_
  refine gx_callr (wf := gw0_ cI cZ h q) (u := u) (f := pd_leastHandle u (pj_floorMod_7cf53 (u.2 6 (ix p0)) 5)) (As := [.int (pj_floorMod_7cf53 (u.2 6 (ix p0)) 5)]) (rest := []) 1 hx hb hml hown hts hK hA G rfl rfl (kd_leastHandle l dC dI cI cZ h q _ u (pj_floorMod_7cf53 (u.2 6 (ix p0)) 5) (fm_in5 _)) gX0_giveBack_X0_leastHandle rfl rfl rfl hd_X0_leastHandle ⟨Nat.le_of_ble_eq_true rfl, Nat.le_of_ble_eq_true rfl⟩ rfl hl.1 rfl (Nat.le_of_ble_eq_true rfl) dX0_giveBack_11 (Nat.zero_le _) (Nat.zero_le _) (fun H locs G => ?_)
  refine lv_istore_n (lv' := [(2, .int (pd_leastHandle u (pj_floorMod_7cf53 (u.2 6 (ix p0)) 5))), (0, .ref h), (1, .int p0)]) hx hb dX0_giveBack_14 rfl hl (by decide) rfl (fun ls hl => ?_)
  refine lv_aload_n hx hb dX0_giveBack_15 rfl (lv_at hl 1 rfl) ?_
  refine gg0_get (v := .ref (q 14)) hx hb hts hin hown hK G 14 (by decide) (index := 55) (by decide +kernel) rfl dX0_giveBack_16 ?_
  refine lv_iload_n hx hb dX0_giveBack_19 rfl (lv_at hl 0 rfl) ?_
  refine lv_dup2_11 hx hb dX0_giveBack_20 rfl rfl ?_
  refine gg0_ld14 hx hb hK G (i := pd_leastHandle u (pj_floorMod_7cf53 (u.2 6 (ix p0)) 5)) (least_in (fm_in5 _)) dX0_giveBack_21 ?_
  refine lv_iconst (v := 1) hx hb dX0_giveBack_22 (by decide) ?_
  refine lv_isub hx hb dX0_giveBack_23 ?_
  refine gg0_st14 hx hb hK G (i := pd_leastHandle u (pj_floorMod_7cf53 (u.2 6 (ix p0)) 5)) (x := (u.2 14 (ix (pd_leastHandle u (pj_floorMod_7cf53 (u.2 6 (ix p0)) 5)))) - 1) (least_in (fm_in5 _)) dX0_giveBack_24 (fun H locs G => ?_)
  refine lv_aload_n hx hb dX0_giveBack_25 rfl (lv_at hl 1 rfl) ?_
  refine gg0_get (v := .ref (q 14)) hx hb hts hin hown hK G 14 (by decide) (index := 55) (by decide +kernel) rfl dX0_giveBack_26 ?_
  refine lv_iload_n hx hb dX0_giveBack_29 rfl (lv_at hl 0 rfl) ?_
  refine gg0_ld14 hx hb hK G (i := pd_leastHandle u (pj_floorMod_7cf53 (u.2 6 (ix p0)) 5)) (least_in (fm_in5 _)) dX0_giveBack_30 ?_
  exact gx_iret (wf := gw0_ cI cZ h q) (u1 := st_sa u 14 (ix (pd_leastHandle u (pj_floorMod_7cf53 (u.2 6 (ix p0)) 5))) ((u.2 14 (ix (pd_leastHandle u (pj_floorMod_7cf53 (u.2 6 (ix p0)) 5)))) - 1)) hx hb hr hlocks hsz hK hAe G dX0_giveBack_31 (by unfold pd_giveBack; rfl)
theorem hd_X0_giveBack : yX0_giveBack.cls = RX0 ∧ yX0_giveBack.cls ≠ "java/lang/invoke/MethodHandle" ∧ yX0_giveBack.cls ≠ "java/lang/invoke/VarHandle" ∧ (parseMethodDescriptor yX0_giveBack.desc).map (fun d => d.parameters.length) = some 1 := by decide +kernel
theorem eb_in {u : st_T} {b : Int32} (h : b = -1 ∨ vp_in b 24) (h2 : ¬ pd_isEnter u b = 0) : vp_in b 24 := by
  rcases h with rfl | h
  · exact absurd (by unfold pd_isEnter; rw [if_pos rfl]) h2
  · exact h
def pd_endBlock (u : st_T) (p0 : Int32) : Int32 × st_T :=
  if pd_isEnter u p0 = 0 then
    (0, u)
  else
    ((pd_giveBack u p0).1, (pd_giveBack u p0).2)
set_option maxHeartbeats 4000000 in
set_option maxRecDepth 100000 in
theorem kd_endBlock (l : Launch) (dC : Nat → ClassId) (dI : Nat → Nat → Nat) (cI cZ : ClassId) (h : Nat) (q : Nat → Nat) (sz : Nat) (u : st_T) (p0 : Int32) (hb0 : p0 = -1 ∨ vp_in p0 24) : gx_Mi l yX0_endBlock wsX0_endBlock { frames := 2, cells := 0, slots := 0, locals := 44 } [.ref h, .int p0] (dC, dI) cI cZ (gw0_ cI cZ h q) u sz (pd_endBlock u p0) := by
  refine gx_met (cc := cX0_endBlock) (maxL := 2) (ret := (some .int)) (by decide +kernel) rfl (Nat.le_of_ble_eq_true rfl) (fun p e s m args below meth c A ls hsz hx hb hr hlocks hts hown hml hK hAe hA G hl => ?_)
  have hown : s.vm.findClass RX0 = some m.cls := hown
  have hin : ∀ w ∈ wsX00, w ∈ wsX0_endBlock := gx_in
  have hl : lv_has ls 2 [(0, .ref h), (1, .int p0)] := hl
  refine lv_aload_n hx hb dX0_endBlock_0 rfl (lv_at hl 0 rfl) ?_
  refine lv_iload_n hx hb dX0_endBlock_1 rfl (lv_at hl 1 rfl) ?_
  refine gx_callr (wf := gw0_ cI cZ h q) (u := u) (f := pd_isEnter u p0) (As := [.int p0]) (rest := []) 1 hx hb hml hown hts hK hA G rfl rfl (kd_isEnter l dC dI cI cZ h q _ u p0 hb0) gX0_endBlock_X0_isEnter rfl rfl rfl hd_X0_isEnter ⟨Nat.le_of_ble_eq_true rfl, Nat.le_of_ble_eq_true rfl⟩ rfl hl.1 rfl (Nat.le_of_ble_eq_true rfl) dX0_endBlock_2 (Nat.zero_le _) (Nat.zero_le _) (fun H locs G => ?_)
  refine lv_if_eq (tgt := 16) hx hb dX0_endBlock_5 (by decide) (fun c_5 => ?_) (fun c_5 => ?_)
  · refine lv_iconst (v := 0) hx hb dX0_endBlock_16 (by decide) ?_
    exact gx_iret (wf := gw0_ cI cZ h q) (u1 := u) hx hb hr hlocks hsz hK hAe G dX0_endBlock_17 (by unfold pd_endBlock; rw [if_pos c_5])
  · refine lv_aload_n hx hb dX0_endBlock_8 rfl (lv_at hl 0 rfl) ?_
    refine lv_iload_n hx hb dX0_endBlock_9 rfl (lv_at hl 1 rfl) ?_
    refine gx_calli (wf := gw0_ cI cZ h q) (u := u) (f := pd_giveBack u p0) (As := [.int p0]) (rest := []) 1 hx hb hml hown hts hK hA G rfl rfl (kd_giveBack l dC dI cI cZ h q _ u p0 (eb_in hb0 c_5)) gX0_endBlock_X0_giveBack rfl rfl rfl hd_X0_giveBack ⟨Nat.le_of_ble_eq_true rfl, Nat.le_of_ble_eq_true rfl⟩ rfl hl.1 rfl (Nat.le_of_ble_eq_true rfl) dX0_endBlock_10 (Nat.zero_le _) (Nat.zero_le _) (fun H locs G => ?_)
    refine lv_goto (tgt := 17) hx hb dX0_endBlock_13 (by decide) ?_
    exact gx_iret (wf := gw0_ cI cZ h q) (u1 := (pd_giveBack u p0).2) hx hb hr hlocks hsz hK hAe G dX0_endBlock_17 (by unfold pd_endBlock; rw [if_neg c_5])
theorem hd_X0_endBlock : yX0_endBlock.cls = RX0 ∧ yX0_endBlock.cls ≠ "java/lang/invoke/MethodHandle" ∧ yX0_endBlock.cls ≠ "java/lang/invoke/VarHandle" ∧ (parseMethodDescriptor yX0_endBlock.desc).map (fun d => d.parameters.length) = some 1 := by decide +kernel
def pd_enter (u : st_T) (p0 : Int32) : Int32 × st_T :=
  if u.2 0 (ix p0) = 0 then
    ((pd_raise u 1).1, (pd_raise u 1).2)
  else
    ((st_sa u 14 (ix (pd_leastHandle u p0)) ((u.2 14 (ix (pd_leastHandle u p0))) + 1)).2 14 (ix (pd_leastHandle u p0)), st_sa u 14 (ix (pd_leastHandle u p0)) ((u.2 14 (ix (pd_leastHandle u p0))) + 1))
set_option maxHeartbeats 4000000 in
set_option maxRecDepth 100000 in
theorem kd_enter (l : Launch) (dC : Nat → ClassId) (dI : Nat → Nat → Nat) (cI cZ : ClassId) (h : Nat) (q : Nat → Nat) (sz : Nat) (u : st_T) (p0 : Int32) (hp0 : vp_in p0 5) : gx_Mi l yX0_enter wsX0_enter { frames := 1, cells := 0, slots := 0, locals := 22 } [.ref h, .int p0] (dC, dI) cI cZ (gw0_ cI cZ h q) u sz (pd_enter u p0) := by
  refine gx_met (cc := cX0_enter) (maxL := 3) (ret := (some .int)) (by decide +kernel) rfl (Nat.le_of_ble_eq_true rfl) (fun p e s m args below meth c A ls hsz hx hb hr hlocks hts hown hml hK hAe hA G hl => ?_)
  have hown : s.vm.findClass RX0 = some m.cls := hown
  have hin : ∀ w ∈ wsX00, w ∈ wsX0_enter := gx_in
  have hl : lv_has ls 3 [(0, .ref h), (1, .int p0)] := hl
  refine lv_aload_n hx hb dX0_enter_0 rfl (lv_at hl 0 rfl) ?_
  refine gg0_get (v := .ref (q 0)) hx hb hts hin hown hK G 0 (by decide) (index := 9) (by decide +kernel) rfl dX0_enter_1 ?_
  refine lv_iload_n hx hb dX0_enter_4 rfl (lv_at hl 1 rfl) ?_
  refine gg0_ld0 hx hb hK G (i := p0) hp0 dX0_enter_5 ?_
  refine lv_if_ne (tgt := 15) hx hb dX0_enter_6 (by decide) (fun c_6 => ?_) (fun c_6 => ?_)
  · refine lv_aload_n hx hb dX0_enter_15 rfl (lv_at hl 0 rfl) ?_
    refine lv_iload_n hx hb dX0_enter_16 rfl (lv_at hl 1 rfl) ?_
    refine gx_callr (wf := gw0_ cI cZ h q) (u := u) (f := pd_leastHandle u p0) (As := [.int p0]) (rest := []) 1 hx hb hml hown hts hK hA G rfl rfl (kd_leastHandle l dC dI cI cZ h q _ u p0 hp0) gX0_enter_X0_leastHandle rfl rfl rfl hd_X0_leastHandle ⟨Nat.le_of_ble_eq_true rfl, Nat.le_of_ble_eq_true rfl⟩ rfl hl.1 rfl (Nat.le_of_ble_eq_true rfl) dX0_enter_17 (Nat.zero_le _) (Nat.zero_le _) (fun H locs G => ?_)
    refine lv_istore_n (lv' := [(2, .int (pd_leastHandle u p0)), (0, .ref h), (1, .int p0)]) hx hb dX0_enter_20 rfl hl (by decide) rfl (fun ls hl => ?_)
    refine lv_aload_n hx hb dX0_enter_21 rfl (lv_at hl 1 rfl) ?_
    refine gg0_get (v := .ref (q 14)) hx hb hts hin hown hK G 14 (by decide) (index := 55) (by decide +kernel) rfl dX0_enter_22 ?_
    refine lv_iload_n hx hb dX0_enter_25 rfl (lv_at hl 0 rfl) ?_
    refine lv_dup2_11 hx hb dX0_enter_26 rfl rfl ?_
    refine gg0_ld14 hx hb hK G (i := pd_leastHandle u p0) (least_in hp0) dX0_enter_27 ?_
    refine lv_iconst (v := 1) hx hb dX0_enter_28 (by decide) ?_
    refine lv_iadd hx hb dX0_enter_29 ?_
    refine gg0_st14 hx hb hK G (i := pd_leastHandle u p0) (x := (u.2 14 (ix (pd_leastHandle u p0))) + 1) (least_in hp0) dX0_enter_30 (fun H locs G => ?_)
    refine lv_aload_n hx hb dX0_enter_31 rfl (lv_at hl 1 rfl) ?_
    refine gg0_get (v := .ref (q 14)) hx hb hts hin hown hK G 14 (by decide) (index := 55) (by decide +kernel) rfl dX0_enter_32 ?_
    refine lv_iload_n hx hb dX0_enter_35 rfl (lv_at hl 0 rfl) ?_
    refine gg0_ld14 hx hb hK G (i := pd_leastHandle u p0) (least_in hp0) dX0_enter_36 ?_
    exact gx_iret (wf := gw0_ cI cZ h q) (u1 := st_sa u 14 (ix (pd_leastHandle u p0)) ((u.2 14 (ix (pd_leastHandle u p0))) + 1)) hx hb hr hlocks hsz hK hAe G dX0_enter_37 (by unfold pd_enter; rw [if_neg c_6])
  · refine lv_aload_n hx hb dX0_enter_9 rfl (lv_at hl 0 rfl) ?_
    refine lv_iconst (v := 1) hx hb dX0_enter_10 (by decide) ?_
    refine gx_calli (wf := gw0_ cI cZ h q) (u := u) (f := pd_raise u 1) (As := [.int 1]) (rest := []) 1 hx hb hml hown hts hK hA G rfl rfl (kd_raise l dC dI cI cZ h q _ u 1 ) gX0_enter_X0_raise rfl rfl rfl hd_X0_raise ⟨Nat.le_of_ble_eq_true rfl, Nat.le_of_ble_eq_true rfl⟩ rfl hl.1 rfl (Nat.le_of_ble_eq_true rfl) dX0_enter_11 (Nat.zero_le _) (Nat.zero_le _) (fun H locs G => ?_)
    exact gx_iret (wf := gw0_ cI cZ h q) (u1 := (pd_raise u 1).2) hx hb hr hlocks hsz hK hAe G dX0_enter_14 (by unfold pd_enter; rw [if_pos c_6])
theorem hd_X0_enter : yX0_enter.cls = RX0 ∧ yX0_enter.cls ≠ "java/lang/invoke/MethodHandle" ∧ yX0_enter.cls ≠ "java/lang/invoke/VarHandle" ∧ (parseMethodDescriptor yX0_enter.desc).map (fun d => d.parameters.length) = some 1 := by decide +kernel
def pd_notifyWaiting (u : st_T) (p0 : Int32) : Int32 × st_T :=
  if u.2 0 (ix p0) = 0 then
    ((pd_raise u 1).1, (pd_raise u 1).2)
  else
    if u.2 14 (ix (pd_leastHandle u p0)) = 0 then
      ((pd_raise u 2).1, (pd_raise u 2).2)
    else
      (0, u)
set_option maxHeartbeats 4000000 in
set_option maxRecDepth 100000 in
theorem kd_notifyWaiting (l : Launch) (dC : Nat → ClassId) (dI : Nat → Nat → Nat) (cI cZ : ClassId) (h : Nat) (q : Nat → Nat) (sz : Nat) (u : st_T) (p0 : Int32) (hp0 : vp_in p0 5) : gx_Mi l yX0_notifyWaiting wsX0_notifyWaiting { frames := 1, cells := 0, slots := 0, locals := 22 } [.ref h, .int p0] (dC, dI) cI cZ (gw0_ cI cZ h q) u sz (pd_notifyWaiting u p0) := by
  refine gx_met (cc := cX0_notifyWaiting) (maxL := 2) (ret := (some .int)) (by decide +kernel) rfl (Nat.le_of_ble_eq_true rfl) (fun p e s m args below meth c A ls hsz hx hb hr hlocks hts hown hml hK hAe hA G hl => ?_)
  have hown : s.vm.findClass RX0 = some m.cls := hown
  have hin : ∀ w ∈ wsX00, w ∈ wsX0_notifyWaiting := gx_in
  have hl : lv_has ls 2 [(0, .ref h), (1, .int p0)] := hl
  refine lv_aload_n hx hb dX0_notifyWaiting_0 rfl (lv_at hl 0 rfl) ?_
  refine gg0_get (v := .ref (q 0)) hx hb hts hin hown hK G 0 (by decide) (index := 9) (by decide +kernel) rfl dX0_notifyWaiting_1 ?_
  refine lv_iload_n hx hb dX0_notifyWaiting_4 rfl (lv_at hl 1 rfl) ?_
  refine gg0_ld0 hx hb hK G (i := p0) hp0 dX0_notifyWaiting_5 ?_
  refine lv_if_ne (tgt := 15) hx hb dX0_notifyWaiting_6 (by decide) (fun c_6 => ?_) (fun c_6 => ?_)
  · refine lv_aload_n hx hb dX0_notifyWaiting_15 rfl (lv_at hl 0 rfl) ?_
    refine gg0_get (v := .ref (q 14)) hx hb hts hin hown hK G 14 (by decide) (index := 55) (by decide +kernel) rfl dX0_notifyWaiting_16 ?_
    refine lv_aload_n hx hb dX0_notifyWaiting_19 rfl (lv_at hl 0 rfl) ?_
    refine lv_iload_n hx hb dX0_notifyWaiting_20 rfl (lv_at hl 1 rfl) ?_
    refine gx_callr (wf := gw0_ cI cZ h q) (u := u) (f := pd_leastHandle u p0) (As := [.int p0]) (rest := [.ref (q 14)]) 1 hx hb hml hown hts hK hA G rfl rfl (kd_leastHandle l dC dI cI cZ h q _ u p0 hp0) gX0_notifyWaiting_X0_leastHandle rfl rfl rfl hd_X0_leastHandle ⟨Nat.le_of_ble_eq_true rfl, Nat.le_of_ble_eq_true rfl⟩ rfl hl.1 rfl (Nat.le_of_ble_eq_true rfl) dX0_notifyWaiting_21 (Nat.zero_le _) (Nat.zero_le _) (fun H locs G => ?_)
    refine gg0_ld14 hx hb hK G (i := pd_leastHandle u p0) (least_in hp0) dX0_notifyWaiting_24 ?_
    refine lv_if_ne (tgt := 34) hx hb dX0_notifyWaiting_25 (by decide) (fun c_25 => ?_) (fun c_25 => ?_)
    · refine lv_iconst (v := 0) hx hb dX0_notifyWaiting_34 (by decide) ?_
      exact gx_iret (wf := gw0_ cI cZ h q) (u1 := u) hx hb hr hlocks hsz hK hAe G dX0_notifyWaiting_35 (by unfold pd_notifyWaiting; rw [if_neg c_6, if_neg c_25])
    · refine lv_aload_n hx hb dX0_notifyWaiting_28 rfl (lv_at hl 0 rfl) ?_
      refine lv_iconst (v := 2) hx hb dX0_notifyWaiting_29 (by decide) ?_
      refine gx_calli (wf := gw0_ cI cZ h q) (u := u) (f := pd_raise u 2) (As := [.int 2]) (rest := []) 1 hx hb hml hown hts hK hA G rfl rfl (kd_raise l dC dI cI cZ h q _ u 2 ) gX0_notifyWaiting_X0_raise rfl rfl rfl hd_X0_raise ⟨Nat.le_of_ble_eq_true rfl, Nat.le_of_ble_eq_true rfl⟩ rfl hl.1 rfl (Nat.le_of_ble_eq_true rfl) dX0_notifyWaiting_30 (Nat.zero_le _) (Nat.zero_le _) (fun H locs G => ?_)
      exact gx_iret (wf := gw0_ cI cZ h q) (u1 := (pd_raise u 2).2) hx hb hr hlocks hsz hK hAe G dX0_notifyWaiting_33 (by unfold pd_notifyWaiting; rw [if_neg c_6, if_pos c_25])
  · refine lv_aload_n hx hb dX0_notifyWaiting_9 rfl (lv_at hl 0 rfl) ?_
    refine lv_iconst (v := 1) hx hb dX0_notifyWaiting_10 (by decide) ?_
    refine gx_calli (wf := gw0_ cI cZ h q) (u := u) (f := pd_raise u 1) (As := [.int 1]) (rest := []) 1 hx hb hml hown hts hK hA G rfl rfl (kd_raise l dC dI cI cZ h q _ u 1 ) gX0_notifyWaiting_X0_raise rfl rfl rfl hd_X0_raise ⟨Nat.le_of_ble_eq_true rfl, Nat.le_of_ble_eq_true rfl⟩ rfl hl.1 rfl (Nat.le_of_ble_eq_true rfl) dX0_notifyWaiting_11 (Nat.zero_le _) (Nat.zero_le _) (fun H locs G => ?_)
    exact gx_iret (wf := gw0_ cI cZ h q) (u1 := (pd_raise u 1).2) hx hb hr hlocks hsz hK hAe G dX0_notifyWaiting_14 (by unfold pd_notifyWaiting; rw [if_pos c_6])
theorem hd_X0_notifyWaiting : yX0_notifyWaiting.cls = RX0 ∧ yX0_notifyWaiting.cls ≠ "java/lang/invoke/MethodHandle" ∧ yX0_notifyWaiting.cls ≠ "java/lang/invoke/VarHandle" ∧ (parseMethodDescriptor yX0_notifyWaiting.desc).map (fun d => d.parameters.length) = some 1 := by decide +kernel
def pd_holdsLock (u : st_T) (p0 : Int32) : Int32 × st_T :=
  if u.2 0 (ix p0) = 0 then
    ((pd_raise u 1).1, (pd_raise u 1).2)
  else
    if u.2 14 (ix (pd_leastHandle u p0)) ≤ 0 then
      (pd_asNumber 0, u)
    else
      (pd_asNumber 1, u)
set_option maxHeartbeats 4000000 in
set_option maxRecDepth 100000 in
theorem kd_holdsLock (l : Launch) (dC : Nat → ClassId) (dI : Nat → Nat → Nat) (cI cZ : ClassId) (h : Nat) (q : Nat → Nat) (sz : Nat) (u : st_T) (p0 : Int32) (hp0 : vp_in p0 5) : gx_Mi l yX0_holdsLock wsX0_holdsLock { frames := 1, cells := 0, slots := 0, locals := 22 } [.ref h, .int p0] (dC, dI) cI cZ (gw0_ cI cZ h q) u sz (pd_holdsLock u p0) := by
  refine gx_met (cc := cX0_holdsLock) (maxL := 2) (ret := (some .int)) (by decide +kernel) rfl (Nat.le_of_ble_eq_true rfl) (fun p e s m args below meth c A ls hsz hx hb hr hlocks hts hown hml hK hAe hA G hl => ?_)
  have hown : s.vm.findClass RX0 = some m.cls := hown
  have hin : ∀ w ∈ wsX00, w ∈ wsX0_holdsLock := gx_in
  have hl : lv_has ls 2 [(0, .ref h), (1, .int p0)] := hl
  refine lv_aload_n hx hb dX0_holdsLock_0 rfl (lv_at hl 0 rfl) ?_
  refine gg0_get (v := .ref (q 0)) hx hb hts hin hown hK G 0 (by decide) (index := 9) (by decide +kernel) rfl dX0_holdsLock_1 ?_
  refine lv_iload_n hx hb dX0_holdsLock_4 rfl (lv_at hl 1 rfl) ?_
  refine gg0_ld0 hx hb hK G (i := p0) hp0 dX0_holdsLock_5 ?_
  refine lv_if_ne (tgt := 15) hx hb dX0_holdsLock_6 (by decide) (fun c_6 => ?_) (fun c_6 => ?_)
  · refine lv_aload_n hx hb dX0_holdsLock_15 rfl (lv_at hl 0 rfl) ?_
    refine gg0_get (v := .ref (q 14)) hx hb hts hin hown hK G 14 (by decide) (index := 55) (by decide +kernel) rfl dX0_holdsLock_16 ?_
    refine lv_aload_n hx hb dX0_holdsLock_19 rfl (lv_at hl 0 rfl) ?_
    refine lv_iload_n hx hb dX0_holdsLock_20 rfl (lv_at hl 1 rfl) ?_
    refine gx_callr (wf := gw0_ cI cZ h q) (u := u) (f := pd_leastHandle u p0) (As := [.int p0]) (rest := [.ref (q 14)]) 1 hx hb hml hown hts hK hA G rfl rfl (kd_leastHandle l dC dI cI cZ h q _ u p0 hp0) gX0_holdsLock_X0_leastHandle rfl rfl rfl hd_X0_leastHandle ⟨Nat.le_of_ble_eq_true rfl, Nat.le_of_ble_eq_true rfl⟩ rfl hl.1 rfl (Nat.le_of_ble_eq_true rfl) dX0_holdsLock_21 (Nat.zero_le _) (Nat.zero_le _) (fun H locs G => ?_)
    refine gg0_ld14 hx hb hK G (i := pd_leastHandle u p0) (least_in hp0) dX0_holdsLock_24 ?_
    refine lv_if_le (tgt := 32) hx hb dX0_holdsLock_25 (by decide) (fun c_25 => ?_) (fun c_25 => ?_)
    · refine lv_iconst (v := 0) hx hb dX0_holdsLock_32 (by decide) ?_
      refine gx_calls (f := pd_asNumber 0) (As := [.int 0]) (rest := []) 1 hx hb hml hown hts (kd_asNumber l 0 ) gX0_holdsLock_X0_asNumber rfl rfl rfl hd_X0_asNumber ⟨Nat.le_of_ble_eq_true rfl, Nat.le_of_ble_eq_true rfl⟩ rfl hl.1 rfl (Nat.le_of_ble_eq_true rfl) dX0_holdsLock_33 (Nat.zero_le _) (Nat.zero_le _) ?_
      exact gx_iret (wf := gw0_ cI cZ h q) (u1 := u) hx hb hr hlocks hsz hK hAe G dX0_holdsLock_36 (by unfold pd_holdsLock; rw [if_neg c_6, if_pos c_25])
    · refine lv_iconst (v := 1) hx hb dX0_holdsLock_28 (by decide) ?_
      refine lv_goto (tgt := 33) hx hb dX0_holdsLock_29 (by decide) ?_
      refine gx_calls (f := pd_asNumber 1) (As := [.int 1]) (rest := []) 1 hx hb hml hown hts (kd_asNumber l 1 ) gX0_holdsLock_X0_asNumber rfl rfl rfl hd_X0_asNumber ⟨Nat.le_of_ble_eq_true rfl, Nat.le_of_ble_eq_true rfl⟩ rfl hl.1 rfl (Nat.le_of_ble_eq_true rfl) dX0_holdsLock_33 (Nat.zero_le _) (Nat.zero_le _) ?_
      exact gx_iret (wf := gw0_ cI cZ h q) (u1 := u) hx hb hr hlocks hsz hK hAe G dX0_holdsLock_36 (by unfold pd_holdsLock; rw [if_neg c_6, if_neg c_25])
  · refine lv_aload_n hx hb dX0_holdsLock_9 rfl (lv_at hl 0 rfl) ?_
    refine lv_iconst (v := 1) hx hb dX0_holdsLock_10 (by decide) ?_
    refine gx_calli (wf := gw0_ cI cZ h q) (u := u) (f := pd_raise u 1) (As := [.int 1]) (rest := []) 1 hx hb hml hown hts hK hA G rfl rfl (kd_raise l dC dI cI cZ h q _ u 1 ) gX0_holdsLock_X0_raise rfl rfl rfl hd_X0_raise ⟨Nat.le_of_ble_eq_true rfl, Nat.le_of_ble_eq_true rfl⟩ rfl hl.1 rfl (Nat.le_of_ble_eq_true rfl) dX0_holdsLock_11 (Nat.zero_le _) (Nat.zero_le _) (fun H locs G => ?_)
    exact gx_iret (wf := gw0_ cI cZ h q) (u1 := (pd_raise u 1).2) hx hb hr hlocks hsz hK hAe G dX0_holdsLock_14 (by unfold pd_holdsLock; rw [if_pos c_6])
theorem hd_X0_holdsLock : yX0_holdsLock.cls = RX0 ∧ yX0_holdsLock.cls ≠ "java/lang/invoke/MethodHandle" ∧ yX0_holdsLock.cls ≠ "java/lang/invoke/VarHandle" ∧ (parseMethodDescriptor yX0_holdsLock.desc).map (fun d => d.parameters.length) = some 1 := by decide +kernel
def pd_takeFlag (u : st_T) : Int32 × st_T :=
  (u.1 4, st_si u 4 0)
set_option maxHeartbeats 4000000 in
set_option maxRecDepth 100000 in
theorem kd_takeFlag (l : Launch) (dC : Nat → ClassId) (dI : Nat → Nat → Nat) (cI cZ : ClassId) (h : Nat) (q : Nat → Nat) (sz : Nat) (u : st_T) (hfl : u.1 4 = 0 ∨ u.1 4 = 1) : gx_Mi l yX0_takeFlag wsX0_takeFlag { frames := 0, cells := 0, slots := 0, locals := 0 } [.ref h] (dC, dI) cI cZ (gw0_ cI cZ h q) u sz (pd_takeFlag u) := by
  refine gx_met (cc := cX0_takeFlag) (maxL := 2) (ret := (some .boolean)) (by decide +kernel) rfl (Nat.le_of_ble_eq_true rfl) (fun p e s m args below meth c A ls hsz hx hb hr hlocks hts hown hml hK hAe hA G hl => ?_)
  have hown : s.vm.findClass RX0 = some m.cls := hown
  have hin : ∀ w ∈ wsX00, w ∈ wsX0_takeFlag := gx_in
  have hl : lv_has ls 2 [(0, .ref h)] := hl
  refine lv_aload_n hx hb dX0_takeFlag_0 rfl (lv_at hl 0 rfl) ?_
  refine gg0_get (v := .int (u.1 4)) hx hb hts hin hown hK G 4 (by decide) (index := 24) (by decide +kernel) rfl dX0_takeFlag_1 ?_
  refine lv_istore_n (lv' := [(1, .int (u.1 4)), (0, .ref h)]) hx hb dX0_takeFlag_4 rfl hl (by decide) rfl (fun ls hl => ?_)
  refine lv_aload_n hx hb dX0_takeFlag_5 rfl (lv_at hl 1 rfl) ?_
  refine lv_iconst (v := 0) hx hb dX0_takeFlag_6 (by decide) ?_
  refine gg0_put4 (v := 0) hx hb hts hin hown hK G (index := 24) (by decide +kernel) rfl rfl dX0_takeFlag_7 (fun H locs G => ?_)
  refine lv_iload_n hx hb dX0_takeFlag_10 rfl (lv_at hl 0 rfl) ?_
  exact gx_zret (wf := gw0_ cI cZ h q) (u1 := st_si u 4 0) hx hb hr hlocks hsz hK hAe G dX0_takeFlag_11 (nz_flag hfl) (by unfold pd_takeFlag; rfl)
theorem hd_X0_takeFlag : yX0_takeFlag.cls = RX0 ∧ yX0_takeFlag.cls ≠ "java/lang/invoke/MethodHandle" ∧ yX0_takeFlag.cls ≠ "java/lang/invoke/VarHandle" ∧ (parseMethodDescriptor yX0_takeFlag.desc).map (fun d => d.parameters.length) = some 0 := by decide +kernel
def pd_awaitNotice (u : st_T) (p0 : Int32) : Int32 × st_T :=
  if p0 = (-2147483648) then
    if u.2 0 (ix 0) = 0 then
      ((pd_raise u 1).1, (pd_raise u 1).2)
    else
      ((pd_raise u 3).1, (pd_raise u 3).2)
  else
    if u.2 0 (ix ((if 0 ≤ p0 then p0 else 0 - p0) - (if 0 ≤ p0 then p0 else 0 - p0) / 5 * 5)) = 0 then
      ((pd_raise u 1).1, (pd_raise u 1).2)
    else
      if 0 ≤ p0 then
        if u.2 14 (ix (pd_leastHandle u ((if 0 ≤ p0 then p0 else 0 - p0) - (if 0 ≤ p0 then p0 else 0 - p0) / 5 * 5))) = 0 then
          ((pd_raise u 2).1, (pd_raise u 2).2)
        else
          if (pd_takeFlag u).1 = 0 then
            ((-2), (pd_takeFlag u).2)
          else
            ((pd_raise ((pd_takeFlag u).2) 4).1, (pd_raise ((pd_takeFlag u).2) 4).2)
      else
        ((pd_raise u 3).1, (pd_raise u 3).2)
set_option maxHeartbeats 4000000 in
set_option maxRecDepth 100000 in
theorem kd_awaitNotice (l : Launch) (dC : Nat → ClassId) (dI : Nat → Nat → Nat) (cI cZ : ClassId) (h : Nat) (q : Nat → Nat) (sz : Nat) (u : st_T) (p0 : Int32) (hfl : u.1 4 = 0 ∨ u.1 4 = 1) : gx_Mi l yX0_awaitNotice wsX0_awaitNotice { frames := 1, cells := 0, slots := 0, locals := 22 } [.ref h, .int p0] (dC, dI) cI cZ (gw0_ cI cZ h q) u sz (pd_awaitNotice u p0) := by
  refine gx_met (cc := cX0_awaitNotice) (maxL := 3) (ret := (some .int)) (by decide +kernel) rfl (Nat.le_of_ble_eq_true rfl) (fun p e s m args below meth c A ls hsz hx hb hr hlocks hts hown hml hK hAe hA G hl => ?_)
  have hown : s.vm.findClass RX0 = some m.cls := hown
  have hin : ∀ w ∈ wsX00, w ∈ wsX0_awaitNotice := gx_in
  have hl : lv_has ls 3 [(0, .ref h), (1, .int p0)] := hl
  refine lv_iload_n hx hb dX0_awaitNotice_0 rfl (lv_at hl 1 rfl) ?_
  refine lv_ldc (v := (-2147483648)) hx hb hown (hts (.constant RX0 141 (-2147483648)) (by decide +kernel)) dX0_awaitNotice_1 ?_
  refine lv_icmp_ne (tgt := 10) hx hb dX0_awaitNotice_3 (by decide) (fun c_3 => ?_) (fun c_3 => ?_)
  · refine lv_iload_n hx hb dX0_awaitNotice_10 rfl (lv_at hl 1 rfl) ?_
    refine va_mabs hx hb (by rw [hml]; exact hl.1.symm) hown (hts (.methodLink RX0 142 Lib.Math.abs.name) (by decide +kernel)) (hts (.static Lib.Math.abs.name) (by decide +kernel)) (hts (.initialized "java/lang/Math") (by decide +kernel)) (hts (.code Lib.Math.abs.name Lib.Math.abs.code 1 (some .int)) (by decide +kernel)) (Nat.le_of_ble_eq_true rfl) (Nat.le_of_ble_eq_true rfl) (Nat.zero_le _) (Nat.zero_le _) dX0_awaitNotice_11 ?_
    refine lv_iconst (v := 5) hx hb dX0_awaitNotice_14 (by decide) ?_
    refine lv_irem hx hb dX0_awaitNotice_15 (by decide) ?_
    refine lv_istore_n (lv' := [(2, .int ((if 0 ≤ p0 then p0 else 0 - p0) - (if 0 ≤ p0 then p0 else 0 - p0) / 5 * 5)), (0, .ref h), (1, .int p0)]) hx hb dX0_awaitNotice_16 rfl hl (by decide) rfl (fun ls hl => ?_)
    refine lv_aload_n hx hb dX0_awaitNotice_17 rfl (lv_at hl 1 rfl) ?_
    refine gg0_get (v := .ref (q 0)) hx hb hts hin hown hK G 0 (by decide) (index := 9) (by decide +kernel) rfl dX0_awaitNotice_18 ?_
    refine lv_iload_n hx hb dX0_awaitNotice_21 rfl (lv_at hl 0 rfl) ?_
    refine gg0_ld0 hx hb hK G (i := (if 0 ≤ p0 then p0 else 0 - p0) - (if 0 ≤ p0 then p0 else 0 - p0) / 5 * 5) (wt_in c_3) dX0_awaitNotice_22 ?_
    refine lv_if_ne (tgt := 32) hx hb dX0_awaitNotice_23 (by decide) (fun c_23 => ?_) (fun c_23 => ?_)
    · refine lv_iload_n hx hb dX0_awaitNotice_32 rfl (lv_at hl 2 rfl) ?_
      refine lv_if_ge (tgt := 42) hx hb dX0_awaitNotice_33 (by decide) (fun c_33 => ?_) (fun c_33 => ?_)
      · refine lv_aload_n hx hb dX0_awaitNotice_42 rfl (lv_at hl 1 rfl) ?_
        refine gg0_get (v := .ref (q 14)) hx hb hts hin hown hK G 14 (by decide) (index := 55) (by decide +kernel) rfl dX0_awaitNotice_43 ?_
        refine lv_aload_n hx hb dX0_awaitNotice_46 rfl (lv_at hl 1 rfl) ?_
        refine lv_iload_n hx hb dX0_awaitNotice_47 rfl (lv_at hl 0 rfl) ?_
        refine gx_callr (wf := gw0_ cI cZ h q) (u := u) (f := pd_leastHandle u ((if 0 ≤ p0 then p0 else 0 - p0) - (if 0 ≤ p0 then p0 else 0 - p0) / 5 * 5)) (As := [.int ((if 0 ≤ p0 then p0 else 0 - p0) - (if 0 ≤ p0 then p0 else 0 - p0) / 5 * 5)]) (rest := [.ref (q 14)]) 1 hx hb hml hown hts hK hA G rfl rfl (kd_leastHandle l dC dI cI cZ h q _ u ((if 0 ≤ p0 then p0 else 0 - p0) - (if 0 ≤ p0 then p0 else 0 - p0) / 5 * 5) (wt_in c_3)) gX0_awaitNotice_X0_leastHandle rfl rfl rfl hd_X0_leastHandle ⟨Nat.le_of_ble_eq_true rfl, Nat.le_of_ble_eq_true rfl⟩ rfl hl.1 rfl (Nat.le_of_ble_eq_true rfl) dX0_awaitNotice_48 (Nat.zero_le _) (Nat.zero_le _) (fun H locs G => ?_)
        refine gg0_ld14 hx hb hK G (i := pd_leastHandle u ((if 0 ≤ p0 then p0 else 0 - p0) - (if 0 ≤ p0 then p0 else 0 - p0) / 5 * 5)) (least_in (wt_in c_3)) dX0_awaitNotice_51 ?_
        refine lv_if_ne (tgt := 61) hx hb dX0_awaitNotice_52 (by decide) (fun c_52 => ?_) (fun c_52 => ?_)
        · refine lv_aload_n hx hb dX0_awaitNotice_61 rfl (lv_at hl 1 rfl) ?_
          refine gx_calli (wf := gw0_ cI cZ h q) (u := u) (f := pd_takeFlag u) (As := []) (rest := []) 0 hx hb hml hown hts hK hA G rfl rfl (kd_takeFlag l dC dI cI cZ h q _ u  hfl) gX0_awaitNotice_X0_takeFlag rfl rfl rfl hd_X0_takeFlag ⟨Nat.le_of_ble_eq_true rfl, Nat.le_of_ble_eq_true rfl⟩ rfl hl.1 rfl (Nat.le_of_ble_eq_true rfl) dX0_awaitNotice_62 (Nat.zero_le _) (Nat.zero_le _) (fun H locs G => ?_)
          refine lv_if_eq (tgt := 76) hx hb dX0_awaitNotice_65 (by decide) (fun c_65 => ?_) (fun c_65 => ?_)
          · refine lv_bipush (v := (-2)) hx hb dX0_awaitNotice_76 (by decide) ?_
            exact gx_iret (wf := gw0_ cI cZ h q) (u1 := (pd_takeFlag u).2) hx hb hr hlocks hsz hK hAe G dX0_awaitNotice_78 (by unfold pd_awaitNotice; rw [if_neg c_3, if_neg c_23, if_pos c_33, if_neg c_52, if_pos c_65])
          · refine lv_aload_n hx hb dX0_awaitNotice_68 rfl (lv_at hl 1 rfl) ?_
            refine lv_iconst (v := 4) hx hb dX0_awaitNotice_69 (by decide) ?_
            refine gx_calli (wf := gw0_ cI cZ h q) (u := (pd_takeFlag u).2) (f := pd_raise ((pd_takeFlag u).2) 4) (As := [.int 4]) (rest := []) 1 hx hb hml hown hts hK hA G rfl rfl (kd_raise l dC dI cI cZ h q _ ((pd_takeFlag u).2) 4 ) gX0_awaitNotice_X0_raise rfl rfl rfl hd_X0_raise ⟨Nat.le_of_ble_eq_true rfl, Nat.le_of_ble_eq_true rfl⟩ rfl hl.1 rfl (Nat.le_of_ble_eq_true rfl) dX0_awaitNotice_70 (Nat.zero_le _) (Nat.zero_le _) (fun H locs G => ?_)
            refine lv_goto (tgt := 78) hx hb dX0_awaitNotice_73 (by decide) ?_
            exact gx_iret (wf := gw0_ cI cZ h q) (u1 := (pd_raise ((pd_takeFlag u).2) 4).2) hx hb hr hlocks hsz hK hAe G dX0_awaitNotice_78 (by unfold pd_awaitNotice; rw [if_neg c_3, if_neg c_23, if_pos c_33, if_neg c_52, if_neg c_65])
        · refine lv_aload_n hx hb dX0_awaitNotice_55 rfl (lv_at hl 1 rfl) ?_
          refine lv_iconst (v := 2) hx hb dX0_awaitNotice_56 (by decide) ?_
          refine gx_calli (wf := gw0_ cI cZ h q) (u := u) (f := pd_raise u 2) (As := [.int 2]) (rest := []) 1 hx hb hml hown hts hK hA G rfl rfl (kd_raise l dC dI cI cZ h q _ u 2 ) gX0_awaitNotice_X0_raise rfl rfl rfl hd_X0_raise ⟨Nat.le_of_ble_eq_true rfl, Nat.le_of_ble_eq_true rfl⟩ rfl hl.1 rfl (Nat.le_of_ble_eq_true rfl) dX0_awaitNotice_57 (Nat.zero_le _) (Nat.zero_le _) (fun H locs G => ?_)
          exact gx_iret (wf := gw0_ cI cZ h q) (u1 := (pd_raise u 2).2) hx hb hr hlocks hsz hK hAe G dX0_awaitNotice_60 (by unfold pd_awaitNotice; rw [if_neg c_3, if_neg c_23, if_pos c_33, if_pos c_52])
      · refine lv_aload_n hx hb dX0_awaitNotice_36 rfl (lv_at hl 1 rfl) ?_
        refine lv_iconst (v := 3) hx hb dX0_awaitNotice_37 (by decide) ?_
        refine gx_calli (wf := gw0_ cI cZ h q) (u := u) (f := pd_raise u 3) (As := [.int 3]) (rest := []) 1 hx hb hml hown hts hK hA G rfl rfl (kd_raise l dC dI cI cZ h q _ u 3 ) gX0_awaitNotice_X0_raise rfl rfl rfl hd_X0_raise ⟨Nat.le_of_ble_eq_true rfl, Nat.le_of_ble_eq_true rfl⟩ rfl hl.1 rfl (Nat.le_of_ble_eq_true rfl) dX0_awaitNotice_38 (Nat.zero_le _) (Nat.zero_le _) (fun H locs G => ?_)
        exact gx_iret (wf := gw0_ cI cZ h q) (u1 := (pd_raise u 3).2) hx hb hr hlocks hsz hK hAe G dX0_awaitNotice_41 (by unfold pd_awaitNotice; rw [if_neg c_3, if_neg c_23, if_neg c_33])
    · refine lv_aload_n hx hb dX0_awaitNotice_26 rfl (lv_at hl 1 rfl) ?_
      refine lv_iconst (v := 1) hx hb dX0_awaitNotice_27 (by decide) ?_
      refine gx_calli (wf := gw0_ cI cZ h q) (u := u) (f := pd_raise u 1) (As := [.int 1]) (rest := []) 1 hx hb hml hown hts hK hA G rfl rfl (kd_raise l dC dI cI cZ h q _ u 1 ) gX0_awaitNotice_X0_raise rfl rfl rfl hd_X0_raise ⟨Nat.le_of_ble_eq_true rfl, Nat.le_of_ble_eq_true rfl⟩ rfl hl.1 rfl (Nat.le_of_ble_eq_true rfl) dX0_awaitNotice_28 (Nat.zero_le _) (Nat.zero_le _) (fun H locs G => ?_)
      exact gx_iret (wf := gw0_ cI cZ h q) (u1 := (pd_raise u 1).2) hx hb hr hlocks hsz hK hAe G dX0_awaitNotice_31 (by unfold pd_awaitNotice; rw [if_neg c_3, if_pos c_23])
  · refine lv_iconst (v := 0) hx hb dX0_awaitNotice_6 (by decide) ?_
    refine lv_goto (tgt := 16) hx hb dX0_awaitNotice_7 (by decide) ?_
    refine lv_istore_n (lv' := [(2, .int 0), (0, .ref h), (1, .int p0)]) hx hb dX0_awaitNotice_16 rfl hl (by decide) rfl (fun ls hl => ?_)
    refine lv_aload_n hx hb dX0_awaitNotice_17 rfl (lv_at hl 1 rfl) ?_
    refine gg0_get (v := .ref (q 0)) hx hb hts hin hown hK G 0 (by decide) (index := 9) (by decide +kernel) rfl dX0_awaitNotice_18 ?_
    refine lv_iload_n hx hb dX0_awaitNotice_21 rfl (lv_at hl 0 rfl) ?_
    refine gg0_ld0 hx hb hK G (i := 0) (in_z (by decide)) dX0_awaitNotice_22 ?_
    refine lv_if_ne (tgt := 32) hx hb dX0_awaitNotice_23 (by decide) (fun c_23 => ?_) (fun c_23 => ?_)
    · refine lv_iload_n hx hb dX0_awaitNotice_32 rfl (lv_at hl 2 rfl) ?_
      refine lv_if_ge (tgt := 42) hx hb dX0_awaitNotice_33 (by decide) (fun z => absurd z (by rw [c_3]; decide)) (fun _ => ?_)
      refine lv_aload_n hx hb dX0_awaitNotice_36 rfl (lv_at hl 1 rfl) ?_
      refine lv_iconst (v := 3) hx hb dX0_awaitNotice_37 (by decide) ?_
      refine gx_calli (wf := gw0_ cI cZ h q) (u := u) (f := pd_raise u 3) (As := [.int 3]) (rest := []) 1 hx hb hml hown hts hK hA G rfl rfl (kd_raise l dC dI cI cZ h q _ u 3 ) gX0_awaitNotice_X0_raise rfl rfl rfl hd_X0_raise ⟨Nat.le_of_ble_eq_true rfl, Nat.le_of_ble_eq_true rfl⟩ rfl hl.1 rfl (Nat.le_of_ble_eq_true rfl) dX0_awaitNotice_38 (Nat.zero_le _) (Nat.zero_le _) (fun H locs G => ?_)
      exact gx_iret (wf := gw0_ cI cZ h q) (u1 := (pd_raise u 3).2) hx hb hr hlocks hsz hK hAe G dX0_awaitNotice_41 (by unfold pd_awaitNotice; rw [if_pos c_3, if_neg c_23])
    · refine lv_aload_n hx hb dX0_awaitNotice_26 rfl (lv_at hl 1 rfl) ?_
      refine lv_iconst (v := 1) hx hb dX0_awaitNotice_27 (by decide) ?_
      refine gx_calli (wf := gw0_ cI cZ h q) (u := u) (f := pd_raise u 1) (As := [.int 1]) (rest := []) 1 hx hb hml hown hts hK hA G rfl rfl (kd_raise l dC dI cI cZ h q _ u 1 ) gX0_awaitNotice_X0_raise rfl rfl rfl hd_X0_raise ⟨Nat.le_of_ble_eq_true rfl, Nat.le_of_ble_eq_true rfl⟩ rfl hl.1 rfl (Nat.le_of_ble_eq_true rfl) dX0_awaitNotice_28 (Nat.zero_le _) (Nat.zero_le _) (fun H locs G => ?_)
      exact gx_iret (wf := gw0_ cI cZ h q) (u1 := (pd_raise u 1).2) hx hb hr hlocks hsz hK hAe G dX0_awaitNotice_31 (by unfold pd_awaitNotice; rw [if_pos c_3, if_pos c_23])
theorem hd_X0_awaitNotice : yX0_awaitNotice.cls = RX0 ∧ yX0_awaitNotice.cls ≠ "java/lang/invoke/MethodHandle" ∧ yX0_awaitNotice.cls ≠ "java/lang/invoke/VarHandle" ∧ (parseMethodDescriptor yX0_awaitNotice.desc).map (fun d => d.parameters.length) = some 1 := by decide +kernel
def pd_sleep (u : st_T) (p0 : Int32) : Int32 × st_T :=
  if 0 ≤ p0 then
    if (pd_takeFlag u).1 = 0 then
      (0, (pd_takeFlag u).2)
    else
      ((pd_raise ((pd_takeFlag u).2) 4).1, (pd_raise ((pd_takeFlag u).2) 4).2)
  else
    ((pd_raise u 3).1, (pd_raise u 3).2)
set_option maxHeartbeats 4000000 in
set_option maxRecDepth 100000 in
theorem kd_sleep (l : Launch) (dC : Nat → ClassId) (dI : Nat → Nat → Nat) (cI cZ : ClassId) (h : Nat) (q : Nat → Nat) (sz : Nat) (u : st_T) (p0 : Int32) (hfl : u.1 4 = 0 ∨ u.1 4 = 1) : gx_Mi l yX0_sleep wsX0_sleep { frames := 1, cells := 0, slots := 0, locals := 21 } [.ref h, .int p0] (dC, dI) cI cZ (gw0_ cI cZ h q) u sz (pd_sleep u p0) := by
  refine gx_met (cc := cX0_sleep) (maxL := 2) (ret := (some .int)) (by decide +kernel) rfl (Nat.le_of_ble_eq_true rfl) (fun p e s m args below meth c A ls hsz hx hb hr hlocks hts hown hml hK hAe hA G hl => ?_)
  have hown : s.vm.findClass RX0 = some m.cls := hown
  have hin : ∀ w ∈ wsX00, w ∈ wsX0_sleep := gx_in
  have hl : lv_has ls 2 [(0, .ref h), (1, .int p0)] := hl
  refine lv_iload_n hx hb dX0_sleep_0 rfl (lv_at hl 1 rfl) ?_
  refine lv_if_ge (tgt := 10) hx hb dX0_sleep_1 (by decide) (fun c_1 => ?_) (fun c_1 => ?_)
  · refine lv_aload_n hx hb dX0_sleep_10 rfl (lv_at hl 0 rfl) ?_
    refine gx_calli (wf := gw0_ cI cZ h q) (u := u) (f := pd_takeFlag u) (As := []) (rest := []) 0 hx hb hml hown hts hK hA G rfl rfl (kd_takeFlag l dC dI cI cZ h q _ u  hfl) gX0_sleep_X0_takeFlag rfl rfl rfl hd_X0_takeFlag ⟨Nat.le_of_ble_eq_true rfl, Nat.le_of_ble_eq_true rfl⟩ rfl hl.1 rfl (Nat.le_of_ble_eq_true rfl) dX0_sleep_11 (Nat.zero_le _) (Nat.zero_le _) (fun H locs G => ?_)
    refine lv_if_eq (tgt := 25) hx hb dX0_sleep_14 (by decide) (fun c_14 => ?_) (fun c_14 => ?_)
    · refine lv_iconst (v := 0) hx hb dX0_sleep_25 (by decide) ?_
      exact gx_iret (wf := gw0_ cI cZ h q) (u1 := (pd_takeFlag u).2) hx hb hr hlocks hsz hK hAe G dX0_sleep_26 (by unfold pd_sleep; rw [if_pos c_1, if_pos c_14])
    · refine lv_aload_n hx hb dX0_sleep_17 rfl (lv_at hl 0 rfl) ?_
      refine lv_iconst (v := 4) hx hb dX0_sleep_18 (by decide) ?_
      refine gx_calli (wf := gw0_ cI cZ h q) (u := (pd_takeFlag u).2) (f := pd_raise ((pd_takeFlag u).2) 4) (As := [.int 4]) (rest := []) 1 hx hb hml hown hts hK hA G rfl rfl (kd_raise l dC dI cI cZ h q _ ((pd_takeFlag u).2) 4 ) gX0_sleep_X0_raise rfl rfl rfl hd_X0_raise ⟨Nat.le_of_ble_eq_true rfl, Nat.le_of_ble_eq_true rfl⟩ rfl hl.1 rfl (Nat.le_of_ble_eq_true rfl) dX0_sleep_19 (Nat.zero_le _) (Nat.zero_le _) (fun H locs G => ?_)
      refine lv_goto (tgt := 26) hx hb dX0_sleep_22 (by decide) ?_
      exact gx_iret (wf := gw0_ cI cZ h q) (u1 := (pd_raise ((pd_takeFlag u).2) 4).2) hx hb hr hlocks hsz hK hAe G dX0_sleep_26 (by unfold pd_sleep; rw [if_pos c_1, if_neg c_14])
  · refine lv_aload_n hx hb dX0_sleep_4 rfl (lv_at hl 0 rfl) ?_
    refine lv_iconst (v := 3) hx hb dX0_sleep_5 (by decide) ?_
    refine gx_calli (wf := gw0_ cI cZ h q) (u := u) (f := pd_raise u 3) (As := [.int 3]) (rest := []) 1 hx hb hml hown hts hK hA G rfl rfl (kd_raise l dC dI cI cZ h q _ u 3 ) gX0_sleep_X0_raise rfl rfl rfl hd_X0_raise ⟨Nat.le_of_ble_eq_true rfl, Nat.le_of_ble_eq_true rfl⟩ rfl hl.1 rfl (Nat.le_of_ble_eq_true rfl) dX0_sleep_6 (Nat.zero_le _) (Nat.zero_le _) (fun H locs G => ?_)
    exact gx_iret (wf := gw0_ cI cZ h q) (u1 := (pd_raise u 3).2) hx hb hr hlocks hsz hK hAe G dX0_sleep_9 (by unfold pd_sleep; rw [if_neg c_1])
theorem hd_X0_sleep : yX0_sleep.cls = RX0 ∧ yX0_sleep.cls ≠ "java/lang/invoke/MethodHandle" ∧ yX0_sleep.cls ≠ "java/lang/invoke/VarHandle" ∧ (parseMethodDescriptor yX0_sleep.desc).map (fun d => d.parameters.length) = some 1 := by decide +kernel
def pd_start (u : st_T) (p0 : Int32) : Int32 × st_T :=
  if u.2 2 (ix p0) = 0 then
    (0, st_si (st_sa u 2 (ix p0) 1) 3 ((u.1 3) + (p0 + 1)))
  else
    ((pd_raise u 5).1, (pd_raise u 5).2)
set_option maxHeartbeats 4000000 in
set_option maxRecDepth 100000 in
theorem kd_start (l : Launch) (dC : Nat → ClassId) (dI : Nat → Nat → Nat) (cI cZ : ClassId) (h : Nat) (q : Nat → Nat) (sz : Nat) (u : st_T) (p0 : Int32) (hp0 : vp_in p0 4) : gx_Mi l yX0_start wsX0_start { frames := 1, cells := 0, slots := 0, locals := 21 } [.ref h, .int p0] (dC, dI) cI cZ (gw0_ cI cZ h q) u sz (pd_start u p0) := by
  refine gx_met (cc := cX0_start) (maxL := 2) (ret := (some .int)) (by decide +kernel) rfl (Nat.le_of_ble_eq_true rfl) (fun p e s m args below meth c A ls hsz hx hb hr hlocks hts hown hml hK hAe hA G hl => ?_)
  have hown : s.vm.findClass RX0 = some m.cls := hown
  have hin : ∀ w ∈ wsX00, w ∈ wsX0_start := gx_in
  have hl : lv_has ls 2 [(0, .ref h), (1, .int p0)] := hl
  refine lv_aload_n hx hb dX0_start_0 rfl (lv_at hl 0 rfl) ?_
  refine gg0_get (v := .ref (q 2)) hx hb hts hin hown hK G 2 (by decide) (index := 17) (by decide +kernel) rfl dX0_start_1 ?_
  refine lv_iload_n hx hb dX0_start_4 rfl (lv_at hl 1 rfl) ?_
  refine gg0_ld2 hx hb hK G (i := p0) hp0 dX0_start_5 ?_
  refine lv_if_eq (tgt := 15) hx hb dX0_start_6 (by decide) (fun c_6 => ?_) (fun c_6 => ?_)
  · refine lv_aload_n hx hb dX0_start_15 rfl (lv_at hl 0 rfl) ?_
    refine gg0_get (v := .ref (q 2)) hx hb hts hin hown hK G 2 (by decide) (index := 17) (by decide +kernel) rfl dX0_start_16 ?_
    refine lv_iload_n hx hb dX0_start_19 rfl (lv_at hl 1 rfl) ?_
    refine lv_iconst (v := 1) hx hb dX0_start_20 (by decide) ?_
    refine gg0_st2 hx hb hK G (i := p0) (x := 1) hp0 rfl dX0_start_21 (fun H locs G => ?_)
    refine lv_aload_n hx hb dX0_start_22 rfl (lv_at hl 0 rfl) ?_
    refine lv_dup hx hb dX0_start_23 rfl ?_
    refine gg0_get (v := .int (u.1 3)) hx hb hts hin hown hK G 3 (by decide) (index := 21) (by decide +kernel) rfl dX0_start_24 ?_
    refine lv_iload_n hx hb dX0_start_27 rfl (lv_at hl 1 rfl) ?_
    refine lv_iconst (v := 1) hx hb dX0_start_28 (by decide) ?_
    refine lv_iadd hx hb dX0_start_29 ?_
    refine lv_iadd hx hb dX0_start_30 ?_
    refine gg0_put3 (v := (u.1 3) + (p0 + 1)) hx hb hts hin hown hK G (index := 21) (by decide +kernel) dX0_start_31 (fun H locs G => ?_)
    refine lv_iconst (v := 0) hx hb dX0_start_34 (by decide) ?_
    exact gx_iret (wf := gw0_ cI cZ h q) (u1 := st_si (st_sa u 2 (ix p0) 1) 3 ((u.1 3) + (p0 + 1))) hx hb hr hlocks hsz hK hAe G dX0_start_35 (by unfold pd_start; rw [if_pos c_6])
  · refine lv_aload_n hx hb dX0_start_9 rfl (lv_at hl 0 rfl) ?_
    refine lv_iconst (v := 5) hx hb dX0_start_10 (by decide) ?_
    refine gx_calli (wf := gw0_ cI cZ h q) (u := u) (f := pd_raise u 5) (As := [.int 5]) (rest := []) 1 hx hb hml hown hts hK hA G rfl rfl (kd_raise l dC dI cI cZ h q _ u 5 ) gX0_start_X0_raise rfl rfl rfl hd_X0_raise ⟨Nat.le_of_ble_eq_true rfl, Nat.le_of_ble_eq_true rfl⟩ rfl hl.1 rfl (Nat.le_of_ble_eq_true rfl) dX0_start_11 (Nat.zero_le _) (Nat.zero_le _) (fun H locs G => ?_)
    exact gx_iret (wf := gw0_ cI cZ h q) (u1 := (pd_raise u 5).2) hx hb hr hlocks hsz hK hAe G dX0_start_14 (by unfold pd_start; rw [if_neg c_6])
theorem hd_X0_start : yX0_start.cls = RX0 ∧ yX0_start.cls ≠ "java/lang/invoke/MethodHandle" ∧ yX0_start.cls ≠ "java/lang/invoke/VarHandle" ∧ (parseMethodDescriptor yX0_start.desc).map (fun d => d.parameters.length) = some 1 := by decide +kernel
def pd_perform (u : st_T) (p0 : Int32) : Int32 × st_T :=
  if u.2 5 (ix p0) = 0 then
    ((pd_endBlock u (u.2 7 (ix p0))).1, (pd_endBlock u (u.2 7 (ix p0))).2)
  else
    if u.2 5 (ix p0) = 1 then
      ((pd_enter u (pj_floorMod_7cf53 (u.2 6 (ix p0)) 5)).1, (pd_enter u (pj_floorMod_7cf53 (u.2 6 (ix p0)) 5)).2)
    else
      if u.2 5 (ix p0) = 2 then
        (0, u)
      else
        if u.2 5 (ix p0) = 3 then
          ((pd_notifyWaiting u (pj_floorMod_7cf53 (u.2 6 (ix p0)) 5)).1, (pd_notifyWaiting u (pj_floorMod_7cf53 (u.2 6 (ix p0)) 5)).2)
        else
          if u.2 5 (ix p0) = 4 then
            ((pd_notifyWaiting u (pj_floorMod_7cf53 (u.2 6 (ix p0)) 5)).1, (pd_notifyWaiting u (pj_floorMod_7cf53 (u.2 6 (ix p0)) 5)).2)
          else
            if u.2 5 (ix p0) = 5 then
              ((pd_holdsLock u (pj_floorMod_7cf53 (u.2 6 (ix p0)) 5)).1, (pd_holdsLock u (pj_floorMod_7cf53 (u.2 6 (ix p0)) 5)).2)
            else
              if u.2 5 (ix p0) = 6 then
                ((pd_awaitNotice u (u.2 6 (ix p0))).1, (pd_awaitNotice u (u.2 6 (ix p0))).2)
              else
                if u.2 5 (ix p0) = 7 then
                  (0, st_si u 4 1)
                else
                  if u.2 5 (ix p0) = 8 then
                    (pd_asNumber ((pd_takeFlag u).1), (pd_takeFlag u).2)
                  else
                    if u.2 5 (ix p0) = 9 then
                      (pd_asNumber (u.1 4), u)
                    else
                      if u.2 5 (ix p0) = 10 then
                        ((pd_sleep u (u.2 6 (ix p0))).1, (pd_sleep u (u.2 6 (ix p0))).2)
                      else
                        if u.2 5 (ix p0) = 11 then
                          ((pd_raise u (100 + (pj_floorMod_7cf53 (u.2 6 (ix p0)) 100))).1, (pd_raise u (100 + (pj_floorMod_7cf53 (u.2 6 (ix p0)) 100))).2)
                        else
                          if u.2 5 (ix p0) = 12 then
                            ((pd_start u (pj_floorMod_7cf53 (u.2 6 (ix p0)) 4)).1, (pd_start u (pj_floorMod_7cf53 (u.2 6 (ix p0)) 4)).2)
                          else
                            if u.2 5 (ix p0) = 13 then
                              (pd_asNumber (u.2 2 (ix (pj_floorMod_7cf53 (u.2 6 (ix p0)) 4))), u)
                            else
                              if u.2 5 (ix p0) = 14 then
                                (pd_asNumber (u.2 2 (ix (pj_floorMod_7cf53 (u.2 6 (ix p0)) 4))), u)
                              else
                                if u.2 5 (ix p0) = 15 then
                                  ((u.1 3) + (u.2 6 (ix p0)), st_si u 3 ((u.1 3) + (u.2 6 (ix p0))))
                                else
                                  (0, u)
set_option maxHeartbeats 4000000 in
set_option maxRecDepth 100000 in
theorem kd_perform (l : Launch) (dC : Nat → ClassId) (dI : Nat → Nat → Nat) (cI cZ : ClassId) (h : Nat) (q : Nat → Nat) (sz : Nat) (u : st_T) (p0 : Int32) (hp0 : vp_in p0 24) (hfl : u.1 4 = 0 ∨ u.1 4 = 1) (har : u.2 7 (ix p0) = -1 ∨ vp_in (u.2 7 (ix p0)) 24) : gx_Mi l yX0_perform wsX0_perform { frames := 3, cells := 0, slots := 0, locals := 65 } [.ref h, .int p0] (dC, dI) cI cZ (gw0_ cI cZ h q) u sz (pd_perform u p0) := by
  refine gx_met (cc := cX0_perform) (maxL := 5) (ret := (some .int)) (by decide +kernel) rfl (Nat.le_of_ble_eq_true rfl) (fun p e s m args below meth c A ls hsz hx hb hr hlocks hts hown hml hK hAe hA G hl => ?_)
  have hown : s.vm.findClass RX0 = some m.cls := hown
  have hin : ∀ w ∈ wsX00, w ∈ wsX0_perform := gx_in
  have hl : lv_has ls 5 [(0, .ref h), (1, .int p0)] := hl
  refine lv_aload_n hx hb dX0_perform_0 rfl (lv_at hl 0 rfl) ?_
  refine gg0_get (v := .ref (q 6)) hx hb hts hin hown hK G 6 (by decide) (index := 31) (by decide +kernel) rfl dX0_perform_1 ?_
  refine lv_iload_n hx hb dX0_perform_4 rfl (lv_at hl 1 rfl) ?_
  refine gg0_ld6 hx hb hK G (i := p0) hp0 dX0_perform_5 ?_
  refine lv_istore_n (lv' := [(2, .int (u.2 6 (ix p0))), (0, .ref h), (1, .int p0)]) hx hb dX0_perform_6 rfl hl (by decide) rfl (fun ls hl => ?_)
  refine lv_iload_n hx hb dX0_perform_7 rfl (lv_at hl 0 rfl) ?_
  refine lv_iconst (v := 5) hx hb dX0_perform_8 (by decide) ?_
  refine gx_calls (f := pj_floorMod_7cf53 (u.2 6 (ix p0)) 5) (As := [.int (u.2 6 (ix p0)), .int 5]) (rest := []) 2 hx hb hml hown hts (kj_floorMod_7cf53 l (u.2 6 (ix p0)) 5 (by decide)) gX0_perform_J9_floorMod_7cf53 rfl rfl rfl hd_J9_floorMod_7cf53 ⟨Nat.le_of_ble_eq_true rfl, Nat.le_of_ble_eq_true rfl⟩ rfl hl.1 rfl (Nat.le_of_ble_eq_true rfl) dX0_perform_9 (Nat.zero_le _) (Nat.zero_le _) ?_
  refine lv_istore_n (lv' := [(3, .int (pj_floorMod_7cf53 (u.2 6 (ix p0)) 5)), (2, .int (u.2 6 (ix p0))), (0, .ref h), (1, .int p0)]) hx hb dX0_perform_12 rfl hl (by decide) rfl (fun ls hl => ?_)
  refine lv_iload_n hx hb dX0_perform_13 rfl (lv_at hl 1 rfl) ?_
  refine lv_iconst (v := 4) hx hb dX0_perform_14 (by decide) ?_
  refine gx_calls (f := pj_floorMod_7cf53 (u.2 6 (ix p0)) 4) (As := [.int (u.2 6 (ix p0)), .int 4]) (rest := []) 2 hx hb hml hown hts (kj_floorMod_7cf53 l (u.2 6 (ix p0)) 4 (by decide)) gX0_perform_J9_floorMod_7cf53 rfl rfl rfl hd_J9_floorMod_7cf53 ⟨Nat.le_of_ble_eq_true rfl, Nat.le_of_ble_eq_true rfl⟩ rfl hl.1 rfl (Nat.le_of_ble_eq_true rfl) dX0_perform_15 (Nat.zero_le _) (Nat.zero_le _) ?_
  refine lv_istore (lv' := [(4, .int (pj_floorMod_7cf53 (u.2 6 (ix p0)) 4)), (3, .int (pj_floorMod_7cf53 (u.2 6 (ix p0)) 5)), (2, .int (u.2 6 (ix p0))), (0, .ref h), (1, .int p0)]) hx hb dX0_perform_18 hl (by decide) rfl (fun ls hl => ?_)
  refine lv_aload_n hx hb dX0_perform_20 rfl (lv_at hl 3 rfl) ?_
  refine gg0_get (v := .ref (q 5)) hx hb hts hin hown hK G 5 (by decide) (index := 28) (by decide +kernel) rfl dX0_perform_21 ?_
  refine lv_iload_n hx hb dX0_perform_24 rfl (lv_at hl 4 rfl) ?_
  refine gg0_ld5 hx hb hK G (i := p0) hp0 dX0_perform_25 ?_
  by_cases c_26_0 : u.2 5 (ix p0) = 0
  · refine lv_tableIn (tgt := 104) hx hb dX0_perform_26 (by rw [c_26_0]; decide) (by rw [c_26_0]; decide) (by rw [c_26_0]; rfl) (by decide) ?_
    refine lv_aload_n hx hb dX0_perform_104 rfl (lv_at hl 3 rfl) ?_
    refine lv_aload_n hx hb dX0_perform_105 rfl (lv_at hl 3 rfl) ?_
    refine gg0_get (v := .ref (q 7)) hx hb hts hin hown hK G 7 (by decide) (index := 34) (by decide +kernel) rfl dX0_perform_106 ?_
    refine lv_iload_n hx hb dX0_perform_109 rfl (lv_at hl 4 rfl) ?_
    refine gg0_ld7 hx hb hK G (i := p0) hp0 dX0_perform_110 ?_
    refine gx_calli (wf := gw0_ cI cZ h q) (u := u) (f := pd_endBlock u (u.2 7 (ix p0))) (As := [.int (u.2 7 (ix p0))]) (rest := []) 1 hx hb hml hown hts hK hA G rfl rfl (kd_endBlock l dC dI cI cZ h q _ u (u.2 7 (ix p0)) har) gX0_perform_X0_endBlock rfl rfl rfl hd_X0_endBlock ⟨Nat.le_of_ble_eq_true rfl, Nat.le_of_ble_eq_true rfl⟩ rfl hl.1 rfl (Nat.le_of_ble_eq_true rfl) dX0_perform_111 (Nat.zero_le _) (Nat.zero_le _) (fun H locs G => ?_)
    exact gx_iret (wf := gw0_ cI cZ h q) (u1 := (pd_endBlock u (u.2 7 (ix p0))).2) hx hb hr hlocks hsz hK hAe G dX0_perform_114 (by unfold pd_perform; rw [if_pos c_26_0])
  by_cases c_26_1 : u.2 5 (ix p0) = 1
  · refine lv_tableIn (tgt := 115) hx hb dX0_perform_26 (by rw [c_26_1]; decide) (by rw [c_26_1]; decide) (by rw [c_26_1]; rfl) (by decide) ?_
    refine lv_aload_n hx hb dX0_perform_115 rfl (lv_at hl 3 rfl) ?_
    refine lv_iload_n hx hb dX0_perform_116 rfl (lv_at hl 1 rfl) ?_
    refine gx_calli (wf := gw0_ cI cZ h q) (u := u) (f := pd_enter u (pj_floorMod_7cf53 (u.2 6 (ix p0)) 5)) (As := [.int (pj_floorMod_7cf53 (u.2 6 (ix p0)) 5)]) (rest := []) 1 hx hb hml hown hts hK hA G rfl rfl (kd_enter l dC dI cI cZ h q _ u (pj_floorMod_7cf53 (u.2 6 (ix p0)) 5) (fm_in5 _)) gX0_perform_X0_enter rfl rfl rfl hd_X0_enter ⟨Nat.le_of_ble_eq_true rfl, Nat.le_of_ble_eq_true rfl⟩ rfl hl.1 rfl (Nat.le_of_ble_eq_true rfl) dX0_perform_117 (Nat.zero_le _) (Nat.zero_le _) (fun H locs G => ?_)
    exact gx_iret (wf := gw0_ cI cZ h q) (u1 := (pd_enter u (pj_floorMod_7cf53 (u.2 6 (ix p0)) 5)).2) hx hb hr hlocks hsz hK hAe G dX0_perform_120 (by unfold pd_perform; rw [if_neg c_26_0, if_pos c_26_1])
  by_cases c_26_2 : u.2 5 (ix p0) = 2
  · refine lv_tableIn (tgt := 215) hx hb dX0_perform_26 (by rw [c_26_2]; decide) (by rw [c_26_2]; decide) (by rw [c_26_2]; rfl) (by decide) ?_
    refine lv_iconst (v := 0) hx hb dX0_perform_215 (by decide) ?_
    exact gx_iret (wf := gw0_ cI cZ h q) (u1 := u) hx hb hr hlocks hsz hK hAe G dX0_perform_216 (by unfold pd_perform; rw [if_neg c_26_0, if_neg c_26_1, if_pos c_26_2])
  by_cases c_26_3 : u.2 5 (ix p0) = 3
  · refine lv_tableIn (tgt := 121) hx hb dX0_perform_26 (by rw [c_26_3]; decide) (by rw [c_26_3]; decide) (by rw [c_26_3]; rfl) (by decide) ?_
    refine lv_aload_n hx hb dX0_perform_121 rfl (lv_at hl 3 rfl) ?_
    refine lv_iload_n hx hb dX0_perform_122 rfl (lv_at hl 1 rfl) ?_
    refine gx_calli (wf := gw0_ cI cZ h q) (u := u) (f := pd_notifyWaiting u (pj_floorMod_7cf53 (u.2 6 (ix p0)) 5)) (As := [.int (pj_floorMod_7cf53 (u.2 6 (ix p0)) 5)]) (rest := []) 1 hx hb hml hown hts hK hA G rfl rfl (kd_notifyWaiting l dC dI cI cZ h q _ u (pj_floorMod_7cf53 (u.2 6 (ix p0)) 5) (fm_in5 _)) gX0_perform_X0_notifyWaiting rfl rfl rfl hd_X0_notifyWaiting ⟨Nat.le_of_ble_eq_true rfl, Nat.le_of_ble_eq_true rfl⟩ rfl hl.1 rfl (Nat.le_of_ble_eq_true rfl) dX0_perform_123 (Nat.zero_le _) (Nat.zero_le _) (fun H locs G => ?_)
    exact gx_iret (wf := gw0_ cI cZ h q) (u1 := (pd_notifyWaiting u (pj_floorMod_7cf53 (u.2 6 (ix p0)) 5)).2) hx hb hr hlocks hsz hK hAe G dX0_perform_126 (by unfold pd_perform; rw [if_neg c_26_0, if_neg c_26_1, if_neg c_26_2, if_pos c_26_3])
  by_cases c_26_4 : u.2 5 (ix p0) = 4
  · refine lv_tableIn (tgt := 121) hx hb dX0_perform_26 (by rw [c_26_4]; decide) (by rw [c_26_4]; decide) (by rw [c_26_4]; rfl) (by decide) ?_
    refine lv_aload_n hx hb dX0_perform_121 rfl (lv_at hl 3 rfl) ?_
    refine lv_iload_n hx hb dX0_perform_122 rfl (lv_at hl 1 rfl) ?_
    refine gx_calli (wf := gw0_ cI cZ h q) (u := u) (f := pd_notifyWaiting u (pj_floorMod_7cf53 (u.2 6 (ix p0)) 5)) (As := [.int (pj_floorMod_7cf53 (u.2 6 (ix p0)) 5)]) (rest := []) 1 hx hb hml hown hts hK hA G rfl rfl (kd_notifyWaiting l dC dI cI cZ h q _ u (pj_floorMod_7cf53 (u.2 6 (ix p0)) 5) (fm_in5 _)) gX0_perform_X0_notifyWaiting rfl rfl rfl hd_X0_notifyWaiting ⟨Nat.le_of_ble_eq_true rfl, Nat.le_of_ble_eq_true rfl⟩ rfl hl.1 rfl (Nat.le_of_ble_eq_true rfl) dX0_perform_123 (Nat.zero_le _) (Nat.zero_le _) (fun H locs G => ?_)
    exact gx_iret (wf := gw0_ cI cZ h q) (u1 := (pd_notifyWaiting u (pj_floorMod_7cf53 (u.2 6 (ix p0)) 5)).2) hx hb hr hlocks hsz hK hAe G dX0_perform_126 (by unfold pd_perform; rw [if_neg c_26_0, if_neg c_26_1, if_neg c_26_2, if_neg c_26_3, if_pos c_26_4])
  by_cases c_26_5 : u.2 5 (ix p0) = 5
  · refine lv_tableIn (tgt := 127) hx hb dX0_perform_26 (by rw [c_26_5]; decide) (by rw [c_26_5]; decide) (by rw [c_26_5]; rfl) (by decide) ?_
    refine lv_aload_n hx hb dX0_perform_127 rfl (lv_at hl 3 rfl) ?_
    refine lv_iload_n hx hb dX0_perform_128 rfl (lv_at hl 1 rfl) ?_
    refine gx_calli (wf := gw0_ cI cZ h q) (u := u) (f := pd_holdsLock u (pj_floorMod_7cf53 (u.2 6 (ix p0)) 5)) (As := [.int (pj_floorMod_7cf53 (u.2 6 (ix p0)) 5)]) (rest := []) 1 hx hb hml hown hts hK hA G rfl rfl (kd_holdsLock l dC dI cI cZ h q _ u (pj_floorMod_7cf53 (u.2 6 (ix p0)) 5) (fm_in5 _)) gX0_perform_X0_holdsLock rfl rfl rfl hd_X0_holdsLock ⟨Nat.le_of_ble_eq_true rfl, Nat.le_of_ble_eq_true rfl⟩ rfl hl.1 rfl (Nat.le_of_ble_eq_true rfl) dX0_perform_129 (Nat.zero_le _) (Nat.zero_le _) (fun H locs G => ?_)
    exact gx_iret (wf := gw0_ cI cZ h q) (u1 := (pd_holdsLock u (pj_floorMod_7cf53 (u.2 6 (ix p0)) 5)).2) hx hb hr hlocks hsz hK hAe G dX0_perform_132 (by unfold pd_perform; rw [if_neg c_26_0, if_neg c_26_1, if_neg c_26_2, if_neg c_26_3, if_neg c_26_4, if_pos c_26_5])
  by_cases c_26_6 : u.2 5 (ix p0) = 6
  · refine lv_tableIn (tgt := 133) hx hb dX0_perform_26 (by rw [c_26_6]; decide) (by rw [c_26_6]; decide) (by rw [c_26_6]; rfl) (by decide) ?_
    refine lv_aload_n hx hb dX0_perform_133 rfl (lv_at hl 3 rfl) ?_
    refine lv_iload_n hx hb dX0_perform_134 rfl (lv_at hl 2 rfl) ?_
    refine gx_calli (wf := gw0_ cI cZ h q) (u := u) (f := pd_awaitNotice u (u.2 6 (ix p0))) (As := [.int (u.2 6 (ix p0))]) (rest := []) 1 hx hb hml hown hts hK hA G rfl rfl (kd_awaitNotice l dC dI cI cZ h q _ u (u.2 6 (ix p0)) hfl) gX0_perform_X0_awaitNotice rfl rfl rfl hd_X0_awaitNotice ⟨Nat.le_of_ble_eq_true rfl, Nat.le_of_ble_eq_true rfl⟩ rfl hl.1 rfl (Nat.le_of_ble_eq_true rfl) dX0_perform_135 (Nat.zero_le _) (Nat.zero_le _) (fun H locs G => ?_)
    exact gx_iret (wf := gw0_ cI cZ h q) (u1 := (pd_awaitNotice u (u.2 6 (ix p0))).2) hx hb hr hlocks hsz hK hAe G dX0_perform_138 (by unfold pd_perform; rw [if_neg c_26_0, if_neg c_26_1, if_neg c_26_2, if_neg c_26_3, if_neg c_26_4, if_neg c_26_5, if_pos c_26_6])
  by_cases c_26_7 : u.2 5 (ix p0) = 7
  · refine lv_tableIn (tgt := 139) hx hb dX0_perform_26 (by rw [c_26_7]; decide) (by rw [c_26_7]; decide) (by rw [c_26_7]; rfl) (by decide) ?_
    refine lv_aload_n hx hb dX0_perform_139 rfl (lv_at hl 3 rfl) ?_
    refine lv_iconst (v := 1) hx hb dX0_perform_140 (by decide) ?_
    refine gg0_put4 (v := 1) hx hb hts hin hown hK G (index := 24) (by decide +kernel) rfl rfl dX0_perform_141 (fun H locs G => ?_)
    refine lv_iconst (v := 0) hx hb dX0_perform_144 (by decide) ?_
    exact gx_iret (wf := gw0_ cI cZ h q) (u1 := st_si u 4 1) hx hb hr hlocks hsz hK hAe G dX0_perform_145 (by unfold pd_perform; rw [if_neg c_26_0, if_neg c_26_1, if_neg c_26_2, if_neg c_26_3, if_neg c_26_4, if_neg c_26_5, if_neg c_26_6, if_pos c_26_7])
  by_cases c_26_8 : u.2 5 (ix p0) = 8
  · refine lv_tableIn (tgt := 146) hx hb dX0_perform_26 (by rw [c_26_8]; decide) (by rw [c_26_8]; decide) (by rw [c_26_8]; rfl) (by decide) ?_
    refine lv_aload_n hx hb dX0_perform_146 rfl (lv_at hl 3 rfl) ?_
    refine gx_calli (wf := gw0_ cI cZ h q) (u := u) (f := pd_takeFlag u) (As := []) (rest := []) 0 hx hb hml hown hts hK hA G rfl rfl (kd_takeFlag l dC dI cI cZ h q _ u  hfl) gX0_perform_X0_takeFlag rfl rfl rfl hd_X0_takeFlag ⟨Nat.le_of_ble_eq_true rfl, Nat.le_of_ble_eq_true rfl⟩ rfl hl.1 rfl (Nat.le_of_ble_eq_true rfl) dX0_perform_147 (Nat.zero_le _) (Nat.zero_le _) (fun H locs G => ?_)
    refine gx_calls (f := pd_asNumber ((pd_takeFlag u).1)) (As := [.int ((pd_takeFlag u).1)]) (rest := []) 1 hx hb hml hown hts (kd_asNumber l ((pd_takeFlag u).1) ) gX0_perform_X0_asNumber rfl rfl rfl hd_X0_asNumber ⟨Nat.le_of_ble_eq_true rfl, Nat.le_of_ble_eq_true rfl⟩ rfl hl.1 rfl (Nat.le_of_ble_eq_true rfl) dX0_perform_150 (Nat.zero_le _) (Nat.zero_le _) ?_
    exact gx_iret (wf := gw0_ cI cZ h q) (u1 := (pd_takeFlag u).2) hx hb hr hlocks hsz hK hAe G dX0_perform_153 (by unfold pd_perform; rw [if_neg c_26_0, if_neg c_26_1, if_neg c_26_2, if_neg c_26_3, if_neg c_26_4, if_neg c_26_5, if_neg c_26_6, if_neg c_26_7, if_pos c_26_8])
  by_cases c_26_9 : u.2 5 (ix p0) = 9
  · refine lv_tableIn (tgt := 154) hx hb dX0_perform_26 (by rw [c_26_9]; decide) (by rw [c_26_9]; decide) (by rw [c_26_9]; rfl) (by decide) ?_
    refine lv_aload_n hx hb dX0_perform_154 rfl (lv_at hl 3 rfl) ?_
    refine gg0_get (v := .int (u.1 4)) hx hb hts hin hown hK G 4 (by decide) (index := 24) (by decide +kernel) rfl dX0_perform_155 ?_
    refine gx_calls (f := pd_asNumber (u.1 4)) (As := [.int (u.1 4)]) (rest := []) 1 hx hb hml hown hts (kd_asNumber l (u.1 4) ) gX0_perform_X0_asNumber rfl rfl rfl hd_X0_asNumber ⟨Nat.le_of_ble_eq_true rfl, Nat.le_of_ble_eq_true rfl⟩ rfl hl.1 rfl (Nat.le_of_ble_eq_true rfl) dX0_perform_158 (Nat.zero_le _) (Nat.zero_le _) ?_
    exact gx_iret (wf := gw0_ cI cZ h q) (u1 := u) hx hb hr hlocks hsz hK hAe G dX0_perform_161 (by unfold pd_perform; rw [if_neg c_26_0, if_neg c_26_1, if_neg c_26_2, if_neg c_26_3, if_neg c_26_4, if_neg c_26_5, if_neg c_26_6, if_neg c_26_7, if_neg c_26_8, if_pos c_26_9])
  by_cases c_26_10 : u.2 5 (ix p0) = 10
  · refine lv_tableIn (tgt := 162) hx hb dX0_perform_26 (by rw [c_26_10]; decide) (by rw [c_26_10]; decide) (by rw [c_26_10]; rfl) (by decide) ?_
    refine lv_aload_n hx hb dX0_perform_162 rfl (lv_at hl 3 rfl) ?_
    refine lv_iload_n hx hb dX0_perform_163 rfl (lv_at hl 2 rfl) ?_
    refine gx_calli (wf := gw0_ cI cZ h q) (u := u) (f := pd_sleep u (u.2 6 (ix p0))) (As := [.int (u.2 6 (ix p0))]) (rest := []) 1 hx hb hml hown hts hK hA G rfl rfl (kd_sleep l dC dI cI cZ h q _ u (u.2 6 (ix p0)) hfl) gX0_perform_X0_sleep rfl rfl rfl hd_X0_sleep ⟨Nat.le_of_ble_eq_true rfl, Nat.le_of_ble_eq_true rfl⟩ rfl hl.1 rfl (Nat.le_of_ble_eq_true rfl) dX0_perform_164 (Nat.zero_le _) (Nat.zero_le _) (fun H locs G => ?_)
    exact gx_iret (wf := gw0_ cI cZ h q) (u1 := (pd_sleep u (u.2 6 (ix p0))).2) hx hb hr hlocks hsz hK hAe G dX0_perform_167 (by unfold pd_perform; rw [if_neg c_26_0, if_neg c_26_1, if_neg c_26_2, if_neg c_26_3, if_neg c_26_4, if_neg c_26_5, if_neg c_26_6, if_neg c_26_7, if_neg c_26_8, if_neg c_26_9, if_pos c_26_10])
  by_cases c_26_11 : u.2 5 (ix p0) = 11
  · refine lv_tableIn (tgt := 168) hx hb dX0_perform_26 (by rw [c_26_11]; decide) (by rw [c_26_11]; decide) (by rw [c_26_11]; rfl) (by decide) ?_
    refine lv_aload_n hx hb dX0_perform_168 rfl (lv_at hl 3 rfl) ?_
    refine lv_bipush (v := 100) hx hb dX0_perform_169 (by decide) ?_
    refine lv_iload_n hx hb dX0_perform_171 rfl (lv_at hl 2 rfl) ?_
    refine lv_bipush (v := 100) hx hb dX0_perform_172 (by decide) ?_
    refine gx_calls (f := pj_floorMod_7cf53 (u.2 6 (ix p0)) 100) (As := [.int (u.2 6 (ix p0)), .int 100]) (rest := [.int 100, .ref h]) 2 hx hb hml hown hts (kj_floorMod_7cf53 l (u.2 6 (ix p0)) 100 (by decide)) gX0_perform_J9_floorMod_7cf53 rfl rfl rfl hd_J9_floorMod_7cf53 ⟨Nat.le_of_ble_eq_true rfl, Nat.le_of_ble_eq_true rfl⟩ rfl hl.1 rfl (Nat.le_of_ble_eq_true rfl) dX0_perform_174 (Nat.zero_le _) (Nat.zero_le _) ?_
    refine lv_iadd hx hb dX0_perform_177 ?_
    refine gx_calli (wf := gw0_ cI cZ h q) (u := u) (f := pd_raise u (100 + (pj_floorMod_7cf53 (u.2 6 (ix p0)) 100))) (As := [.int (100 + (pj_floorMod_7cf53 (u.2 6 (ix p0)) 100))]) (rest := []) 1 hx hb hml hown hts hK hA G rfl rfl (kd_raise l dC dI cI cZ h q _ u (100 + (pj_floorMod_7cf53 (u.2 6 (ix p0)) 100)) ) gX0_perform_X0_raise rfl rfl rfl hd_X0_raise ⟨Nat.le_of_ble_eq_true rfl, Nat.le_of_ble_eq_true rfl⟩ rfl hl.1 rfl (Nat.le_of_ble_eq_true rfl) dX0_perform_178 (Nat.zero_le _) (Nat.zero_le _) (fun H locs G => ?_)
    exact gx_iret (wf := gw0_ cI cZ h q) (u1 := (pd_raise u (100 + (pj_floorMod_7cf53 (u.2 6 (ix p0)) 100))).2) hx hb hr hlocks hsz hK hAe G dX0_perform_181 (by unfold pd_perform; rw [if_neg c_26_0, if_neg c_26_1, if_neg c_26_2, if_neg c_26_3, if_neg c_26_4, if_neg c_26_5, if_neg c_26_6, if_neg c_26_7, if_neg c_26_8, if_neg c_26_9, if_neg c_26_10, if_pos c_26_11])
  by_cases c_26_12 : u.2 5 (ix p0) = 12
  · refine lv_tableIn (tgt := 182) hx hb dX0_perform_26 (by rw [c_26_12]; decide) (by rw [c_26_12]; decide) (by rw [c_26_12]; rfl) (by decide) ?_
    refine lv_aload_n hx hb dX0_perform_182 rfl (lv_at hl 3 rfl) ?_
    refine lv_iload hx hb dX0_perform_183 (lv_at hl 0 rfl) ?_
    refine gx_calli (wf := gw0_ cI cZ h q) (u := u) (f := pd_start u (pj_floorMod_7cf53 (u.2 6 (ix p0)) 4)) (As := [.int (pj_floorMod_7cf53 (u.2 6 (ix p0)) 4)]) (rest := []) 1 hx hb hml hown hts hK hA G rfl rfl (kd_start l dC dI cI cZ h q _ u (pj_floorMod_7cf53 (u.2 6 (ix p0)) 4) (fm_in4 _)) gX0_perform_X0_start rfl rfl rfl hd_X0_start ⟨Nat.le_of_ble_eq_true rfl, Nat.le_of_ble_eq_true rfl⟩ rfl hl.1 rfl (Nat.le_of_ble_eq_true rfl) dX0_perform_185 (Nat.zero_le _) (Nat.zero_le _) (fun H locs G => ?_)
    exact gx_iret (wf := gw0_ cI cZ h q) (u1 := (pd_start u (pj_floorMod_7cf53 (u.2 6 (ix p0)) 4)).2) hx hb hr hlocks hsz hK hAe G dX0_perform_188 (by unfold pd_perform; rw [if_neg c_26_0, if_neg c_26_1, if_neg c_26_2, if_neg c_26_3, if_neg c_26_4, if_neg c_26_5, if_neg c_26_6, if_neg c_26_7, if_neg c_26_8, if_neg c_26_9, if_neg c_26_10, if_neg c_26_11, if_pos c_26_12])
  by_cases c_26_13 : u.2 5 (ix p0) = 13
  · refine lv_tableIn (tgt := 189) hx hb dX0_perform_26 (by rw [c_26_13]; decide) (by rw [c_26_13]; decide) (by rw [c_26_13]; rfl) (by decide) ?_
    refine lv_aload_n hx hb dX0_perform_189 rfl (lv_at hl 3 rfl) ?_
    refine gg0_get (v := .ref (q 2)) hx hb hts hin hown hK G 2 (by decide) (index := 17) (by decide +kernel) rfl dX0_perform_190 ?_
    refine lv_iload hx hb dX0_perform_193 (lv_at hl 0 rfl) ?_
    refine gg0_ld2 hx hb hK G (i := pj_floorMod_7cf53 (u.2 6 (ix p0)) 4) (fm_in4 _) dX0_perform_195 ?_
    refine gx_calls (f := pd_asNumber (u.2 2 (ix (pj_floorMod_7cf53 (u.2 6 (ix p0)) 4)))) (As := [.int (u.2 2 (ix (pj_floorMod_7cf53 (u.2 6 (ix p0)) 4)))]) (rest := []) 1 hx hb hml hown hts (kd_asNumber l (u.2 2 (ix (pj_floorMod_7cf53 (u.2 6 (ix p0)) 4))) ) gX0_perform_X0_asNumber rfl rfl rfl hd_X0_asNumber ⟨Nat.le_of_ble_eq_true rfl, Nat.le_of_ble_eq_true rfl⟩ rfl hl.1 rfl (Nat.le_of_ble_eq_true rfl) dX0_perform_196 (Nat.zero_le _) (Nat.zero_le _) ?_
    exact gx_iret (wf := gw0_ cI cZ h q) (u1 := u) hx hb hr hlocks hsz hK hAe G dX0_perform_199 (by unfold pd_perform; rw [if_neg c_26_0, if_neg c_26_1, if_neg c_26_2, if_neg c_26_3, if_neg c_26_4, if_neg c_26_5, if_neg c_26_6, if_neg c_26_7, if_neg c_26_8, if_neg c_26_9, if_neg c_26_10, if_neg c_26_11, if_neg c_26_12, if_pos c_26_13])
  by_cases c_26_14 : u.2 5 (ix p0) = 14
  · refine lv_tableIn (tgt := 189) hx hb dX0_perform_26 (by rw [c_26_14]; decide) (by rw [c_26_14]; decide) (by rw [c_26_14]; rfl) (by decide) ?_
    refine lv_aload_n hx hb dX0_perform_189 rfl (lv_at hl 3 rfl) ?_
    refine gg0_get (v := .ref (q 2)) hx hb hts hin hown hK G 2 (by decide) (index := 17) (by decide +kernel) rfl dX0_perform_190 ?_
    refine lv_iload hx hb dX0_perform_193 (lv_at hl 0 rfl) ?_
    refine gg0_ld2 hx hb hK G (i := pj_floorMod_7cf53 (u.2 6 (ix p0)) 4) (fm_in4 _) dX0_perform_195 ?_
    refine gx_calls (f := pd_asNumber (u.2 2 (ix (pj_floorMod_7cf53 (u.2 6 (ix p0)) 4)))) (As := [.int (u.2 2 (ix (pj_floorMod_7cf53 (u.2 6 (ix p0)) 4)))]) (rest := []) 1 hx hb hml hown hts (kd_asNumber l (u.2 2 (ix (pj_floorMod_7cf53 (u.2 6 (ix p0)) 4))) ) gX0_perform_X0_asNumber rfl rfl rfl hd_X0_asNumber ⟨Nat.le_of_ble_eq_true rfl, Nat.le_of_ble_eq_true rfl⟩ rfl hl.1 rfl (Nat.le_of_ble_eq_true rfl) dX0_perform_196 (Nat.zero_le _) (Nat.zero_le _) ?_
    exact gx_iret (wf := gw0_ cI cZ h q) (u1 := u) hx hb hr hlocks hsz hK hAe G dX0_perform_199 (by unfold pd_perform; rw [if_neg c_26_0, if_neg c_26_1, if_neg c_26_2, if_neg c_26_3, if_neg c_26_4, if_neg c_26_5, if_neg c_26_6, if_neg c_26_7, if_neg c_26_8, if_neg c_26_9, if_neg c_26_10, if_neg c_26_11, if_neg c_26_12, if_neg c_26_13, if_pos c_26_14])
  by_cases c_26_15 : u.2 5 (ix p0) = 15
  · refine lv_tableIn (tgt := 200) hx hb dX0_perform_26 (by rw [c_26_15]; decide) (by rw [c_26_15]; decide) (by rw [c_26_15]; rfl) (by decide) ?_
    refine lv_aload_n hx hb dX0_perform_200 rfl (lv_at hl 3 rfl) ?_
    refine lv_dup hx hb dX0_perform_201 rfl ?_
    refine gg0_get (v := .int (u.1 3)) hx hb hts hin hown hK G 3 (by decide) (index := 21) (by decide +kernel) rfl dX0_perform_202 ?_
    refine lv_iload_n hx hb dX0_perform_205 rfl (lv_at hl 2 rfl) ?_
    refine lv_iadd hx hb dX0_perform_206 ?_
    refine gg0_put3 (v := (u.1 3) + (u.2 6 (ix p0))) hx hb hts hin hown hK G (index := 21) (by decide +kernel) dX0_perform_207 (fun H locs G => ?_)
    refine lv_aload_n hx hb dX0_perform_210 rfl (lv_at hl 3 rfl) ?_
    refine gg0_get (v := .int ((u.1 3) + (u.2 6 (ix p0)))) hx hb hts hin hown hK G 3 (by decide) (index := 21) (by decide +kernel) rfl dX0_perform_211 ?_
    exact gx_iret (wf := gw0_ cI cZ h q) (u1 := st_si u 3 ((u.1 3) + (u.2 6 (ix p0)))) hx hb hr hlocks hsz hK hAe G dX0_perform_214 (by unfold pd_perform; rw [if_neg c_26_0, if_neg c_26_1, if_neg c_26_2, if_neg c_26_3, if_neg c_26_4, if_neg c_26_5, if_neg c_26_6, if_neg c_26_7, if_neg c_26_8, if_neg c_26_9, if_neg c_26_10, if_neg c_26_11, if_neg c_26_12, if_neg c_26_13, if_neg c_26_14, if_pos c_26_15])
  refine lv_tableOut (tgt := 215) hx hb dX0_perform_26 (by have z := (u.2 5 (ix p0)).toInt; have z0 := lv_neT c_26_0 (a := 0) (by decide); have z1 := lv_neT c_26_1 (a := 1) (by decide); have z2 := lv_neT c_26_2 (a := 2) (by decide); have z3 := lv_neT c_26_3 (a := 3) (by decide); have z4 := lv_neT c_26_4 (a := 4) (by decide); have z5 := lv_neT c_26_5 (a := 5) (by decide); have z6 := lv_neT c_26_6 (a := 6) (by decide); have z7 := lv_neT c_26_7 (a := 7) (by decide); have z8 := lv_neT c_26_8 (a := 8) (by decide); have z9 := lv_neT c_26_9 (a := 9) (by decide); have z10 := lv_neT c_26_10 (a := 10) (by decide); have z11 := lv_neT c_26_11 (a := 11) (by decide); have z12 := lv_neT c_26_12 (a := 12) (by decide); have z13 := lv_neT c_26_13 (a := 13) (by decide); have z14 := lv_neT c_26_14 (a := 14) (by decide); have z15 := lv_neT c_26_15 (a := 15) (by decide); omega) (by decide) ?_
  refine lv_iconst (v := 0) hx hb dX0_perform_215 (by decide) ?_
  exact gx_iret (wf := gw0_ cI cZ h q) (u1 := u) hx hb hr hlocks hsz hK hAe G dX0_perform_216 (by unfold pd_perform; rw [if_neg c_26_0, if_neg c_26_1, if_neg c_26_2, if_neg c_26_3, if_neg c_26_4, if_neg c_26_5, if_neg c_26_6, if_neg c_26_7, if_neg c_26_8, if_neg c_26_9, if_neg c_26_10, if_neg c_26_11, if_neg c_26_12, if_neg c_26_13, if_neg c_26_14, if_neg c_26_15])
theorem hd_X0_perform : yX0_perform.cls = RX0 ∧ yX0_perform.cls ≠ "java/lang/invoke/MethodHandle" ∧ yX0_perform.cls ≠ "java/lang/invoke/VarHandle" ∧ (parseMethodDescriptor yX0_perform.desc).map (fun d => d.parameters.length) = some 1 := by decide +kernel
def pd_lb : Nat → st_T → Int32 → Int32 → Int32 × st_T
  | 0, u, b, _ => (b, u)
  | n + 1, u, b, k => if k ≤ 0 then (b, u) else if pd_isEnter u b = 0 then (b, u) else pd_lb n (pd_giveBack u b).2 ((pd_giveBack u b).2.2 7 (ix b)) (k + (-1))
def pd_lt (u : st_T) (b : Int32) : st_T := if b = -1 then st_si (st_si u 13 (u.1 15)) 16 (u.1 9) else st_si (st_sa u 12 (ix b) (u.1 15)) 16 (u.2 8 (ix b) + 1)
def pd_leaveBlocks (u : st_T) (p0 : Int32) : st_T := pd_lt (pd_lb 9 u (u.2 7 (ix p0)) 8).2 (pd_lb 9 u (u.2 7 (ix p0)) 8).1
theorem pd_lb_s (n : Nat) (u : st_T) (b k : Int32) : pd_lb (n + 1) u b k = if k ≤ 0 then (b, u) else if pd_isEnter u b = 0 then (b, u) else pd_lb n (pd_giveBack u b).2 ((pd_giveBack u b).2.2 7 (ix b)) (k + (-1)) := rfl
theorem ie_in {u : st_T} {b : Int32} (h : b = -1 ∨ vp_in b 24) (h2 : ¬ pd_isEnter u b = 0) : vp_in b 24 := by
  rcases h with rfl | h
  · exact absurd (by unfold pd_isEnter; rw [if_pos rfl]) h2
  · exact h
set_option maxHeartbeats 4000000 in
set_option maxRecDepth 100000 in
theorem kd_leaveBlocks (l : Launch) (dC : Nat → ClassId) (dI : Nat → Nat → Nat) (cI cZ : ClassId) (h : Nat) (q : Nat → Nat) (sz : Nat) (u : st_T) (p0 : Int32) (hp0 : vp_in p0 24) (har : ∀ j : Nat, j < 24 → u.2 7 j = -1 ∨ vp_in (u.2 7 j) 24) : gx_Mv l yX0_leaveBlocks wsX0_leaveBlocks { frames := 2, cells := 0, slots := 0, locals := 44 } [.ref h, .int p0] (dC, dI) cI cZ (gw0_ cI cZ h q) u sz (pd_leaveBlocks u p0) := by
  refine gx_met (cc := cX0_leaveBlocks) (maxL := 4) (ret := none) (by decide +kernel) rfl (Nat.le_of_ble_eq_true rfl) (fun p e s m args below meth c A ls hsz hx hb hr hlocks hts hown hml hK hAe hA G hl => ?_)
  have hown : s.vm.findClass RX0 = some m.cls := hown
  have hin : ∀ w ∈ wsX00, w ∈ wsX0_leaveBlocks := gx_in
  have hl : lv_has ls 4 [(0, .ref h), (1, .int p0)] := hl
  have tail : ∀ (v : st_T) (b k : Int32), pd_lb 9 u (u.2 7 (ix p0)) 8 = (b, v) → (b = -1 ∨ vp_in b 24) → ∀ (H : Heap) (locs : List Loc) (ls : Array Slot), gx_ (dC, dI) A s.heap H locs (gw0_ cI cZ h q v) → lv_has ls 4 [(3, .int k), (2, .int b), (0, .ref h), (1, .int p0)] → W p l e { frames := 2, cells := 0, slots := 0, locals := 44 } s m args below meth c H locs 0 0 (MQ below (va_Qv (fun u1 => u1 = pd_leaveBlocks u p0) (gx_O (dC, dI) cI cZ (gw0_ cI cZ h q) (gw0_ cI cZ h q u) sz) (va_A (gw0_ cI cZ h q u) sz)) args s 0 0 (va_A (gw0_ cI cZ h q u) sz)) (F0 m 41 ls []) := by
    intro v b k hf hb2 H locs ls G hl
    have hf : (b, v) = pd_lb 9 u (u.2 7 (ix p0)) 8 := hf.symm
    refine lv_iload_n hx hb dX0_leaveBlocks_41 rfl (lv_at hl 1 rfl) ?_
    refine lv_iconst (v := (-1)) hx hb dX0_leaveBlocks_42 (by decide) ?_
    refine lv_icmp_ne (tgt := 65) hx hb dX0_leaveBlocks_43 (by decide) (fun c_43 => ?_) (fun c_43 => ?_)
    · refine lv_aload_n hx hb dX0_leaveBlocks_65 rfl (lv_at hl 2 rfl) ?_
      refine gg0_get (v := .ref (q 12)) hx hb hts hin hown hK G 12 (by decide) (index := 49) (by decide +kernel) rfl dX0_leaveBlocks_66 ?_
      refine lv_iload_n hx hb dX0_leaveBlocks_69 rfl (lv_at hl 1 rfl) ?_
      refine lv_aload_n hx hb dX0_leaveBlocks_70 rfl (lv_at hl 2 rfl) ?_
      refine gg0_get (v := .int (v.1 15)) hx hb hts hin hown hK G 15 (by decide) (index := 58) (by decide +kernel) rfl dX0_leaveBlocks_71 ?_
      refine gg0_st12 hx hb hK G (i := b) (x := v.1 15) (hb2.resolve_left c_43) dX0_leaveBlocks_74 (fun H locs G => ?_)
      refine lv_aload_n hx hb dX0_leaveBlocks_75 rfl (lv_at hl 2 rfl) ?_
      refine lv_aload_n hx hb dX0_leaveBlocks_76 rfl (lv_at hl 2 rfl) ?_
      refine gg0_get (v := .ref (q 8)) hx hb hts hin hown hK G 8 (by decide) (index := 37) (by decide +kernel) rfl dX0_leaveBlocks_77 ?_
      refine lv_iload_n hx hb dX0_leaveBlocks_80 rfl (lv_at hl 1 rfl) ?_
      refine gg0_ld8 hx hb hK G (i := b) (hb2.resolve_left c_43) dX0_leaveBlocks_81 ?_
      refine gx_is (y := v.2 8 (ix b)) (congrFun (st_sa_2 _ _ _ (by decide)) _) ?_
      refine lv_iconst (v := 1) hx hb dX0_leaveBlocks_82 (by decide) ?_
      refine lv_iadd hx hb dX0_leaveBlocks_83 ?_
      refine gg0_put16 (v := (v.2 8 (ix b)) + 1) hx hb hts hin hown hK G (index := 61) (by decide +kernel) dX0_leaveBlocks_84 (fun H locs G => ?_)
      exact gx_vret (wf := gw0_ cI cZ h q) (u1 := st_si (st_sa v 12 (ix b) (v.1 15)) 16 ((v.2 8 (ix b)) + 1)) hx hb hr hlocks hsz hK hAe G dX0_leaveBlocks_87 (by unfold pd_leaveBlocks; rw [← hf]; unfold pd_lt; rw [if_neg c_43])
    · refine lv_aload_n hx hb dX0_leaveBlocks_46 rfl (lv_at hl 2 rfl) ?_
      refine lv_aload_n hx hb dX0_leaveBlocks_47 rfl (lv_at hl 2 rfl) ?_
      refine gg0_get (v := .int (v.1 15)) hx hb hts hin hown hK G 15 (by decide) (index := 58) (by decide +kernel) rfl dX0_leaveBlocks_48 ?_
      refine gg0_put13 (v := v.1 15) hx hb hts hin hown hK G (index := 52) (by decide +kernel) dX0_leaveBlocks_51 (fun H locs G => ?_)
      refine lv_aload_n hx hb dX0_leaveBlocks_54 rfl (lv_at hl 2 rfl) ?_
      refine lv_aload_n hx hb dX0_leaveBlocks_55 rfl (lv_at hl 2 rfl) ?_
      refine gg0_get (v := .int (v.1 9)) hx hb hts hin hown hK G 9 (by decide) (index := 40) (by decide +kernel) rfl dX0_leaveBlocks_56 ?_
      refine gg0_put16 (v := v.1 9) hx hb hts hin hown hK G (index := 61) (by decide +kernel) dX0_leaveBlocks_59 (fun H locs G => ?_)
      refine lv_goto (tgt := 87) hx hb dX0_leaveBlocks_62 (by decide) ?_
      exact gx_vret (wf := gw0_ cI cZ h q) (u1 := st_si (st_si v 13 (v.1 15)) 16 (v.1 9)) hx hb hr hlocks hsz hK hAe G dX0_leaveBlocks_87 (by unfold pd_leaveBlocks; rw [← hf]; unfold pd_lt; rw [if_pos c_43])
  have loop : ∀ (n : Nat) (v : st_T) (b k : Int32), 0 ≤ k.toInt → k.toInt < 100 → k.toInt < n → pd_lb 9 u (u.2 7 (ix p0)) 8 = pd_lb n v b k → v.2 7 = u.2 7 → (b = -1 ∨ vp_in b 24) → ∀ (H : Heap) (locs : List Loc) (ls : Array Slot), gx_ (dC, dI) A s.heap H locs (gw0_ cI cZ h q v) → lv_has ls 4 [(3, .int k), (2, .int b), (0, .ref h), (1, .int p0)] → W p l e { frames := 2, cells := 0, slots := 0, locals := 44 } s m args below meth c H locs 0 0 (MQ below (va_Qv (fun u1 => u1 = pd_leaveBlocks u p0) (gx_O (dC, dI) cI cZ (gw0_ cI cZ h q) (gw0_ cI cZ h q u) sz) (va_A (gw0_ cI cZ h q u) sz)) args s 0 0 (va_A (gw0_ cI cZ h q u) sz)) (F0 m 10 ls []) := by
    intro n
    induction n with
    | zero => intro v b k h1 h1b h2; exact absurd h2 (by omega)
    | succ n ih =>
      intro v b k hk0 hk1 hkn hf hv7 hb1 H locs ls G hl
      rw [pd_lb_s n v b k] at hf
      refine lv_iload_n hx hb dX0_leaveBlocks_10 rfl (lv_at hl 0 rfl) ?_
      refine lv_if_le (tgt := 41) hx hb dX0_leaveBlocks_11 (by decide) (fun c_11 => ?_) (fun c_11 => ?_)
      · exact tail v b k (by rw [hf, if_pos c_11]) hb1 H locs ls G (lv_sub hl [0, 1, 2, 3] rfl)
      · refine lv_aload_n hx hb dX0_leaveBlocks_14 rfl (lv_at hl 2 rfl) ?_
        refine lv_iload_n hx hb dX0_leaveBlocks_15 rfl (lv_at hl 1 rfl) ?_
        refine gx_callr (wf := gw0_ cI cZ h q) (u := v) (f := pd_isEnter v b) (As := [.int b]) (rest := []) 1 hx hb hml hown hts hK hA G rfl rfl (kd_isEnter l dC dI cI cZ h q _ v b hb1) gX0_leaveBlocks_X0_isEnter rfl rfl rfl hd_X0_isEnter ⟨Nat.le_of_ble_eq_true rfl, Nat.le_of_ble_eq_true rfl⟩ rfl hl.1 rfl (Nat.le_of_ble_eq_true rfl) dX0_leaveBlocks_16 (Nat.zero_le _) (Nat.zero_le _) (fun H locs G => ?_)
        refine lv_if_eq (tgt := 41) hx hb dX0_leaveBlocks_19 (by decide) (fun c_19 => ?_) (fun c_19 => ?_)
        · exact tail v b k (by rw [hf, if_neg c_11, if_pos c_19]) hb1 H locs ls G (lv_sub hl [0, 1, 2, 3] rfl)
        · refine lv_aload_n hx hb dX0_leaveBlocks_22 rfl (lv_at hl 2 rfl) ?_
          refine lv_iload_n hx hb dX0_leaveBlocks_23 rfl (lv_at hl 1 rfl) ?_
          refine gx_calli (wf := gw0_ cI cZ h q) (u := v) (f := pd_giveBack v b) (As := [.int b]) (rest := []) 1 hx hb hml hown hts hK hA G rfl rfl (kd_giveBack l dC dI cI cZ h q _ v b (ie_in hb1 c_19)) gX0_leaveBlocks_X0_giveBack rfl rfl rfl hd_X0_giveBack ⟨Nat.le_of_ble_eq_true rfl, Nat.le_of_ble_eq_true rfl⟩ rfl hl.1 rfl (Nat.le_of_ble_eq_true rfl) dX0_leaveBlocks_24 (Nat.zero_le _) (Nat.zero_le _) (fun H locs G => ?_)
          refine lv_pop hx hb dX0_leaveBlocks_27 rfl ?_
          refine lv_aload_n hx hb dX0_leaveBlocks_28 rfl (lv_at hl 2 rfl) ?_
          refine gg0_get (v := .ref (q 7)) hx hb hts hin hown hK G 7 (by decide) (index := 34) (by decide +kernel) rfl dX0_leaveBlocks_29 ?_
          refine lv_iload_n hx hb dX0_leaveBlocks_32 rfl (lv_at hl 1 rfl) ?_
          refine gg0_ld7 hx hb hK G (i := b) (ie_in hb1 c_19) dX0_leaveBlocks_33 ?_
          refine lv_istore_n (lv' := [(2, .int (((pd_giveBack v b).2).2 7 (ix b))), (3, .int k), (0, .ref h), (1, .int p0)]) hx hb dX0_leaveBlocks_34 rfl hl (by decide) rfl (fun ls hl => ?_)
          refine lv_iinc (v := k + (-1)) (lv' := [(3, .int (k + (-1))), (2, .int (((pd_giveBack v b).2).2 7 (ix b))), (0, .ref h), (1, .int p0)]) hx hb dX0_leaveBlocks_35 hl (k := 1) rfl (congrArg (fun z => k + z) (by decide)) (by decide) rfl (fun ls hl => ?_)
          refine lv_goto (tgt := 10) hx hb dX0_leaveBlocks_38 (by decide) ?_
          have q4 := c_11
          rw [Int32.le_iff_toInt_le, Int32.toInt_zero] at q4
          have q5 : (k + (-1)).toInt = k.toInt - 1 := by
            rw [Jvm.Kit.i32_add (by simp; omega) (by simp; omega)]; simp; omega
          have hbi := ie_in hb1 c_19
          exact ih (pd_giveBack v b).2 ((pd_giveBack v b).2.2 7 (ix b)) (k + (-1)) (by omega) (by omega) (by omega) (by rw [hf, if_neg c_11, if_neg c_19]) hv7 (by show v.2 7 (ix b) = -1 ∨ vp_in (v.2 7 (ix b)) 24; rw [hv7]; exact har _ (by have z := vp_in_iff.mp hbi; show b.toInt.toNat < 24; omega)) H locs ls G (lv_sub hl [0, 1, 2, 3] rfl)
  refine lv_aload_n hx hb dX0_leaveBlocks_0 rfl (lv_at hl 0 rfl) ?_
  refine gg0_get (v := .ref (q 7)) hx hb hts hin hown hK G 7 (by decide) (index := 34) (by decide +kernel) rfl dX0_leaveBlocks_1 ?_
  refine lv_iload_n hx hb dX0_leaveBlocks_4 rfl (lv_at hl 1 rfl) ?_
  refine gg0_ld7 hx hb hK G (i := p0) hp0 dX0_leaveBlocks_5 ?_
  refine lv_istore_n (lv' := [(2, .int (u.2 7 (ix p0))), (0, .ref h), (1, .int p0)]) hx hb dX0_leaveBlocks_6 rfl hl (by decide) rfl (fun ls hl => ?_)
  refine lv_bipush (v := 8) hx hb dX0_leaveBlocks_7 (by decide) ?_
  refine lv_istore_n (lv' := [(3, .int 8), (2, .int (u.2 7 (ix p0))), (0, .ref h), (1, .int p0)]) hx hb dX0_leaveBlocks_9 rfl hl (by decide) rfl (fun ls hl => ?_)
  exact loop 9 u _ 8 (by decide) (by decide) (by decide) rfl rfl (har _ (by have z := vp_in_iff.mp hp0; show p0.toInt.toNat < 24; omega)) _ _ ls G hl
theorem hd_X0_leaveBlocks : yX0_leaveBlocks.cls = RX0 ∧ yX0_leaveBlocks.cls ≠ "java/lang/invoke/MethodHandle" ∧ yX0_leaveBlocks.cls ≠ "java/lang/invoke/VarHandle" ∧ (parseMethodDescriptor yX0_leaveBlocks.desc).map (fun d => d.parameters.length) = some 1 := by decide +kernel
def pd_doStep (u : st_T) (p0 : Int32) : st_T :=
  if ((pd_perform (st_si u 15 0) p0).2).1 15 = 0 then
    st_sa ((pd_perform (st_si u 15 0) p0).2) 12 (ix p0) ((pd_perform (st_si u 15 0) p0).1)
  else
    pd_leaveBlocks (st_sa ((pd_perform (st_si u 15 0) p0).2) 12 (ix p0) ((((pd_perform (st_si u 15 0) p0).2).1 15) + (-1000))) p0
set_option maxHeartbeats 4000000 in
set_option maxRecDepth 100000 in
theorem kd_doStep (l : Launch) (dC : Nat → ClassId) (dI : Nat → Nat → Nat) (cI cZ : ClassId) (h : Nat) (q : Nat → Nat) (sz : Nat) (u : st_T) (p0 : Int32) (hp0 : vp_in p0 24) (hfl : u.1 4 = 0 ∨ u.1 4 = 1) (har : u.2 7 (ix p0) = -1 ∨ vp_in (u.2 7 (ix p0)) 24) (har2 : ∀ j : Nat, j < 24 → (pd_perform (st_si u 15 0) p0).2.2 7 j = -1 ∨ vp_in ((pd_perform (st_si u 15 0) p0).2.2 7 j) 24) : gx_Mv l yX0_doStep wsX0_doStep { frames := 4, cells := 0, slots := 0, locals := 89 } [.ref h, .int p0] (dC, dI) cI cZ (gw0_ cI cZ h q) u sz (pd_doStep u p0) := by
  refine gx_met (cc := cX0_doStep) (maxL := 3) (ret := none) (by decide +kernel) rfl (Nat.le_of_ble_eq_true rfl) (fun p e s m args below meth c A ls hsz hx hb hr hlocks hts hown hml hK hAe hA G hl => ?_)
  have hown : s.vm.findClass RX0 = some m.cls := hown
  have hin : ∀ w ∈ wsX00, w ∈ wsX0_doStep := gx_in
  have hl : lv_has ls 3 [(0, .ref h), (1, .int p0)] := hl
  refine lv_aload_n hx hb dX0_doStep_0 rfl (lv_at hl 0 rfl) ?_
  refine lv_iconst (v := 0) hx hb dX0_doStep_1 (by decide) ?_
  refine gg0_put15 (v := 0) hx hb hts hin hown hK G (index := 58) (by decide +kernel) dX0_doStep_2 (fun H locs G => ?_)
  refine lv_aload_n hx hb dX0_doStep_5 rfl (lv_at hl 0 rfl) ?_
  refine lv_iload_n hx hb dX0_doStep_6 rfl (lv_at hl 1 rfl) ?_
  refine gx_calli (wf := gw0_ cI cZ h q) (u := st_si u 15 0) (f := pd_perform (st_si u 15 0) p0) (As := [.int p0]) (rest := []) 1 hx hb hml hown hts hK hA G rfl rfl (kd_perform l dC dI cI cZ h q _ (st_si u 15 0) p0 hp0 hfl har) gX0_doStep_X0_perform rfl rfl rfl hd_X0_perform ⟨Nat.le_of_ble_eq_true rfl, Nat.le_of_ble_eq_true rfl⟩ rfl hl.1 rfl (Nat.le_of_ble_eq_true rfl) dX0_doStep_7 (Nat.zero_le _) (Nat.zero_le _) (fun H locs G => ?_)
  refine lv_istore_n (lv' := [(2, .int ((pd_perform (st_si u 15 0) p0).1)), (0, .ref h), (1, .int p0)]) hx hb dX0_doStep_10 rfl hl (by decide) rfl (fun ls hl => ?_)
  refine lv_aload_n hx hb dX0_doStep_11 rfl (lv_at hl 1 rfl) ?_
  refine gg0_get (v := .int (((pd_perform (st_si u 15 0) p0).2).1 15)) hx hb hts hin hown hK G 15 (by decide) (index := 58) (by decide +kernel) rfl dX0_doStep_12 ?_
  refine lv_if_ne (tgt := 28) hx hb dX0_doStep_15 (by decide) (fun c_15 => ?_) (fun c_15 => ?_)
  · refine lv_aload_n hx hb dX0_doStep_28 rfl (lv_at hl 1 rfl) ?_
    refine gg0_get (v := .ref (q 12)) hx hb hts hin hown hK G 12 (by decide) (index := 49) (by decide +kernel) rfl dX0_doStep_29 ?_
    refine lv_iload_n hx hb dX0_doStep_32 rfl (lv_at hl 2 rfl) ?_
    refine lv_aload_n hx hb dX0_doStep_33 rfl (lv_at hl 1 rfl) ?_
    refine gg0_get (v := .int (((pd_perform (st_si u 15 0) p0).2).1 15)) hx hb hts hin hown hK G 15 (by decide) (index := 58) (by decide +kernel) rfl dX0_doStep_34 ?_
    refine lv_sipush (v := (-1000)) hx hb dX0_doStep_37 (by decide) ?_
    refine lv_iadd hx hb dX0_doStep_40 ?_
    refine gg0_st12 hx hb hK G (i := p0) (x := (((pd_perform (st_si u 15 0) p0).2).1 15) + (-1000)) hp0 dX0_doStep_41 (fun H locs G => ?_)
    refine lv_aload_n hx hb dX0_doStep_42 rfl (lv_at hl 1 rfl) ?_
    refine lv_iload_n hx hb dX0_doStep_43 rfl (lv_at hl 2 rfl) ?_
    refine gx_callv (wf := gw0_ cI cZ h q) (u := st_sa ((pd_perform (st_si u 15 0) p0).2) 12 (ix p0) ((((pd_perform (st_si u 15 0) p0).2).1 15) + (-1000))) (f := pd_leaveBlocks (st_sa ((pd_perform (st_si u 15 0) p0).2) 12 (ix p0) ((((pd_perform (st_si u 15 0) p0).2).1 15) + (-1000))) p0) (As := [.int p0]) (rest := []) 1 hx hb hml hown hts hK hA G rfl rfl (kd_leaveBlocks l dC dI cI cZ h q _ (st_sa ((pd_perform (st_si u 15 0) p0).2) 12 (ix p0) ((((pd_perform (st_si u 15 0) p0).2).1 15) + (-1000))) p0 hp0 har2) gX0_doStep_X0_leaveBlocks rfl rfl rfl hd_X0_leaveBlocks ⟨Nat.le_of_ble_eq_true rfl, Nat.le_of_ble_eq_true rfl⟩ rfl hl.1 rfl (Nat.le_of_ble_eq_true rfl) dX0_doStep_44 (Nat.zero_le _) (Nat.zero_le _) (fun H locs G => ?_)
    exact gx_vret (wf := gw0_ cI cZ h q) (u1 := pd_leaveBlocks (st_sa ((pd_perform (st_si u 15 0) p0).2) 12 (ix p0) ((((pd_perform (st_si u 15 0) p0).2).1 15) + (-1000))) p0) hx hb hr hlocks hsz hK hAe G dX0_doStep_47 (by unfold pd_doStep; rw [if_neg c_15])
  · refine lv_aload_n hx hb dX0_doStep_18 rfl (lv_at hl 1 rfl) ?_
    refine gg0_get (v := .ref (q 12)) hx hb hts hin hown hK G 12 (by decide) (index := 49) (by decide +kernel) rfl dX0_doStep_19 ?_
    refine lv_iload_n hx hb dX0_doStep_22 rfl (lv_at hl 2 rfl) ?_
    refine lv_iload_n hx hb dX0_doStep_23 rfl (lv_at hl 0 rfl) ?_
    refine gg0_st12 hx hb hK G (i := p0) (x := (pd_perform (st_si u 15 0) p0).1) hp0 dX0_doStep_24 (fun H locs G => ?_)
    refine lv_goto (tgt := 47) hx hb dX0_doStep_25 (by decide) ?_
    exact gx_vret (wf := gw0_ cI cZ h q) (u1 := st_sa ((pd_perform (st_si u 15 0) p0).2) 12 (ix p0) ((pd_perform (st_si u 15 0) p0).1)) hx hb hr hlocks hsz hK hAe G dX0_doStep_47 (by unfold pd_doStep; rw [if_pos c_15])
theorem hd_X0_doStep : yX0_doStep.cls = RX0 ∧ yX0_doStep.cls ≠ "java/lang/invoke/MethodHandle" ∧ yX0_doStep.cls ≠ "java/lang/invoke/VarHandle" ∧ (parseMethodDescriptor yX0_doStep.desc).map (fun d => d.parameters.length) = some 1 := by decide +kernel
end
section
/-! Arrays.fill, and the class's run -/
theorem pj_fill_0 (v : Int32) (f : Nat → Int32) : pj_fill 0 v f = f := funext fun j => if_neg (Nat.not_lt_zero j)
theorem pj_fill_s {i : Nat} (hi : i < 2 ^ 31) (v : Int32) (f : Nat → Int32) : upd (pj_fill i v f) (ix (nI i)) v = pj_fill (i + 1) v f := by
  funext j
  have e : ix (nI i) = i := nI_clamp hi
  rw [e]
  unfold upd pj_fill
  by_cases h1 : j = i
  · rw [if_pos h1, if_pos (by omega)]
  · rw [if_neg h1]
    by_cases h2 : j < i
    · rw [if_pos h2, if_pos (by omega)]
    · rw [if_neg h2, if_neg (by omega)]
set_option maxHeartbeats 4000000 in
set_option maxRecDepth 100000 in
theorem kj_fill (l : Launch) (dC : Nat → ClassId) (dI : Nat → Nat → Nat) (cI cZ : ClassId) (a n sz : Nat) (hn : n < 2 ^ 31) (f : Nat → Int32) (v : Int32) : gx_Mv l yJ7_fill_53178 wsJ7_fill_53178 { frames := 0, cells := 0, slots := 0, locals := 0 } [.ref a, .int v] (dC, dI) cI cZ (fun f : Nat → Int32 => [(a, .inl (cI, n, .inl f))]) f sz (pj_fill n v f) := by
  refine gx_met (cc := cJ7_fill_53178) (maxL := 4) (ret := none) (by decide +kernel) rfl (Nat.le_of_ble_eq_true rfl) (fun p e s m args below meth c A ls hsz hx hb hr hlocks hts hown hml hK hAe hA G hl => ?_)
  have hl : lv_has ls 4 [(0, .ref a), (1, .int v)] := hl
  have loop : ∀ (k i : Nat), i ≤ n → n - i < k → ∀ (H : Heap) (locs : List Loc) (ls : Array Slot), gx_ (dC, dI) A s.heap H locs [(a, .inl (cI, n, .inl (pj_fill i v f)))] → lv_has ls 4 [(2, .int (nI i)), (3, .int (nI n)), (0, .ref a), (1, .int v)] → W p l e { frames := 0, cells := 0, slots := 0, locals := 0 } s m args below meth c H locs 0 0 (MQ below (va_Qv (fun u1 => u1 = pj_fill n v f) (gx_O (dC, dI) cI cZ (fun f : Nat → Int32 => [(a, .inl (cI, n, .inl f))]) [(a, .inl (cI, n, .inl f))] sz) (va_A [(a, .inl (cI, n, .inl f))] sz)) args s 0 0 (va_A [(a, .inl (cI, n, .inl f))] sz)) (F0 m 5 ls []) := by
    intro k
    induction k with
    | zero => intro i h1 h2; exact absurd h2 (Nat.not_lt_zero _)
    | succ k ih =>
      intro i h1 h2 H locs ls G hl
      refine lv_iload_n hx hb dJ7_fill_53178_5 rfl (lv_at hl 0 rfl) ?_
      refine lv_iload_n hx hb dJ7_fill_53178_6 rfl (lv_at hl 1 rfl) ?_
      refine lv_icmp_ge (tgt := 20) hx hb dJ7_fill_53178_7 (by decide) (fun c_7 => ?_) (fun c_7 => ?_)
      · have e : i = n := by
          rw [nI_leI hn (by omega)] at c_7
          omega
        subst e
        exact gx_vret (wf := fun f : Nat → Int32 => [(a, .inl (cI, i, .inl f))]) (u1 := pj_fill i v f) hx hb hr hlocks hsz hK hAe G dJ7_fill_53178_20 rfl
      · have e : i < n := by
          rw [nI_leI hn (by omega)] at c_7
          omega
        refine lv_aload_n hx hb dJ7_fill_53178_10 rfl (lv_at hl 2 rfl) ?_
        refine lv_iload_n hx hb dJ7_fill_53178_11 rfl (lv_at hl 0 rfl) ?_
        refine lv_iload_n hx hb dJ7_fill_53178_12 rfl (lv_at hl 3 rfl) ?_
        refine va_iast hx hb hK G.1 G.2.1 G.2.2 0 0 (n := n) (f := pj_fill i v f) rfl rfl (vp_in_nI e hn) dJ7_fill_53178_13 (fun H locs g1 g2 g3 => ?_)
        refine lv_iinc (v := nI (i + 1)) (lv' := [(2, .int (nI (i + 1))), (3, .int (nI n)), (0, .ref a), (1, .int v)]) hx hb dJ7_fill_53178_14 hl (k := 0) rfl (nI_1 i) (by decide) rfl (fun ls hl => ?_)
        refine lv_goto (tgt := 5) hx hb dJ7_fill_53178_17 (by decide) ?_
        have g1 : va_P (dC, dI) vwCl [(a, .inl (cI, n, .inl (upd (pj_fill i v f) (ix (nI i)) v)))] H := g1
        have g2 : va_D A [(a, .inl (cI, n, .inl (upd (pj_fill i v f) (ix (nI i)) v)))] := g2
        rw [pj_fill_s (by omega)] at g1 g2
        exact ih (i + 1) (by omega) (by omega) H locs ls ⟨g1, g2, g3⟩ hl
  refine lv_iconst (v := 0) hx hb dJ7_fill_53178_0 (by decide) ?_
  refine lv_istore_n (lv' := [(2, .int 0), (0, .ref a), (1, .int v)]) hx hb dJ7_fill_53178_1 rfl hl (by decide) rfl (fun ls hl => ?_)
  refine lv_aload_n hx hb dJ7_fill_53178_2 rfl (lv_at hl 1 rfl) ?_
  refine va_alen (v := nI n) hx hb hK G.1 0 0 rfl rfl rfl dJ7_fill_53178_3 ?_
  refine lv_istore_n (lv' := [(3, .int (nI n)), (2, .int 0), (0, .ref a), (1, .int v)]) hx hb dJ7_fill_53178_4 rfl hl (by decide) rfl (fun ls hl => ?_)
  refine loop (n + 1) 0 (Nat.zero_le _) (by omega) s.heap [] ls ?_ (by rw [nI_0]; exact lv_sub hl [1, 0, 2, 3] rfl)
  rw [pj_fill_0]
  exact G
theorem hd_J7_fill : yJ7_fill_53178.cls ≠ "java/lang/invoke/MethodHandle" ∧ yJ7_fill_53178.cls ≠ "java/lang/invoke/VarHandle" ∧ (parseMethodDescriptor yJ7_fill_53178.desc).map (fun d => d.parameters.length) = some 2 := by decide +kernel
section GXF
variable {p : Program} {l : Launch} {e : Env} {R : Room} {s : State} {m : MethodId} {args : Array Value} {below : List Frame} {meth : Method} {c : Code} {H : Heap} {locs : List Loc} {cells slots : Nat} {Q : State → Prop}
variable {cc : ByteArray} {pc : Nat} {ls : Array Slot} {rest : List Value} {dC : Nat → ClassId} {dI : Nat → Nat → Nat} {A : Nat → Prop} {H0 : Heap} {cI cZ : ClassId} {Ts : List Cond} {own : String}
theorem gx_fill {ws : va_W} {pl a n : Nat} {f : Nat → Int32} {v : Int32} {index nL : Nat} (hx : p.tables.exec = Jvm.exec) (hb : c.code = cc) (hml : c.maxLocals = nL) (hown : s.vm.findClass own = some m.cls) (hts : ∀ w ∈ Ts, w.before args s = true) (hK : va_K (dC, dI) vwCl (ty_IZ cI cZ) s) (hA : ∀ x, H0.size ≤ x → A x) (G : gx_ (dC, dI) A H0 H locs ws)
    (ha : ws[pl]? = some (a, .inl (cI, n, .inl f))) (hn : n < 2 ^ 31) (gin : GoodIn Ts (va_wsS own index yJ7_fill_53178 wsJ7_fill_53178)) (hR : 0 + 1 ≤ R.frames ∧ 8 + (4 + 11) + 0 ≤ R.locals) (hls : ls.size = nL) (hroom : (rest.map fun v => v.category).sum ≤ 8) (hdg : decode cc pc = .ok (.invokestatic index, 3)) (hcl : cells ≤ R.cells) (hsl : slots ≤ R.slots)
    (kk : ∀ (H1 : Heap) (locs1 : List Loc), gx_ (dC, dI) A H0 H1 locs1 (ws.set pl (a, .inl (cI, n, .inl (pj_fill n v f)))) → W p l e R s m args below meth c H1 locs1 cells slots Q (F0 m (pc + 3) ls rest)) : W p l e R s m args below meth c H locs cells slots Q (F0 m pc ls (.int v :: .ref a :: rest)) := by
  obtain ⟨hP, hD, hS⟩ := G
  have hPc := hP.sub (ws' := [(a, .inl (cI, n, .inl f))]) [pl] (by simp [ha])
  have hDc := hD.sub (ws' := [(a, .inl (cI, n, .inl f))]) [pl] (by simp [va_nd]) (by simp [ha])
  have hFc := va_free (wc := [(a, .inl (cI, n, .inl f))]) hD hS hA [pl] (by simp [ha])
  refine va_callv (va_runS (As := [.ref a, .int v]) (rest := rest) ⟨hx, hb, hml, hown, hts⟩ (kj_fill l dC dI cI cZ a n H.size hn f v) (va_cwS 2 hts gin rfl rfl rfl hd_J7_fill hR) ⟨gx_blind, fun U hU hW => ⟨rfl, by rw [hU], by rw [hU]; exact hPc, va_K.moved hW.alike hK, hDc.weaken (fun _ _ _ _ => trivial)⟩⟩ rfl rfl hls rfl (lv_room hroom) hdg ⟨hcl, hsl⟩) hS (fun x _ h => hFc x h) hFc (fun u1 t H1 locs1 ht hvm hw hB hz1 hk1 hS1 => ?_)
  obtain ⟨hP1, hK1, hD1⟩ := hB
  subst hw
  rw [ht] at hP1
  refine kk H1 locs1 ⟨?_, hD.set ha, hS1⟩
  have hlp := (List.getElem?_eq_some_iff.mp ha).1
  intro k x hk
  by_cases hkp : k = pl
  · subst hkp
    rw [List.getElem?_set_self hlp] at hk
    cases hk
    exact hP1 0 _ rfl
  · rw [List.getElem?_set_ne (Ne.symm hkp)] at hk
    refine (hP k x hk).kept (hk1 x.1 (hP k x hk).lt ?_)
    rintro (⟨j, e1, hj⟩ | hj)
    · cases j with
      | zero => exact hkp (hD.1 k pl x _ hk ha (by cases hj; rfl))
      | succ j => cases hj
    · exact absurd (hP k x hk).lt (by show ¬ x.1 < H.size; omega)
end GXF
def pd_rl : Nat → st_T → Int32 → Int32 → Int32 × st_T
  | 0, u, d, _ => (d, u)
  | n + 1, u, d, i => if u.1 9 ≤ i then (d, u) else if i < u.1 16 then pd_rl n u d (i + 1) else pd_rl n (pd_doStep u i) (d + 1) (i + 1)
theorem pd_rl_s (n : Nat) (u : st_T) (d i : Int32) : pd_rl (n + 1) u d i = if u.1 9 ≤ i then (d, u) else if i < u.1 16 then pd_rl n u d (i + 1) else pd_rl n (pd_doStep u i) (d + 1) (i + 1) := rfl
def pd_sok (u : st_T) (p0 : Int32) : Prop := vp_in p0 24 ∧ (u.1 4 = 0 ∨ u.1 4 = 1) ∧ (u.2 7 (ix p0) = -1 ∨ vp_in (u.2 7 (ix p0)) 24) ∧ ∀ j : Nat, j < 24 → (pd_perform (st_si u 15 0) p0).2.2 7 j = -1 ∨ vp_in ((pd_perform (st_si u 15 0) p0).2.2 7 j) 24
def pd_rok : Nat → st_T → Int32 → Prop
  | 0, _, _ => False
  | n + 1, u, i => if u.1 9 ≤ i then True else if i < u.1 16 then pd_rok n u (i + 1) else pd_sok u i ∧ pd_rok n (pd_doStep u i) (i + 1)
def pd_r0 (u : st_T) : st_T := st_si (st_si (st_sf (st_sf u 12 (pj_fill 24 (-9) (u.2 12))) 14 (pj_fill 5 0 ((st_sf u 12 (pj_fill 24 (-9) (u.2 12))).2 14))) 13 0) 16 0
def pd_run (u : st_T) : Int32 × st_T := if u.1 10 = 0 then pd_rl 25 (pd_r0 u) 0 0 else (-1, u)
set_option maxHeartbeats 4000000 in
set_option maxRecDepth 100000 in
theorem kd_run (l : Launch) (dC : Nat → ClassId) (dI : Nat → Nat → Nat) (cI cZ : ClassId) (h : Nat) (q : Nat → Nat) (sz : Nat) (u : st_T) (hok : u.1 10 = 0 → pd_rok 25 (pd_r0 u) 0) : gx_Mi l yX0_run wsX0_run { frames := 5, cells := 0, slots := 0, locals := 111 } [.ref h] (dC, dI) cI cZ (gw0_ cI cZ h q) u sz (pd_run u) := by
  refine gx_met (cc := cX0_run) (maxL := 3) (ret := (some .int)) (by decide +kernel) rfl (Nat.le_of_ble_eq_true rfl) (fun p e s m args below meth c A ls hsz hx hb hr hlocks hts hown hml hK hAe hA G hl => ?_)
  have hown : s.vm.findClass RX0 = some m.cls := hown
  have hin : ∀ w ∈ wsX00, w ∈ wsX0_run := gx_in
  have hl : lv_has ls 3 [(0, .ref h)] := hl
  have loop : ∀ (n : Nat) (v : st_T) (d i : Int32), pd_rok n v i → pd_run u = pd_rl n v d i → ∀ (H : Heap) (locs : List Loc) (ls : Array Slot), gx_ (dC, dI) A s.heap H locs (gw0_ cI cZ h q v) → lv_has ls 3 [(2, .int i), (1, .int d), (0, .ref h)] → W p l e { frames := 5, cells := 0, slots := 0, locals := 111 } s m args below meth c H locs 0 0 (MQ below (va_Qi (fun r u1 => r = (pd_run u).1 ∧ u1 = (pd_run u).2) (gx_O (dC, dI) cI cZ (gw0_ cI cZ h q) (gw0_ cI cZ h q u) sz) (va_A (gw0_ cI cZ h q u) sz)) args s 0 0 (va_A (gw0_ cI cZ h q u) sz)) (F0 m 40 ls []) := by
    intro n
    induction n with
    | zero => intro v d i h1; exact h1.elim
    | succ n ih =>
      intro v d i hok hf H locs ls G hl
      rw [pd_rl_s n v d i] at hf
      have hs : ¬ v.1 9 ≤ i → ¬ i < v.1 16 → pd_sok v i ∧ pd_rok n (pd_doStep v i) (i + 1) := by
        intro a b
        rw [pd_rok, if_neg a, if_neg b] at hok
        exact hok
      have hs2 : ¬ v.1 9 ≤ i → i < v.1 16 → pd_rok n v (i + 1) := by
        intro a b
        rw [pd_rok, if_neg a, if_pos b] at hok
        exact hok
      refine lv_iload_n hx hb dX0_run_40 rfl (lv_at hl 0 rfl) ?_
      refine lv_aload_n hx hb dX0_run_41 rfl (lv_at hl 2 rfl) ?_
      refine gg0_get (v := .int (v.1 9)) hx hb hts hin hown hK G 9 (by decide) (index := 40) (by decide +kernel) rfl dX0_run_42 ?_
      refine lv_icmp_ge (tgt := 70) hx hb dX0_run_45 (by decide) (fun c_45 => ?_) (fun c_45 => ?_)
      · refine lv_iload_n hx hb dX0_run_70 rfl (lv_at hl 1 rfl) ?_
        exact gx_iret (wf := gw0_ cI cZ h q) (u1 := v) hx hb hr hlocks hsz hK hAe G dX0_run_71 (by rw [hf, if_pos c_45])
      · refine lv_iload_n hx hb dX0_run_48 rfl (lv_at hl 0 rfl) ?_
        refine lv_aload_n hx hb dX0_run_49 rfl (lv_at hl 2 rfl) ?_
        refine gg0_get (v := .int (v.1 16)) hx hb hts hin hown hK G 16 (by decide) (index := 61) (by decide +kernel) rfl dX0_run_50 ?_
        refine lv_icmp_lt (tgt := 64) hx hb dX0_run_53 (by decide) (fun c_53 => ?_) (fun c_53 => ?_)
        · refine lv_iinc (v := i + 1) (lv' := [(2, .int (i + 1)), (1, .int d), (0, .ref h)]) hx hb dX0_run_64 hl (k := 0) rfl (congrArg (fun z => i + z) (by decide)) (by decide) rfl (fun ls hl => ?_)
          refine lv_goto (tgt := 40) hx hb dX0_run_67 (by decide) ?_
          exact ih v d (i + 1) (hs2 c_45 c_53) (by rw [hf, if_neg c_45, if_pos c_53]) H locs ls G (lv_sub hl [0, 1, 2] rfl)
        · refine lv_aload_n hx hb dX0_run_56 rfl (lv_at hl 2 rfl) ?_
          refine lv_iload_n hx hb dX0_run_57 rfl (lv_at hl 0 rfl) ?_
          refine gx_callv (wf := gw0_ cI cZ h q) (u := v) (f := pd_doStep v i) (As := [.int i]) (rest := []) 1 hx hb hml hown hts hK hA G rfl rfl (kd_doStep l dC dI cI cZ h q _ v i (hs c_45 c_53).1.1 (hs c_45 c_53).1.2.1 (hs c_45 c_53).1.2.2.1 (hs c_45 c_53).1.2.2.2) gX0_run_X0_doStep rfl rfl rfl hd_X0_doStep ⟨Nat.le_of_ble_eq_true rfl, Nat.le_of_ble_eq_true rfl⟩ rfl hl.1 rfl (Nat.le_of_ble_eq_true rfl) dX0_run_58 (Nat.zero_le _) (Nat.zero_le _) (fun H locs G => ?_)
          refine lv_iinc (v := d + 1) (lv' := [(1, .int (d + 1)), (2, .int i), (0, .ref h)]) hx hb dX0_run_61 hl (k := 1) rfl (congrArg (fun z => d + z) (by decide)) (by decide) rfl (fun ls hl => ?_)
          refine lv_iinc (v := i + 1) (lv' := [(2, .int (i + 1)), (1, .int (d + 1)), (0, .ref h)]) hx hb dX0_run_64 hl (k := 1) rfl (congrArg (fun z => i + z) (by decide)) (by decide) rfl (fun ls hl => ?_)
          refine lv_goto (tgt := 40) hx hb dX0_run_67 (by decide) ?_
          exact ih (pd_doStep v i) (d + 1) (i + 1) (hs c_45 c_53).2 (by rw [hf, if_neg c_45, if_neg c_53]) H locs ls G (lv_sub hl [0, 1, 2] rfl)
  refine lv_aload_n hx hb dX0_run_0 rfl (lv_at hl 0 rfl) ?_
  refine gg0_get (v := .int (u.1 10)) hx hb hts hin hown hK G 10 (by decide) (index := 43) (by decide +kernel) rfl dX0_run_1 ?_
  refine lv_if_eq (tgt := 9) hx hb dX0_run_4 (by decide) (fun c_4 => ?_) (fun c_4 => ?_)
  · refine lv_aload_n hx hb dX0_run_9 rfl (lv_at hl 0 rfl) ?_
    refine gg0_get (v := .ref (q 12)) hx hb hts hin hown hK G 12 (by decide) (index := 49) (by decide +kernel) rfl dX0_run_10 ?_
    refine lv_bipush (v := (-9)) hx hb dX0_run_13 (by decide) ?_
    refine gx_fill (pl := 7) (rest := []) (v := (-9)) hx hb hml hown hts hK hA G rfl (Nat.le_of_ble_eq_true rfl) gX0_run_J7_fill_53178 ⟨Nat.le_of_ble_eq_true rfl, Nat.le_of_ble_eq_true rfl⟩ hl.1 (Nat.le_of_ble_eq_true rfl) dX0_run_15 (Nat.zero_le _) (Nat.zero_le _) (fun H locs G => ?_)
    have G : gx_ (dC, dI) A s.heap H locs (gw0_ cI cZ h q (st_sf u 12 (pj_fill 24 (-9) (u.2 12)))) := G
    refine lv_aload_n hx hb dX0_run_18 rfl (lv_at hl 0 rfl) ?_
    refine gg0_get (v := .ref (q 14)) hx hb hts hin hown hK G 14 (by decide) (index := 55) (by decide +kernel) rfl dX0_run_19 ?_
    refine lv_iconst (v := 0) hx hb dX0_run_22 (by decide) ?_
    refine gx_fill (pl := 8) (rest := []) (v := 0) hx hb hml hown hts hK hA G rfl (Nat.le_of_ble_eq_true rfl) gX0_run_J7_fill_53178 ⟨Nat.le_of_ble_eq_true rfl, Nat.le_of_ble_eq_true rfl⟩ hl.1 (Nat.le_of_ble_eq_true rfl) dX0_run_23 (Nat.zero_le _) (Nat.zero_le _) (fun H locs G => ?_)
    have G : gx_ (dC, dI) A s.heap H locs (gw0_ cI cZ h q (st_sf (st_sf u 12 (pj_fill 24 (-9) (u.2 12))) 14 (pj_fill 5 0 ((st_sf u 12 (pj_fill 24 (-9) (u.2 12))).2 14)))) := G
    refine lv_aload_n hx hb dX0_run_26 rfl (lv_at hl 0 rfl) ?_
    refine lv_iconst (v := 0) hx hb dX0_run_27 (by decide) ?_
    refine gg0_put13 (v := 0) hx hb hts hin hown hK G (index := 52) (by decide +kernel) dX0_run_28 (fun H locs G => ?_)
    refine lv_aload_n hx hb dX0_run_31 rfl (lv_at hl 0 rfl) ?_
    refine lv_iconst (v := 0) hx hb dX0_run_32 (by decide) ?_
    refine gg0_put16 (v := 0) hx hb hts hin hown hK G (index := 61) (by decide +kernel) dX0_run_33 (fun H locs G => ?_)
    refine lv_iconst (v := 0) hx hb dX0_run_36 (by decide) ?_
    refine lv_istore_n (lv' := [(1, .int 0), (0, .ref h)]) hx hb dX0_run_37 rfl hl (by decide) rfl (fun ls hl => ?_)
    refine lv_iconst (v := 0) hx hb dX0_run_38 (by decide) ?_
    refine lv_istore_n (lv' := [(2, .int 0), (1, .int 0), (0, .ref h)]) hx hb dX0_run_39 rfl hl (by decide) rfl (fun ls hl => ?_)
    exact loop 25 (pd_r0 u) 0 0 (hok c_4) (by unfold pd_run; rw [if_pos c_4]) _ _ ls G (lv_sub hl [0, 1, 2] rfl)
  · refine lv_iconst (v := (-1)) hx hb dX0_run_7 (by decide) ?_
    exact gx_iret (wf := gw0_ cI cZ h q) (u1 := u) hx hb hr hlocks hsz hK hAe G dX0_run_8 (by unfold pd_run; rw [if_neg c_4])
theorem hd_X0_run : yX0_run.cls = RX0 ∧ yX0_run.cls ≠ "java/lang/invoke/MethodHandle" ∧ yX0_run.cls ≠ "java/lang/invoke/VarHandle" ∧ (parseMethodDescriptor yX0_run.desc).map (fun d => d.parameters.length) = some 0 := by decide +kernel
end
section
/-! the reference: a pure function and a contract for each method -/
theorem pi_in {x M : Int32} {n : Nat} (hM : M.toInt = n) (h : ¬ pm_in x M = 0) : vp_in x n := by
  by_cases h1 : x < 0
  · exact absurd (by unfold pm_in; rw [if_pos h1]) h
  · by_cases h2 : M ≤ x
    · exact absurd (by unfold pm_in; rw [if_neg h1, if_pos h2]) h
    · exact in_1 hM h1 h2
theorem ix_lt {x : Int32} {n : Nat} (h : vp_in x n) : ix x < n := by
  have z := vp_in_iff.mp h
  show x.toInt.toNat < n
  omega
def pm_hold (u : st_T) (p0 p1 : Int32) : Int32 × st_T :=
  if pm_in p0 5 = 0 then
    ((-1), u)
  else
    if p1 < (-2) then
      ((-1), u)
    else
      if p1 ≤ 4 then
        if p1 = (-2) then
          (0, st_sa (st_si u 2 ((u.1 2) + 1)) 0 (ix p0) ((u.1 2) + 1))
        else
          if p1 = (-1) then
            (0, st_sa u 0 (ix p0) 0)
          else
            (0, st_sa u 0 (ix p0) (u.2 0 (ix p1)))
      else
        ((-1), u)
set_option maxHeartbeats 4000000 in
set_option maxRecDepth 100000 in
theorem km_hold (l : Launch) (dC : Nat → ClassId) (dI : Nat → Nat → Nat) (cI cZ : ClassId) (h : Nat) (q : Nat → Nat) (sz : Nat) (u : st_T) (p0 p1 : Int32) : gx_Mi l yX1_hold wsX1_hold { frames := 1, cells := 0, slots := 0, locals := 21 } [.ref h, .int p0, .int p1] (dC, dI) cI cZ (gw1_ cI cZ h q) u sz (pm_hold u p0 p1) := by
  refine gx_met (cc := cX1_hold) (maxL := 3) (ret := (some .int)) (by decide +kernel) rfl (Nat.le_of_ble_eq_true rfl) (fun p e s m args below meth c A ls hsz hx hb hr hlocks hts hown hml hK hAe hA G hl => ?_)
  have hown : s.vm.findClass RX1 = some m.cls := hown
  have hin : ∀ w ∈ wsX10, w ∈ wsX1_hold := gx_in
  have hl : lv_has ls 3 [(0, .ref h), (1, .int p0), (2, .int p1)] := hl
  refine lv_iload_n hx hb dX1_hold_0 rfl (lv_at hl 1 rfl) ?_
  refine lv_iconst (v := 5) hx hb dX1_hold_1 (by decide) ?_
  refine gx_calls (f := pm_in p0 5) (As := [.int p0, .int 5]) (rest := []) 2 hx hb hml hown hts (km_in l p0 5 ) gX1_hold_X1_in rfl rfl rfl hd_X1_in ⟨Nat.le_of_ble_eq_true rfl, Nat.le_of_ble_eq_true rfl⟩ rfl hl.1 rfl (Nat.le_of_ble_eq_true rfl) dX1_hold_2 (Nat.zero_le _) (Nat.zero_le _) ?_
  refine lv_if_eq (tgt := 19) hx hb dX1_hold_5 (by decide) (fun c_5 => ?_) (fun c_5 => ?_)
  · refine lv_iconst (v := (-1)) hx hb dX1_hold_19 (by decide) ?_
    exact gx_iret (wf := gw1_ cI cZ h q) (u1 := u) hx hb hr hlocks hsz hK hAe G dX1_hold_20 (by unfold pm_hold; rw [if_pos c_5])
  · refine lv_iload_n hx hb dX1_hold_8 rfl (lv_at hl 2 rfl) ?_
    refine lv_bipush (v := (-2)) hx hb dX1_hold_9 (by decide) ?_
    refine lv_icmp_lt (tgt := 19) hx hb dX1_hold_11 (by decide) (fun c_11 => ?_) (fun c_11 => ?_)
    · refine lv_iconst (v := (-1)) hx hb dX1_hold_19 (by decide) ?_
      exact gx_iret (wf := gw1_ cI cZ h q) (u1 := u) hx hb hr hlocks hsz hK hAe G dX1_hold_20 (by unfold pm_hold; rw [if_neg c_5, if_pos c_11])
    · refine lv_iload_n hx hb dX1_hold_14 rfl (lv_at hl 2 rfl) ?_
      refine lv_iconst (v := 4) hx hb dX1_hold_15 (by decide) ?_
      refine lv_icmp_le (tgt := 21) hx hb dX1_hold_16 (by decide) (fun c_16 => ?_) (fun c_16 => ?_)
      · refine lv_iload_n hx hb dX1_hold_21 rfl (lv_at hl 2 rfl) ?_
        refine lv_bipush (v := (-2)) hx hb dX1_hold_22 (by decide) ?_
        refine lv_icmp_ne (tgt := 50) hx hb dX1_hold_24 (by decide) (fun c_24 => ?_) (fun c_24 => ?_)
        · refine lv_aload_n hx hb dX1_hold_50 rfl (lv_at hl 0 rfl) ?_
          refine gg1_get (v := .ref (q 0)) hx hb hts hin hown hK G 0 (by decide) (index := 7) (by decide +kernel) rfl dX1_hold_51 ?_
          refine lv_iload_n hx hb dX1_hold_54 rfl (lv_at hl 1 rfl) ?_
          refine lv_iload_n hx hb dX1_hold_55 rfl (lv_at hl 2 rfl) ?_
          refine lv_iconst (v := (-1)) hx hb dX1_hold_56 (by decide) ?_
          refine lv_icmp_ne (tgt := 64) hx hb dX1_hold_57 (by decide) (fun c_57 => ?_) (fun c_57 => ?_)
          · refine lv_aload_n hx hb dX1_hold_64 rfl (lv_at hl 0 rfl) ?_
            refine gg1_get (v := .ref (q 0)) hx hb hts hin hown hK G 0 (by decide) (index := 7) (by decide +kernel) rfl dX1_hold_65 ?_
            refine lv_iload_n hx hb dX1_hold_68 rfl (lv_at hl 2 rfl) ?_
            refine gg1_ld0 hx hb hK G (i := p1) (in_4 c_11 c_16 c_24 c_57) dX1_hold_69 ?_
            refine gg1_st0 hx hb hK G (i := p0) (x := u.2 0 (ix p1)) (pi_in (M := 5) (by decide) c_5) dX1_hold_70 (fun H locs G => ?_)
            refine lv_iconst (v := 0) hx hb dX1_hold_71 (by decide) ?_
            exact gx_iret (wf := gw1_ cI cZ h q) (u1 := st_sa u 0 (ix p0) (u.2 0 (ix p1))) hx hb hr hlocks hsz hK hAe G dX1_hold_72 (by unfold pm_hold; rw [if_neg c_5, if_neg c_11, if_pos c_16, if_neg c_24, if_neg c_57])
          · refine lv_iconst (v := 0) hx hb dX1_hold_60 (by decide) ?_
            refine lv_goto (tgt := 70) hx hb dX1_hold_61 (by decide) ?_
            refine gg1_st0 hx hb hK G (i := p0) (x := 0) (pi_in (M := 5) (by decide) c_5) dX1_hold_70 (fun H locs G => ?_)
            refine lv_iconst (v := 0) hx hb dX1_hold_71 (by decide) ?_
            exact gx_iret (wf := gw1_ cI cZ h q) (u1 := st_sa u 0 (ix p0) 0) hx hb hr hlocks hsz hK hAe G dX1_hold_72 (by unfold pm_hold; rw [if_neg c_5, if_neg c_11, if_pos c_16, if_neg c_24, if_pos c_57])
        · refine lv_aload_n hx hb dX1_hold_27 rfl (lv_at hl 0 rfl) ?_
          refine lv_dup hx hb dX1_hold_28 rfl ?_
          refine gg1_get (v := .int (u.1 2)) hx hb hts hin hown hK G 2 (by decide) (index := 36) (by decide +kernel) rfl dX1_hold_29 ?_
          refine lv_iconst (v := 1) hx hb dX1_hold_32 (by decide) ?_
          refine lv_iadd hx hb dX1_hold_33 ?_
          refine gg1_put2 (v := (u.1 2) + 1) hx hb hts hin hown hK G (index := 36) (by decide +kernel) dX1_hold_34 (fun H locs G => ?_)
          refine lv_aload_n hx hb dX1_hold_37 rfl (lv_at hl 0 rfl) ?_
          refine gg1_get (v := .ref (q 0)) hx hb hts hin hown hK G 0 (by decide) (index := 7) (by decide +kernel) rfl dX1_hold_38 ?_
          refine lv_iload_n hx hb dX1_hold_41 rfl (lv_at hl 1 rfl) ?_
          refine lv_aload_n hx hb dX1_hold_42 rfl (lv_at hl 0 rfl) ?_
          refine gg1_get (v := .int ((u.1 2) + 1)) hx hb hts hin hown hK G 2 (by decide) (index := 36) (by decide +kernel) rfl dX1_hold_43 ?_
          refine gg1_st0 hx hb hK G (i := p0) (x := (u.1 2) + 1) (pi_in (M := 5) (by decide) c_5) dX1_hold_46 (fun H locs G => ?_)
          refine lv_goto (tgt := 71) hx hb dX1_hold_47 (by decide) ?_
          refine lv_iconst (v := 0) hx hb dX1_hold_71 (by decide) ?_
          exact gx_iret (wf := gw1_ cI cZ h q) (u1 := st_sa (st_si u 2 ((u.1 2) + 1)) 0 (ix p0) ((u.1 2) + 1)) hx hb hr hlocks hsz hK hAe G dX1_hold_72 (by unfold pm_hold; rw [if_neg c_5, if_neg c_11, if_pos c_16, if_pos c_24])
      · refine lv_iconst (v := (-1)) hx hb dX1_hold_19 (by decide) ?_
        exact gx_iret (wf := gw1_ cI cZ h q) (u1 := u) hx hb hr hlocks hsz hK hAe G dX1_hold_20 (by unfold pm_hold; rw [if_neg c_5, if_neg c_11, if_neg c_16])
theorem hd_X1_hold : yX1_hold.cls = RX1 ∧ yX1_hold.cls ≠ "java/lang/invoke/MethodHandle" ∧ yX1_hold.cls ≠ "java/lang/invoke/VarHandle" ∧ (parseMethodDescriptor yX1_hold.desc).map (fun d => d.parameters.length) = some 2 := by decide +kernel
def pm_step (u : st_T) (p0 p1 : Int32) : Int32 × st_T :=
  if pm_in p0 16 = 0 then
    ((-1), u)
  else
    if u.1 8 = 24 then
      ((-1), u)
    else
      if p0 = 1 then
        if u.1 9 = 8 then
          ((-1), u)
        else
          ((u.1 8) + 1, st_si (st_si (st_sa (st_sa u 6 (ix (u.1 8)) p0) 7 (ix (u.1 8)) p1) 8 ((u.1 8) + 1)) 9 ((u.1 9) + 1))
      else
        if p0 = 2 then
          if u.1 9 = 8 then
            ((-1), u)
          else
            ((u.1 8) + 1, st_si (st_si (st_sa (st_sa u 6 (ix (u.1 8)) p0) 7 (ix (u.1 8)) p1) 8 ((u.1 8) + 1)) 9 ((u.1 9) + 1))
        else
          if p0 = 0 then
            if u.1 9 = 0 then
              ((-1), u)
            else
              ((u.1 8) + 1, st_si (st_si (st_sa (st_sa u 6 (ix (u.1 8)) p0) 7 (ix (u.1 8)) p1) 8 ((u.1 8) + 1)) 9 ((u.1 9) - 1))
          else
            ((u.1 8) + 1, st_si (st_sa (st_sa u 6 (ix (u.1 8)) p0) 7 (ix (u.1 8)) p1) 8 ((u.1 8) + 1))
set_option maxHeartbeats 4000000 in
set_option maxRecDepth 100000 in
theorem km_step (l : Launch) (dC : Nat → ClassId) (dI : Nat → Nat → Nat) (cI cZ : ClassId) (h : Nat) (q : Nat → Nat) (sz : Nat) (u : st_T) (p0 p1 : Int32) (hs : u.1 8 = 24 ∨ vp_in (u.1 8) 24) : gx_Mi l yX1_step wsX1_step { frames := 1, cells := 0, slots := 0, locals := 21 } [.ref h, .int p0, .int p1] (dC, dI) cI cZ (gw1_ cI cZ h q) u sz (pm_step u p0 p1) := by
  refine gx_met (cc := cX1_step) (maxL := 4) (ret := (some .int)) (by decide +kernel) rfl (Nat.le_of_ble_eq_true rfl) (fun p e s m args below meth c A ls hsz hx hb hr hlocks hts hown hml hK hAe hA G hl => ?_)
  have hown : s.vm.findClass RX1 = some m.cls := hown
  have hin : ∀ w ∈ wsX10, w ∈ wsX1_step := gx_in
  have hl : lv_has ls 4 [(0, .ref h), (1, .int p0), (2, .int p1)] := hl
  refine lv_iload_n hx hb dX1_step_0 rfl (lv_at hl 1 rfl) ?_
  refine lv_bipush (v := 16) hx hb dX1_step_1 (by decide) ?_
  refine gx_calls (f := pm_in p0 16) (As := [.int p0, .int 16]) (rest := []) 2 hx hb hml hown hts (km_in l p0 16 ) gX1_step_X1_in rfl rfl rfl hd_X1_in ⟨Nat.le_of_ble_eq_true rfl, Nat.le_of_ble_eq_true rfl⟩ rfl hl.1 rfl (Nat.le_of_ble_eq_true rfl) dX1_step_3 (Nat.zero_le _) (Nat.zero_le _) ?_
  refine lv_if_eq (tgt := 18) hx hb dX1_step_6 (by decide) (fun c_6 => ?_) (fun c_6 => ?_)
  · refine lv_iconst (v := (-1)) hx hb dX1_step_18 (by decide) ?_
    exact gx_iret (wf := gw1_ cI cZ h q) (u1 := u) hx hb hr hlocks hsz hK hAe G dX1_step_19 (by unfold pm_step; rw [if_pos c_6])
  · refine lv_aload_n hx hb dX1_step_9 rfl (lv_at hl 0 rfl) ?_
    refine gg1_get (v := .int (u.1 8)) hx hb hts hin hown hK G 8 (by decide) (index := 40) (by decide +kernel) rfl dX1_step_10 ?_
    refine lv_bipush (v := 24) hx hb dX1_step_13 (by decide) ?_
    refine lv_icmp_ne (tgt := 20) hx hb dX1_step_15 (by decide) (fun c_15 => ?_) (fun c_15 => ?_)
    · refine lv_iload_n hx hb dX1_step_20 rfl (lv_at hl 1 rfl) ?_
      refine lv_iconst (v := 1) hx hb dX1_step_21 (by decide) ?_
      refine lv_icmp_eq (tgt := 30) hx hb dX1_step_22 (by decide) (fun c_22 => ?_) (fun c_22 => ?_)
      · refine lv_iconst (v := 1) hx hb dX1_step_30 (by decide) ?_
        refine lv_goto (tgt := 35) hx hb dX1_step_31 (by decide) ?_
        refine lv_istore_n (lv' := [(3, .int 1), (0, .ref h), (1, .int p0), (2, .int p1)]) hx hb dX1_step_35 rfl hl (by decide) rfl (fun ls hl => ?_)
        refine lv_iload_n hx hb dX1_step_36 rfl (lv_at hl 2 rfl) ?_
        refine lv_if_ne (tgt := 47) hx hb dX1_step_37 (by decide) (fun _ => ?_) (fun z => absurd z (by rw [c_22]; decide))
        refine lv_iload_n hx hb dX1_step_47 rfl (lv_at hl 0 rfl) ?_
        refine lv_if_eq (tgt := 62) hx hb dX1_step_48 (by decide) (fun z => absurd z (by decide)) (fun _ => ?_)
        refine lv_aload_n hx hb dX1_step_51 rfl (lv_at hl 1 rfl) ?_
        refine gg1_get (v := .int (u.1 9)) hx hb hts hin hown hK G 9 (by decide) (index := 43) (by decide +kernel) rfl dX1_step_52 ?_
        refine lv_bipush (v := 8) hx hb dX1_step_55 (by decide) ?_
        refine lv_icmp_ne (tgt := 62) hx hb dX1_step_57 (by decide) (fun c_57 => ?_) (fun c_57 => ?_)
        · refine lv_aload_n hx hb dX1_step_62 rfl (lv_at hl 1 rfl) ?_
          refine gg1_get (v := .ref (q 6)) hx hb hts hin hown hK G 6 (by decide) (index := 20) (by decide +kernel) rfl dX1_step_63 ?_
          refine lv_aload_n hx hb dX1_step_66 rfl (lv_at hl 1 rfl) ?_
          refine gg1_get (v := .int (u.1 8)) hx hb hts hin hown hK G 8 (by decide) (index := 40) (by decide +kernel) rfl dX1_step_67 ?_
          refine lv_iload_n hx hb dX1_step_70 rfl (lv_at hl 2 rfl) ?_
          refine gg1_st6 hx hb hK G (i := u.1 8) (x := p0) (hs.resolve_left c_15) dX1_step_71 (fun H locs G => ?_)
          refine lv_aload_n hx hb dX1_step_72 rfl (lv_at hl 1 rfl) ?_
          refine gg1_get (v := .ref (q 7)) hx hb hts hin hown hK G 7 (by decide) (index := 23) (by decide +kernel) rfl dX1_step_73 ?_
          refine lv_aload_n hx hb dX1_step_76 rfl (lv_at hl 1 rfl) ?_
          refine gg1_get (v := .int (u.1 8)) hx hb hts hin hown hK G 8 (by decide) (index := 40) (by decide +kernel) rfl dX1_step_77 ?_
          refine lv_iload_n hx hb dX1_step_80 rfl (lv_at hl 3 rfl) ?_
          refine gg1_st7 hx hb hK G (i := u.1 8) (x := p1) (hs.resolve_left c_15) dX1_step_81 (fun H locs G => ?_)
          refine lv_aload_n hx hb dX1_step_82 rfl (lv_at hl 1 rfl) ?_
          refine lv_dup hx hb dX1_step_83 rfl ?_
          refine gg1_get (v := .int (u.1 8)) hx hb hts hin hown hK G 8 (by decide) (index := 40) (by decide +kernel) rfl dX1_step_84 ?_
          refine lv_iconst (v := 1) hx hb dX1_step_87 (by decide) ?_
          refine lv_iadd hx hb dX1_step_88 ?_
          refine gg1_put8 (v := (u.1 8) + 1) hx hb hts hin hown hK G (index := 40) (by decide +kernel) dX1_step_89 (fun H locs G => ?_)
          refine lv_iload_n hx hb dX1_step_92 rfl (lv_at hl 0 rfl) ?_
          refine lv_if_eq (tgt := 106) hx hb dX1_step_93 (by decide) (fun z => absurd z (by decide)) (fun _ => ?_)
          refine lv_aload_n hx hb dX1_step_96 rfl (lv_at hl 1 rfl) ?_
          refine lv_dup hx hb dX1_step_97 rfl ?_
          refine gg1_get (v := .int (u.1 9)) hx hb hts hin hown hK G 9 (by decide) (index := 43) (by decide +kernel) rfl dX1_step_98 ?_
          refine lv_iconst (v := 1) hx hb dX1_step_101 (by decide) ?_
          refine lv_iadd hx hb dX1_step_102 ?_
          refine gg1_put9 (v := (u.1 9) + 1) hx hb hts hin hown hK G (index := 43) (by decide +kernel) dX1_step_103 (fun H locs G => ?_)
          refine lv_iload_n hx hb dX1_step_106 rfl (lv_at hl 2 rfl) ?_
          refine lv_if_ne (tgt := 120) hx hb dX1_step_107 (by decide) (fun _ => ?_) (fun z => absurd z (by rw [c_22]; decide))
          refine lv_aload_n hx hb dX1_step_120 rfl (lv_at hl 1 rfl) ?_
          refine gg1_get (v := .int ((u.1 8) + 1)) hx hb hts hin hown hK G 8 (by decide) (index := 40) (by decide +kernel) rfl dX1_step_121 ?_
          exact gx_iret (wf := gw1_ cI cZ h q) (u1 := st_si (st_si (st_sa (st_sa u 6 (ix (u.1 8)) p0) 7 (ix (u.1 8)) p1) 8 ((u.1 8) + 1)) 9 ((u.1 9) + 1)) hx hb hr hlocks hsz hK hAe G dX1_step_124 (by unfold pm_step; rw [if_neg c_6, if_neg c_15, if_pos c_22, if_neg c_57])
        · refine lv_iconst (v := (-1)) hx hb dX1_step_60 (by decide) ?_
          exact gx_iret (wf := gw1_ cI cZ h q) (u1 := u) hx hb hr hlocks hsz hK hAe G dX1_step_61 (by unfold pm_step; rw [if_neg c_6, if_neg c_15, if_pos c_22, if_pos c_57])
      · refine lv_iload_n hx hb dX1_step_25 rfl (lv_at hl 1 rfl) ?_
        refine lv_iconst (v := 2) hx hb dX1_step_26 (by decide) ?_
        refine lv_icmp_ne (tgt := 34) hx hb dX1_step_27 (by decide) (fun c_27 => ?_) (fun c_27 => ?_)
        · refine lv_iconst (v := 0) hx hb dX1_step_34 (by decide) ?_
          refine lv_istore_n (lv' := [(3, .int 0), (0, .ref h), (1, .int p0), (2, .int p1)]) hx hb dX1_step_35 rfl hl (by decide) rfl (fun ls hl => ?_)
          refine lv_iload_n hx hb dX1_step_36 rfl (lv_at hl 2 rfl) ?_
          refine lv_if_ne (tgt := 47) hx hb dX1_step_37 (by decide) (fun c_37 => ?_) (fun c_37 => ?_)
          · refine lv_iload_n hx hb dX1_step_47 rfl (lv_at hl 0 rfl) ?_
            refine lv_if_eq (tgt := 62) hx hb dX1_step_48 (by decide) (fun _ => ?_) (fun z => absurd (by decide) z)
            refine lv_aload_n hx hb dX1_step_62 rfl (lv_at hl 1 rfl) ?_
            refine gg1_get (v := .ref (q 6)) hx hb hts hin hown hK G 6 (by decide) (index := 20) (by decide +kernel) rfl dX1_step_63 ?_
            refine lv_aload_n hx hb dX1_step_66 rfl (lv_at hl 1 rfl) ?_
            refine gg1_get (v := .int (u.1 8)) hx hb hts hin hown hK G 8 (by decide) (index := 40) (by decide +kernel) rfl dX1_step_67 ?_
            refine lv_iload_n hx hb dX1_step_70 rfl (lv_at hl 2 rfl) ?_
            refine gg1_st6 hx hb hK G (i := u.1 8) (x := p0) (hs.resolve_left c_15) dX1_step_71 (fun H locs G => ?_)
            refine lv_aload_n hx hb dX1_step_72 rfl (lv_at hl 1 rfl) ?_
            refine gg1_get (v := .ref (q 7)) hx hb hts hin hown hK G 7 (by decide) (index := 23) (by decide +kernel) rfl dX1_step_73 ?_
            refine lv_aload_n hx hb dX1_step_76 rfl (lv_at hl 1 rfl) ?_
            refine gg1_get (v := .int (u.1 8)) hx hb hts hin hown hK G 8 (by decide) (index := 40) (by decide +kernel) rfl dX1_step_77 ?_
            refine lv_iload_n hx hb dX1_step_80 rfl (lv_at hl 3 rfl) ?_
            refine gg1_st7 hx hb hK G (i := u.1 8) (x := p1) (hs.resolve_left c_15) dX1_step_81 (fun H locs G => ?_)
            refine lv_aload_n hx hb dX1_step_82 rfl (lv_at hl 1 rfl) ?_
            refine lv_dup hx hb dX1_step_83 rfl ?_
            refine gg1_get (v := .int (u.1 8)) hx hb hts hin hown hK G 8 (by decide) (index := 40) (by decide +kernel) rfl dX1_step_84 ?_
            refine lv_iconst (v := 1) hx hb dX1_step_87 (by decide) ?_
            refine lv_iadd hx hb dX1_step_88 ?_
            refine gg1_put8 (v := (u.1 8) + 1) hx hb hts hin hown hK G (index := 40) (by decide +kernel) dX1_step_89 (fun H locs G => ?_)
            refine lv_iload_n hx hb dX1_step_92 rfl (lv_at hl 0 rfl) ?_
            refine lv_if_eq (tgt := 106) hx hb dX1_step_93 (by decide) (fun _ => ?_) (fun z => absurd (by decide) z)
            refine lv_iload_n hx hb dX1_step_106 rfl (lv_at hl 2 rfl) ?_
            refine lv_if_ne (tgt := 120) hx hb dX1_step_107 (by decide) (fun _ => ?_) (fun z => absurd z c_37)
            refine lv_aload_n hx hb dX1_step_120 rfl (lv_at hl 1 rfl) ?_
            refine gg1_get (v := .int ((u.1 8) + 1)) hx hb hts hin hown hK G 8 (by decide) (index := 40) (by decide +kernel) rfl dX1_step_121 ?_
            exact gx_iret (wf := gw1_ cI cZ h q) (u1 := st_si (st_sa (st_sa u 6 (ix (u.1 8)) p0) 7 (ix (u.1 8)) p1) 8 ((u.1 8) + 1)) hx hb hr hlocks hsz hK hAe G dX1_step_124 (by unfold pm_step; rw [if_neg c_6, if_neg c_15, if_neg c_22, if_neg c_27, if_neg c_37])
          · refine lv_aload_n hx hb dX1_step_40 rfl (lv_at hl 1 rfl) ?_
            refine gg1_get (v := .int (u.1 9)) hx hb hts hin hown hK G 9 (by decide) (index := 43) (by decide +kernel) rfl dX1_step_41 ?_
            refine lv_if_eq (tgt := 60) hx hb dX1_step_44 (by decide) (fun c_44 => ?_) (fun c_44 => ?_)
            · refine lv_iconst (v := (-1)) hx hb dX1_step_60 (by decide) ?_
              exact gx_iret (wf := gw1_ cI cZ h q) (u1 := u) hx hb hr hlocks hsz hK hAe G dX1_step_61 (by unfold pm_step; rw [if_neg c_6, if_neg c_15, if_neg c_22, if_neg c_27, if_pos c_37, if_pos c_44])
            · refine lv_iload_n hx hb dX1_step_47 rfl (lv_at hl 0 rfl) ?_
              refine lv_if_eq (tgt := 62) hx hb dX1_step_48 (by decide) (fun _ => ?_) (fun z => absurd (by decide) z)
              refine lv_aload_n hx hb dX1_step_62 rfl (lv_at hl 1 rfl) ?_
              refine gg1_get (v := .ref (q 6)) hx hb hts hin hown hK G 6 (by decide) (index := 20) (by decide +kernel) rfl dX1_step_63 ?_
              refine lv_aload_n hx hb dX1_step_66 rfl (lv_at hl 1 rfl) ?_
              refine gg1_get (v := .int (u.1 8)) hx hb hts hin hown hK G 8 (by decide) (index := 40) (by decide +kernel) rfl dX1_step_67 ?_
              refine lv_iload_n hx hb dX1_step_70 rfl (lv_at hl 2 rfl) ?_
              refine gg1_st6 hx hb hK G (i := u.1 8) (x := p0) (hs.resolve_left c_15) dX1_step_71 (fun H locs G => ?_)
              refine lv_aload_n hx hb dX1_step_72 rfl (lv_at hl 1 rfl) ?_
              refine gg1_get (v := .ref (q 7)) hx hb hts hin hown hK G 7 (by decide) (index := 23) (by decide +kernel) rfl dX1_step_73 ?_
              refine lv_aload_n hx hb dX1_step_76 rfl (lv_at hl 1 rfl) ?_
              refine gg1_get (v := .int (u.1 8)) hx hb hts hin hown hK G 8 (by decide) (index := 40) (by decide +kernel) rfl dX1_step_77 ?_
              refine lv_iload_n hx hb dX1_step_80 rfl (lv_at hl 3 rfl) ?_
              refine gg1_st7 hx hb hK G (i := u.1 8) (x := p1) (hs.resolve_left c_15) dX1_step_81 (fun H locs G => ?_)
              refine lv_aload_n hx hb dX1_step_82 rfl (lv_at hl 1 rfl) ?_
              refine lv_dup hx hb dX1_step_83 rfl ?_
              refine gg1_get (v := .int (u.1 8)) hx hb hts hin hown hK G 8 (by decide) (index := 40) (by decide +kernel) rfl dX1_step_84 ?_
              refine lv_iconst (v := 1) hx hb dX1_step_87 (by decide) ?_
              refine lv_iadd hx hb dX1_step_88 ?_
              refine gg1_put8 (v := (u.1 8) + 1) hx hb hts hin hown hK G (index := 40) (by decide +kernel) dX1_step_89 (fun H locs G => ?_)
              refine lv_iload_n hx hb dX1_step_92 rfl (lv_at hl 0 rfl) ?_
              refine lv_if_eq (tgt := 106) hx hb dX1_step_93 (by decide) (fun _ => ?_) (fun z => absurd (by decide) z)
              refine lv_iload_n hx hb dX1_step_106 rfl (lv_at hl 2 rfl) ?_
              refine lv_if_ne (tgt := 120) hx hb dX1_step_107 (by decide) (fun z => absurd c_37 z) (fun _ => ?_)
              refine lv_aload_n hx hb dX1_step_110 rfl (lv_at hl 1 rfl) ?_
              refine lv_dup hx hb dX1_step_111 rfl ?_
              refine gg1_get (v := .int (u.1 9)) hx hb hts hin hown hK G 9 (by decide) (index := 43) (by decide +kernel) rfl dX1_step_112 ?_
              refine lv_iconst (v := 1) hx hb dX1_step_115 (by decide) ?_
              refine lv_isub hx hb dX1_step_116 ?_
              refine gg1_put9 (v := (u.1 9) - 1) hx hb hts hin hown hK G (index := 43) (by decide +kernel) dX1_step_117 (fun H locs G => ?_)
              refine lv_aload_n hx hb dX1_step_120 rfl (lv_at hl 1 rfl) ?_
              refine gg1_get (v := .int ((u.1 8) + 1)) hx hb hts hin hown hK G 8 (by decide) (index := 40) (by decide +kernel) rfl dX1_step_121 ?_
              exact gx_iret (wf := gw1_ cI cZ h q) (u1 := st_si (st_si (st_sa (st_sa u 6 (ix (u.1 8)) p0) 7 (ix (u.1 8)) p1) 8 ((u.1 8) + 1)) 9 ((u.1 9) - 1)) hx hb hr hlocks hsz hK hAe G dX1_step_124 (by unfold pm_step; rw [if_neg c_6, if_neg c_15, if_neg c_22, if_neg c_27, if_pos c_37, if_neg c_44])
        · refine lv_iconst (v := 1) hx hb dX1_step_30 (by decide) ?_
          refine lv_goto (tgt := 35) hx hb dX1_step_31 (by decide) ?_
          refine lv_istore_n (lv' := [(3, .int 1), (0, .ref h), (1, .int p0), (2, .int p1)]) hx hb dX1_step_35 rfl hl (by decide) rfl (fun ls hl => ?_)
          refine lv_iload_n hx hb dX1_step_36 rfl (lv_at hl 2 rfl) ?_
          refine lv_if_ne (tgt := 47) hx hb dX1_step_37 (by decide) (fun _ => ?_) (fun z => absurd z (by rw [c_27]; decide))
          refine lv_iload_n hx hb dX1_step_47 rfl (lv_at hl 0 rfl) ?_
          refine lv_if_eq (tgt := 62) hx hb dX1_step_48 (by decide) (fun z => absurd z (by decide)) (fun _ => ?_)
          refine lv_aload_n hx hb dX1_step_51 rfl (lv_at hl 1 rfl) ?_
          refine gg1_get (v := .int (u.1 9)) hx hb hts hin hown hK G 9 (by decide) (index := 43) (by decide +kernel) rfl dX1_step_52 ?_
          refine lv_bipush (v := 8) hx hb dX1_step_55 (by decide) ?_
          refine lv_icmp_ne (tgt := 62) hx hb dX1_step_57 (by decide) (fun c_57 => ?_) (fun c_57 => ?_)
          · refine lv_aload_n hx hb dX1_step_62 rfl (lv_at hl 1 rfl) ?_
            refine gg1_get (v := .ref (q 6)) hx hb hts hin hown hK G 6 (by decide) (index := 20) (by decide +kernel) rfl dX1_step_63 ?_
            refine lv_aload_n hx hb dX1_step_66 rfl (lv_at hl 1 rfl) ?_
            refine gg1_get (v := .int (u.1 8)) hx hb hts hin hown hK G 8 (by decide) (index := 40) (by decide +kernel) rfl dX1_step_67 ?_
            refine lv_iload_n hx hb dX1_step_70 rfl (lv_at hl 2 rfl) ?_
            refine gg1_st6 hx hb hK G (i := u.1 8) (x := p0) (hs.resolve_left c_15) dX1_step_71 (fun H locs G => ?_)
            refine lv_aload_n hx hb dX1_step_72 rfl (lv_at hl 1 rfl) ?_
            refine gg1_get (v := .ref (q 7)) hx hb hts hin hown hK G 7 (by decide) (index := 23) (by decide +kernel) rfl dX1_step_73 ?_
            refine lv_aload_n hx hb dX1_step_76 rfl (lv_at hl 1 rfl) ?_
            refine gg1_get (v := .int (u.1 8)) hx hb hts hin hown hK G 8 (by decide) (index := 40) (by decide +kernel) rfl dX1_step_77 ?_
            refine lv_iload_n hx hb dX1_step_80 rfl (lv_at hl 3 rfl) ?_
            refine gg1_st7 hx hb hK G (i := u.1 8) (x := p1) (hs.resolve_left c_15) dX1_step_81 (fun H locs G => ?_)
            refine lv_aload_n hx hb dX1_step_82 rfl (lv_at hl 1 rfl) ?_
            refine lv_dup hx hb dX1_step_83 rfl ?_
            refine gg1_get (v := .int (u.1 8)) hx hb hts hin hown hK G 8 (by decide) (index := 40) (by decide +kernel) rfl dX1_step_84 ?_
            refine lv_iconst (v := 1) hx hb dX1_step_87 (by decide) ?_
            refine lv_iadd hx hb dX1_step_88 ?_
            refine gg1_put8 (v := (u.1 8) + 1) hx hb hts hin hown hK G (index := 40) (by decide +kernel) dX1_step_89 (fun H locs G => ?_)
            refine lv_iload_n hx hb dX1_step_92 rfl (lv_at hl 0 rfl) ?_
            refine lv_if_eq (tgt := 106) hx hb dX1_step_93 (by decide) (fun z => absurd z (by decide)) (fun _ => ?_)
            refine lv_aload_n hx hb dX1_step_96 rfl (lv_at hl 1 rfl) ?_
            refine lv_dup hx hb dX1_step_97 rfl ?_
            refine gg1_get (v := .int (u.1 9)) hx hb hts hin hown hK G 9 (by decide) (index := 43) (by decide +kernel) rfl dX1_step_98 ?_
            refine lv_iconst (v := 1) hx hb dX1_step_101 (by decide) ?_
            refine lv_iadd hx hb dX1_step_102 ?_
            refine gg1_put9 (v := (u.1 9) + 1) hx hb hts hin hown hK G (index := 43) (by decide +kernel) dX1_step_103 (fun H locs G => ?_)
            refine lv_iload_n hx hb dX1_step_106 rfl (lv_at hl 2 rfl) ?_
            refine lv_if_ne (tgt := 120) hx hb dX1_step_107 (by decide) (fun _ => ?_) (fun z => absurd z (by rw [c_27]; decide))
            refine lv_aload_n hx hb dX1_step_120 rfl (lv_at hl 1 rfl) ?_
            refine gg1_get (v := .int ((u.1 8) + 1)) hx hb hts hin hown hK G 8 (by decide) (index := 40) (by decide +kernel) rfl dX1_step_121 ?_
            exact gx_iret (wf := gw1_ cI cZ h q) (u1 := st_si (st_si (st_sa (st_sa u 6 (ix (u.1 8)) p0) 7 (ix (u.1 8)) p1) 8 ((u.1 8) + 1)) 9 ((u.1 9) + 1)) hx hb hr hlocks hsz hK hAe G dX1_step_124 (by unfold pm_step; rw [if_neg c_6, if_neg c_15, if_neg c_22, if_pos c_27, if_neg c_57])
          · refine lv_iconst (v := (-1)) hx hb dX1_step_60 (by decide) ?_
            exact gx_iret (wf := gw1_ cI cZ h q) (u1 := u) hx hb hr hlocks hsz hK hAe G dX1_step_61 (by unfold pm_step; rw [if_neg c_6, if_neg c_15, if_neg c_22, if_pos c_27, if_pos c_57])
    · refine lv_iconst (v := (-1)) hx hb dX1_step_18 (by decide) ?_
      exact gx_iret (wf := gw1_ cI cZ h q) (u1 := u) hx hb hr hlocks hsz hK hAe G dX1_step_19 (by unfold pm_step; rw [if_neg c_6, if_pos c_15])
theorem hd_X1_step : yX1_step.cls = RX1 ∧ yX1_step.cls ≠ "java/lang/invoke/MethodHandle" ∧ yX1_step.cls ≠ "java/lang/invoke/VarHandle" ∧ (parseMethodDescriptor yX1_step.desc).map (fun d => d.parameters.length) = some 2 := by decide +kernel
def pm_clear (u : st_T) : Int32 × st_T :=
  (u.1 8, st_si (st_si u 8 0) 9 0)
set_option maxHeartbeats 4000000 in
set_option maxRecDepth 100000 in
theorem km_clear (l : Launch) (dC : Nat → ClassId) (dI : Nat → Nat → Nat) (cI cZ : ClassId) (h : Nat) (q : Nat → Nat) (sz : Nat) (u : st_T) : gx_Mi l yX1_clear wsX1_clear { frames := 0, cells := 0, slots := 0, locals := 0 } [.ref h] (dC, dI) cI cZ (gw1_ cI cZ h q) u sz (pm_clear u) := by
  refine gx_met (cc := cX1_clear) (maxL := 2) (ret := (some .int)) (by decide +kernel) rfl (Nat.le_of_ble_eq_true rfl) (fun p e s m args below meth c A ls hsz hx hb hr hlocks hts hown hml hK hAe hA G hl => ?_)
  have hown : s.vm.findClass RX1 = some m.cls := hown
  have hin : ∀ w ∈ wsX10, w ∈ wsX1_clear := gx_in
  have hl : lv_has ls 2 [(0, .ref h)] := hl
  refine lv_aload_n hx hb dX1_clear_0 rfl (lv_at hl 0 rfl) ?_
  refine gg1_get (v := .int (u.1 8)) hx hb hts hin hown hK G 8 (by decide) (index := 40) (by decide +kernel) rfl dX1_clear_1 ?_
  refine lv_istore_n (lv' := [(1, .int (u.1 8)), (0, .ref h)]) hx hb dX1_clear_4 rfl hl (by decide) rfl (fun ls hl => ?_)
  refine lv_aload_n hx hb dX1_clear_5 rfl (lv_at hl 1 rfl) ?_
  refine lv_iconst (v := 0) hx hb dX1_clear_6 (by decide) ?_
  refine gg1_put8 (v := 0) hx hb hts hin hown hK G (index := 40) (by decide +kernel) dX1_clear_7 (fun H locs G => ?_)
  refine lv_aload_n hx hb dX1_clear_10 rfl (lv_at hl 1 rfl) ?_
  refine lv_iconst (v := 0) hx hb dX1_clear_11 (by decide) ?_
  refine gg1_put9 (v := 0) hx hb hts hin hown hK G (index := 43) (by decide +kernel) dX1_clear_12 (fun H locs G => ?_)
  refine lv_iload_n hx hb dX1_clear_15 rfl (lv_at hl 0 rfl) ?_
  exact gx_iret (wf := gw1_ cI cZ h q) (u1 := st_si (st_si u 8 0) 9 0) hx hb hr hlocks hsz hK hAe G dX1_clear_16 (by unfold pm_clear; rfl)
theorem hd_X1_clear : yX1_clear.cls = RX1 ∧ yX1_clear.cls ≠ "java/lang/invoke/MethodHandle" ∧ yX1_clear.cls ≠ "java/lang/invoke/VarHandle" ∧ (parseMethodDescriptor yX1_clear.desc).map (fun d => d.parameters.length) = some 0 := by decide +kernel
def pm_lockOf (u : st_T) (p0 : Int32) : Int32 :=
  u.2 0 (ix (pm_modulo (u.2 7 (ix p0)) 5))
set_option maxHeartbeats 4000000 in
set_option maxRecDepth 100000 in
theorem km_lockOf (l : Launch) (dC : Nat → ClassId) (dI : Nat → Nat → Nat) (cI cZ : ClassId) (h : Nat) (q : Nat → Nat) (sz : Nat) (u : st_T) (p0 : Int32) (hst : vp_in p0 24) : gx_Mi l yX1_lockOf wsX1_lockOf { frames := 1, cells := 0, slots := 0, locals := 21 } [.ref h, .int p0] (dC, dI) cI cZ (gw1_ cI cZ h q) u sz (pm_lockOf u p0, u) := by
  refine gx_met (cc := cX1_lockOf) (maxL := 2) (ret := (some .int)) (by decide +kernel) rfl (Nat.le_of_ble_eq_true rfl) (fun p e s m args below meth c A ls hsz hx hb hr hlocks hts hown hml hK hAe hA G hl => ?_)
  have hown : s.vm.findClass RX1 = some m.cls := hown
  have hin : ∀ w ∈ wsX10, w ∈ wsX1_lockOf := gx_in
  have hl : lv_has ls 2 [(0, .ref h), (1, .int p0)] := hl
  refine lv_aload_n hx hb dX1_lockOf_0 rfl (lv_at hl 0 rfl) ?_
  refine gg1_get (v := .ref (q 0)) hx hb hts hin hown hK G 0 (by decide) (index := 7) (by decide +kernel) rfl dX1_lockOf_1 ?_
  refine lv_aload_n hx hb dX1_lockOf_4 rfl (lv_at hl 0 rfl) ?_
  refine gg1_get (v := .ref (q 7)) hx hb hts hin hown hK G 7 (by decide) (index := 23) (by decide +kernel) rfl dX1_lockOf_5 ?_
  refine lv_iload_n hx hb dX1_lockOf_8 rfl (lv_at hl 1 rfl) ?_
  refine gg1_ld7 hx hb hK G (i := p0) hst dX1_lockOf_9 ?_
  refine lv_iconst (v := 5) hx hb dX1_lockOf_10 (by decide) ?_
  refine gx_calls (f := pm_modulo (u.2 7 (ix p0)) 5) (As := [.int (u.2 7 (ix p0)), .int 5]) (rest := [.ref (q 0)]) 2 hx hb hml hown hts (km_modulo l (u.2 7 (ix p0)) 5 (by decide)) gX1_lockOf_X1_modulo rfl rfl rfl hd_X1_modulo ⟨Nat.le_of_ble_eq_true rfl, Nat.le_of_ble_eq_true rfl⟩ rfl hl.1 rfl (Nat.le_of_ble_eq_true rfl) dX1_lockOf_11 (Nat.zero_le _) (Nat.zero_le _) ?_
  refine gg1_ld0 hx hb hK G (i := pm_modulo (u.2 7 (ix p0)) 5) (mo_in5 _) dX1_lockOf_14 ?_
  exact gx_iret (wf := gw1_ cI cZ h q) (u1 := u) hx hb hr hlocks hsz hK hAe G dX1_lockOf_15 (congrArg (fun z => (z, u)) (by unfold pm_lockOf; rfl))
theorem hd_X1_lockOf : yX1_lockOf.cls = RX1 ∧ yX1_lockOf.cls ≠ "java/lang/invoke/MethodHandle" ∧ yX1_lockOf.cls ≠ "java/lang/invoke/VarHandle" ∧ (parseMethodDescriptor yX1_lockOf.desc).map (fun d => d.parameters.length) = some 1 := by decide +kernel
theorem lo_in {u : st_T} {b : Int32} (hlk : ∀ j : Nat, j < 5 → vp_in (u.2 0 j) 520) : vp_in (pm_lockOf u b) 520 := hlk _ (ix_lt (mo_in5 _))
def pm_monitor (u : st_T) (p0 p1 : Int32) : Int32 × st_T :=
  if pm_lockOf u p0 = 0 then
    (pm_lockOf u p0, st_si u 14 1)
  else
    if p1 = 0 then
      if u.2 1 (ix (pm_lockOf u p0)) = 0 then
        (pm_lockOf u p0, st_si u 14 2)
      else
        (pm_lockOf u p0, u)
    else
      (pm_lockOf u p0, u)
set_option maxHeartbeats 4000000 in
set_option maxRecDepth 100000 in
theorem km_monitor (l : Launch) (dC : Nat → ClassId) (dI : Nat → Nat → Nat) (cI cZ : ClassId) (h : Nat) (q : Nat → Nat) (sz : Nat) (u : st_T) (p0 p1 : Int32) (hst : vp_in p0 24) (hlk : ∀ j : Nat, j < 5 → vp_in (u.2 0 j) 520) : gx_Mi l yX1_monitor wsX1_monitor { frames := 2, cells := 0, slots := 0, locals := 42 } [.ref h, .int p0, .int p1] (dC, dI) cI cZ (gw1_ cI cZ h q) u sz (pm_monitor u p0 p1) := by
  refine gx_met (cc := cX1_monitor) (maxL := 4) (ret := (some .int)) (by decide +kernel) rfl (Nat.le_of_ble_eq_true rfl) (fun p e s m args below meth c A ls hsz hx hb hr hlocks hts hown hml hK hAe hA G hl => ?_)
  have hown : s.vm.findClass RX1 = some m.cls := hown
  have hin : ∀ w ∈ wsX10, w ∈ wsX1_monitor := gx_in
  have hl : lv_has ls 4 [(0, .ref h), (1, .int p0), (2, .int p1)] := hl
  refine lv_aload_n hx hb dX1_monitor_0 rfl (lv_at hl 0 rfl) ?_
  refine lv_iload_n hx hb dX1_monitor_1 rfl (lv_at hl 1 rfl) ?_
  refine gx_callr (wf := gw1_ cI cZ h q) (u := u) (f := pm_lockOf u p0) (As := [.int p0]) (rest := []) 1 hx hb hml hown hts hK hA G rfl rfl (km_lockOf l dC dI cI cZ h q _ u p0 hst) gX1_monitor_X1_lockOf rfl rfl rfl hd_X1_lockOf ⟨Nat.le_of_ble_eq_true rfl, Nat.le_of_ble_eq_true rfl⟩ rfl hl.1 rfl (Nat.le_of_ble_eq_true rfl) dX1_monitor_2 (Nat.zero_le _) (Nat.zero_le _) (fun H locs G => ?_)
  refine lv_istore_n (lv' := [(3, .int (pm_lockOf u p0)), (0, .ref h), (1, .int p0), (2, .int p1)]) hx hb dX1_monitor_5 rfl hl (by decide) rfl (fun ls hl => ?_)
  refine lv_iload_n hx hb dX1_monitor_6 rfl (lv_at hl 0 rfl) ?_
  refine lv_if_ne (tgt := 18) hx hb dX1_monitor_7 (by decide) (fun c_7 => ?_) (fun c_7 => ?_)
  · refine lv_iload_n hx hb dX1_monitor_18 rfl (lv_at hl 3 rfl) ?_
    refine lv_if_ne (tgt := 36) hx hb dX1_monitor_19 (by decide) (fun c_19 => ?_) (fun c_19 => ?_)
    · refine lv_iload_n hx hb dX1_monitor_36 rfl (lv_at hl 0 rfl) ?_
      exact gx_iret (wf := gw1_ cI cZ h q) (u1 := u) hx hb hr hlocks hsz hK hAe G dX1_monitor_37 (by unfold pm_monitor; rw [if_neg c_7, if_neg c_19])
    · refine lv_aload_n hx hb dX1_monitor_22 rfl (lv_at hl 1 rfl) ?_
      refine gg1_get (v := .ref (q 1)) hx hb hts hin hown hK G 1 (by decide) (index := 13) (by decide +kernel) rfl dX1_monitor_23 ?_
      refine lv_iload_n hx hb dX1_monitor_26 rfl (lv_at hl 0 rfl) ?_
      refine gg1_ld1 hx hb hK G (i := pm_lockOf u p0) (lo_in hlk) dX1_monitor_27 ?_
      refine lv_if_ne (tgt := 36) hx hb dX1_monitor_28 (by decide) (fun c_28 => ?_) (fun c_28 => ?_)
      · refine lv_iload_n hx hb dX1_monitor_36 rfl (lv_at hl 0 rfl) ?_
        exact gx_iret (wf := gw1_ cI cZ h q) (u1 := u) hx hb hr hlocks hsz hK hAe G dX1_monitor_37 (by unfold pm_monitor; rw [if_neg c_7, if_pos c_19, if_neg c_28])
      · refine lv_aload_n hx hb dX1_monitor_31 rfl (lv_at hl 1 rfl) ?_
        refine lv_iconst (v := 2) hx hb dX1_monitor_32 (by decide) ?_
        refine gg1_put14 (v := 2) hx hb hts hin hown hK G (index := 54) (by decide +kernel) dX1_monitor_33 (fun H locs G => ?_)
        refine lv_iload_n hx hb dX1_monitor_36 rfl (lv_at hl 0 rfl) ?_
        exact gx_iret (wf := gw1_ cI cZ h q) (u1 := st_si u 14 2) hx hb hr hlocks hsz hK hAe G dX1_monitor_37 (by unfold pm_monitor; rw [if_neg c_7, if_pos c_19, if_pos c_28])
  · refine lv_aload_n hx hb dX1_monitor_10 rfl (lv_at hl 1 rfl) ?_
    refine lv_iconst (v := 1) hx hb dX1_monitor_11 (by decide) ?_
    refine gg1_put14 (v := 1) hx hb hts hin hown hK G (index := 54) (by decide +kernel) dX1_monitor_12 (fun H locs G => ?_)
    refine lv_goto (tgt := 36) hx hb dX1_monitor_15 (by decide) ?_
    refine lv_iload_n hx hb dX1_monitor_36 rfl (lv_at hl 0 rfl) ?_
    exact gx_iret (wf := gw1_ cI cZ h q) (u1 := st_si u 14 1) hx hb hr hlocks hsz hK hAe G dX1_monitor_37 (by unfold pm_monitor; rw [if_pos c_7])
theorem hd_X1_monitor : yX1_monitor.cls = RX1 ∧ yX1_monitor.cls ≠ "java/lang/invoke/MethodHandle" ∧ yX1_monitor.cls ≠ "java/lang/invoke/VarHandle" ∧ (parseMethodDescriptor yX1_monitor.desc).map (fun d => d.parameters.length) = some 2 := by decide +kernel
theorem mn_1 (u : st_T) (a b : Int32) : (pm_monitor u a b).1 = pm_lockOf u a := by
  unfold pm_monitor
  split
  · rfl
  · split
    · split
      · rfl
      · rfl
    · rfl
theorem mn_13 (u : st_T) (a b : Int32) : (pm_monitor u a b).2.1 13 = u.1 13 := by
  unfold pm_monitor
  split
  · rfl
  · split
    · split
      · rfl
      · rfl
    · rfl
theorem mn_in {u : st_T} {a b : Int32} (hlk : ∀ j : Nat, j < 5 → vp_in (u.2 0 j) 520) : vp_in (pm_monitor u a b).1 520 := by
  rw [mn_1]
  exact lo_in hlk
def pm_interrupted (u : st_T) : st_T :=
  if u.1 5 = 0 then
    st_si u 5 0
  else
    st_si (st_si u 14 4) 5 0
set_option maxHeartbeats 4000000 in
set_option maxRecDepth 100000 in
theorem km_interrupted (l : Launch) (dC : Nat → ClassId) (dI : Nat → Nat → Nat) (cI cZ : ClassId) (h : Nat) (q : Nat → Nat) (sz : Nat) (u : st_T) : gx_Mv l yX1_interrupted wsX1_interrupted { frames := 0, cells := 0, slots := 0, locals := 0 } [.ref h] (dC, dI) cI cZ (gw1_ cI cZ h q) u sz (pm_interrupted u) := by
  refine gx_met (cc := cX1_interrupted) (maxL := 1) (ret := none) (by decide +kernel) rfl (Nat.le_of_ble_eq_true rfl) (fun p e s m args below meth c A ls hsz hx hb hr hlocks hts hown hml hK hAe hA G hl => ?_)
  have hown : s.vm.findClass RX1 = some m.cls := hown
  have hin : ∀ w ∈ wsX10, w ∈ wsX1_interrupted := gx_in
  have hl : lv_has ls 1 [(0, .ref h)] := hl
  refine lv_aload_n hx hb dX1_interrupted_0 rfl (lv_at hl 0 rfl) ?_
  refine gg1_get (v := .int (u.1 5)) hx hb hts hin hown hK G 5 (by decide) (index := 61) (by decide +kernel) rfl dX1_interrupted_1 ?_
  refine lv_if_eq (tgt := 12) hx hb dX1_interrupted_4 (by decide) (fun c_4 => ?_) (fun c_4 => ?_)
  · refine lv_aload_n hx hb dX1_interrupted_12 rfl (lv_at hl 0 rfl) ?_
    refine lv_iconst (v := 0) hx hb dX1_interrupted_13 (by decide) ?_
    refine gg1_put5 (v := 0) hx hb hts hin hown hK G (index := 61) (by decide +kernel) rfl rfl dX1_interrupted_14 (fun H locs G => ?_)
    exact gx_vret (wf := gw1_ cI cZ h q) (u1 := st_si u 5 0) hx hb hr hlocks hsz hK hAe G dX1_interrupted_17 (by unfold pm_interrupted; rw [if_pos c_4])
  · refine lv_aload_n hx hb dX1_interrupted_7 rfl (lv_at hl 0 rfl) ?_
    refine lv_iconst (v := 4) hx hb dX1_interrupted_8 (by decide) ?_
    refine gg1_put14 (v := 4) hx hb hts hin hown hK G (index := 54) (by decide +kernel) dX1_interrupted_9 (fun H locs G => ?_)
    refine lv_aload_n hx hb dX1_interrupted_12 rfl (lv_at hl 0 rfl) ?_
    refine lv_iconst (v := 0) hx hb dX1_interrupted_13 (by decide) ?_
    refine gg1_put5 (v := 0) hx hb hts hin hown hK G (index := 61) (by decide +kernel) rfl rfl dX1_interrupted_14 (fun H locs G => ?_)
    exact gx_vret (wf := gw1_ cI cZ h q) (u1 := st_si (st_si u 14 4) 5 0) hx hb hr hlocks hsz hK hAe G dX1_interrupted_17 (by unfold pm_interrupted; rw [if_neg c_4])
theorem hd_X1_interrupted : yX1_interrupted.cls = RX1 ∧ yX1_interrupted.cls ≠ "java/lang/invoke/MethodHandle" ∧ yX1_interrupted.cls ≠ "java/lang/invoke/VarHandle" ∧ (parseMethodDescriptor yX1_interrupted.desc).map (fun d => d.parameters.length) = some 0 := by decide +kernel
theorem it_2 (u : st_T) : (pm_interrupted u).2 = u.2 := by
  unfold pm_interrupted
  split <;> rfl
def pm_pause (u : st_T) (p0 : Int32) : Int32 × st_T :=
  if u.2 7 (ix p0) = (-2147483648) then
    if u.2 0 (ix (0 - 0 / 5 * 5)) = 0 then
      ((-2), st_si u 14 1)
    else
      ((-2), st_si u 14 3)
  else
    if 0 ≤ u.2 7 (ix p0) then
      if u.2 0 (ix ((u.2 7 (ix p0)) - (u.2 7 (ix p0)) / 5 * 5)) = 0 then
        ((-2), st_si u 14 1)
      else
        if u.2 1 (ix (u.2 0 (ix ((u.2 7 (ix p0)) - (u.2 7 (ix p0)) / 5 * 5)))) = 0 then
          ((-2), st_si u 14 2)
        else
          ((-2), pm_interrupted u)
    else
      if u.2 0 (ix ((-(u.2 7 (ix p0))) - (-(u.2 7 (ix p0))) / 5 * 5)) = 0 then
        ((-2), st_si u 14 1)
      else
        ((-2), st_si u 14 3)
set_option maxHeartbeats 4000000 in
set_option maxRecDepth 100000 in
theorem km_pause (l : Launch) (dC : Nat → ClassId) (dI : Nat → Nat → Nat) (cI cZ : ClassId) (h : Nat) (q : Nat → Nat) (sz : Nat) (u : st_T) (p0 : Int32) (hst : vp_in p0 24) (hlk : ∀ j : Nat, j < 5 → vp_in (u.2 0 j) 520) : gx_Mi l yX1_pause wsX1_pause { frames := 1, cells := 0, slots := 0, locals := 20 } [.ref h, .int p0] (dC, dI) cI cZ (gw1_ cI cZ h q) u sz (pm_pause u p0) := by
  refine gx_met (cc := cX1_pause) (maxL := 5) (ret := (some .int)) (by decide +kernel) rfl (Nat.le_of_ble_eq_true rfl) (fun p e s m args below meth c A ls hsz hx hb hr hlocks hts hown hml hK hAe hA G hl => ?_)
  have hown : s.vm.findClass RX1 = some m.cls := hown
  have hin : ∀ w ∈ wsX10, w ∈ wsX1_pause := gx_in
  have hl : lv_has ls 5 [(0, .ref h), (1, .int p0)] := hl
  refine lv_aload_n hx hb dX1_pause_0 rfl (lv_at hl 0 rfl) ?_
  refine gg1_get (v := .ref (q 7)) hx hb hts hin hown hK G 7 (by decide) (index := 23) (by decide +kernel) rfl dX1_pause_1 ?_
  refine lv_iload_n hx hb dX1_pause_4 rfl (lv_at hl 1 rfl) ?_
  refine gg1_ld7 hx hb hK G (i := p0) hst dX1_pause_5 ?_
  refine lv_istore_n (lv' := [(2, .int (u.2 7 (ix p0))), (0, .ref h), (1, .int p0)]) hx hb dX1_pause_6 rfl hl (by decide) rfl (fun ls hl => ?_)
  refine lv_iload_n hx hb dX1_pause_7 rfl (lv_at hl 0 rfl) ?_
  refine lv_ldc (v := (-2147483648)) hx hb hown (hts (.constant RX1 57 (-2147483648)) (by decide +kernel)) dX1_pause_8 ?_
  refine lv_icmp_ne (tgt := 17) hx hb dX1_pause_10 (by decide) (fun c_10 => ?_) (fun c_10 => ?_)
  · refine lv_iload_n hx hb dX1_pause_17 rfl (lv_at hl 0 rfl) ?_
    refine lv_if_ge (tgt := 26) hx hb dX1_pause_18 (by decide) (fun c_18 => ?_) (fun c_18 => ?_)
    · refine lv_iload_n hx hb dX1_pause_26 rfl (lv_at hl 0 rfl) ?_
      refine lv_istore_n (lv' := [(3, .int (u.2 7 (ix p0))), (2, .int (u.2 7 (ix p0))), (0, .ref h), (1, .int p0)]) hx hb dX1_pause_27 rfl hl (by decide) rfl (fun ls hl => ?_)
      refine lv_aload_n hx hb dX1_pause_28 rfl (lv_at hl 2 rfl) ?_
      refine gg1_get (v := .ref (q 0)) hx hb hts hin hown hK G 0 (by decide) (index := 7) (by decide +kernel) rfl dX1_pause_29 ?_
      refine lv_iload_n hx hb dX1_pause_32 rfl (lv_at hl 0 rfl) ?_
      refine lv_iconst (v := 5) hx hb dX1_pause_33 (by decide) ?_
      refine lv_irem hx hb dX1_pause_34 (by decide) ?_
      refine gg1_ld0 hx hb hK G (i := (u.2 7 (ix p0)) - (u.2 7 (ix p0)) / 5 * 5) (wt_p c_18) dX1_pause_35 ?_
      refine lv_istore (lv' := [(4, .int (u.2 0 (ix ((u.2 7 (ix p0)) - (u.2 7 (ix p0)) / 5 * 5)))), (3, .int (u.2 7 (ix p0))), (2, .int (u.2 7 (ix p0))), (0, .ref h), (1, .int p0)]) hx hb dX1_pause_36 hl (by decide) rfl (fun ls hl => ?_)
      refine lv_iload hx hb dX1_pause_38 (lv_at hl 0 rfl) ?_
      refine lv_if_ne (tgt := 51) hx hb dX1_pause_40 (by decide) (fun c_40 => ?_) (fun c_40 => ?_)
      · refine lv_iload_n hx hb dX1_pause_51 rfl (lv_at hl 2 rfl) ?_
        refine lv_if_ge (tgt := 63) hx hb dX1_pause_52 (by decide) (fun _ => ?_) (fun z => absurd c_18 z)
        refine lv_aload_n hx hb dX1_pause_63 rfl (lv_at hl 3 rfl) ?_
        refine gg1_get (v := .ref (q 1)) hx hb hts hin hown hK G 1 (by decide) (index := 13) (by decide +kernel) rfl dX1_pause_64 ?_
        refine lv_iload hx hb dX1_pause_67 (lv_at hl 0 rfl) ?_
        refine gg1_ld1 hx hb hK G (i := u.2 0 (ix ((u.2 7 (ix p0)) - (u.2 7 (ix p0)) / 5 * 5))) (hlk _ (ix_lt (wt_p c_18))) dX1_pause_69 ?_
        refine lv_if_ne (tgt := 81) hx hb dX1_pause_70 (by decide) (fun c_70 => ?_) (fun c_70 => ?_)
        · refine lv_aload_n hx hb dX1_pause_81 rfl (lv_at hl 3 rfl) ?_
          refine gx_callv (wf := gw1_ cI cZ h q) (u := u) (f := pm_interrupted u) (As := []) (rest := []) 0 hx hb hml hown hts hK hA G rfl rfl (km_interrupted l dC dI cI cZ h q _ u  ) gX1_pause_X1_interrupted rfl rfl rfl hd_X1_interrupted ⟨Nat.le_of_ble_eq_true rfl, Nat.le_of_ble_eq_true rfl⟩ rfl hl.1 rfl (Nat.le_of_ble_eq_true rfl) dX1_pause_82 (Nat.zero_le _) (Nat.zero_le _) (fun H locs G => ?_)
          refine lv_bipush (v := (-2)) hx hb dX1_pause_85 (by decide) ?_
          exact gx_iret (wf := gw1_ cI cZ h q) (u1 := pm_interrupted u) hx hb hr hlocks hsz hK hAe G dX1_pause_87 (by unfold pm_pause; rw [if_neg c_10, if_pos c_18, if_neg c_40, if_neg c_70])
        · refine lv_aload_n hx hb dX1_pause_73 rfl (lv_at hl 3 rfl) ?_
          refine lv_iconst (v := 2) hx hb dX1_pause_74 (by decide) ?_
          refine gg1_put14 (v := 2) hx hb hts hin hown hK G (index := 54) (by decide +kernel) dX1_pause_75 (fun H locs G => ?_)
          refine lv_goto (tgt := 85) hx hb dX1_pause_78 (by decide) ?_
          refine lv_bipush (v := (-2)) hx hb dX1_pause_85 (by decide) ?_
          exact gx_iret (wf := gw1_ cI cZ h q) (u1 := st_si u 14 2) hx hb hr hlocks hsz hK hAe G dX1_pause_87 (by unfold pm_pause; rw [if_neg c_10, if_pos c_18, if_neg c_40, if_pos c_70])
      · refine lv_aload_n hx hb dX1_pause_43 rfl (lv_at hl 3 rfl) ?_
        refine lv_iconst (v := 1) hx hb dX1_pause_44 (by decide) ?_
        refine gg1_put14 (v := 1) hx hb hts hin hown hK G (index := 54) (by decide +kernel) dX1_pause_45 (fun H locs G => ?_)
        refine lv_goto (tgt := 85) hx hb dX1_pause_48 (by decide) ?_
        refine lv_bipush (v := (-2)) hx hb dX1_pause_85 (by decide) ?_
        exact gx_iret (wf := gw1_ cI cZ h q) (u1 := st_si u 14 1) hx hb hr hlocks hsz hK hAe G dX1_pause_87 (by unfold pm_pause; rw [if_neg c_10, if_pos c_18, if_pos c_40])
    · refine lv_iload_n hx hb dX1_pause_21 rfl (lv_at hl 0 rfl) ?_
      refine lv_ineg hx hb dX1_pause_22 ?_
      refine lv_goto (tgt := 27) hx hb dX1_pause_23 (by decide) ?_
      refine lv_istore_n (lv' := [(3, .int (-(u.2 7 (ix p0)))), (2, .int (u.2 7 (ix p0))), (0, .ref h), (1, .int p0)]) hx hb dX1_pause_27 rfl hl (by decide) rfl (fun ls hl => ?_)
      refine lv_aload_n hx hb dX1_pause_28 rfl (lv_at hl 2 rfl) ?_
      refine gg1_get (v := .ref (q 0)) hx hb hts hin hown hK G 0 (by decide) (index := 7) (by decide +kernel) rfl dX1_pause_29 ?_
      refine lv_iload_n hx hb dX1_pause_32 rfl (lv_at hl 0 rfl) ?_
      refine lv_iconst (v := 5) hx hb dX1_pause_33 (by decide) ?_
      refine lv_irem hx hb dX1_pause_34 (by decide) ?_
      refine gg1_ld0 hx hb hK G (i := (-(u.2 7 (ix p0))) - (-(u.2 7 (ix p0))) / 5 * 5) (wt_n c_10 c_18) dX1_pause_35 ?_
      refine lv_istore (lv' := [(4, .int (u.2 0 (ix ((-(u.2 7 (ix p0))) - (-(u.2 7 (ix p0))) / 5 * 5)))), (3, .int (-(u.2 7 (ix p0)))), (2, .int (u.2 7 (ix p0))), (0, .ref h), (1, .int p0)]) hx hb dX1_pause_36 hl (by decide) rfl (fun ls hl => ?_)
      refine lv_iload hx hb dX1_pause_38 (lv_at hl 0 rfl) ?_
      refine lv_if_ne (tgt := 51) hx hb dX1_pause_40 (by decide) (fun c_40 => ?_) (fun c_40 => ?_)
      · refine lv_iload_n hx hb dX1_pause_51 rfl (lv_at hl 2 rfl) ?_
        refine lv_if_ge (tgt := 63) hx hb dX1_pause_52 (by decide) (fun z => absurd z c_18) (fun _ => ?_)
        refine lv_aload_n hx hb dX1_pause_55 rfl (lv_at hl 3 rfl) ?_
        refine lv_iconst (v := 3) hx hb dX1_pause_56 (by decide) ?_
        refine gg1_put14 (v := 3) hx hb hts hin hown hK G (index := 54) (by decide +kernel) dX1_pause_57 (fun H locs G => ?_)
        refine lv_goto (tgt := 85) hx hb dX1_pause_60 (by decide) ?_
        refine lv_bipush (v := (-2)) hx hb dX1_pause_85 (by decide) ?_
        exact gx_iret (wf := gw1_ cI cZ h q) (u1 := st_si u 14 3) hx hb hr hlocks hsz hK hAe G dX1_pause_87 (by unfold pm_pause; rw [if_neg c_10, if_neg c_18, if_neg c_40])
      · refine lv_aload_n hx hb dX1_pause_43 rfl (lv_at hl 3 rfl) ?_
        refine lv_iconst (v := 1) hx hb dX1_pause_44 (by decide) ?_
        refine gg1_put14 (v := 1) hx hb hts hin hown hK G (index := 54) (by decide +kernel) dX1_pause_45 (fun H locs G => ?_)
        refine lv_goto (tgt := 85) hx hb dX1_pause_48 (by decide) ?_
        refine lv_bipush (v := (-2)) hx hb dX1_pause_85 (by decide) ?_
        exact gx_iret (wf := gw1_ cI cZ h q) (u1 := st_si u 14 1) hx hb hr hlocks hsz hK hAe G dX1_pause_87 (by unfold pm_pause; rw [if_neg c_10, if_neg c_18, if_pos c_40])
  · refine lv_iconst (v := 0) hx hb dX1_pause_13 (by decide) ?_
    refine lv_goto (tgt := 27) hx hb dX1_pause_14 (by decide) ?_
    refine lv_istore_n (lv' := [(3, .int 0), (2, .int (u.2 7 (ix p0))), (0, .ref h), (1, .int p0)]) hx hb dX1_pause_27 rfl hl (by decide) rfl (fun ls hl => ?_)
    refine lv_aload_n hx hb dX1_pause_28 rfl (lv_at hl 2 rfl) ?_
    refine gg1_get (v := .ref (q 0)) hx hb hts hin hown hK G 0 (by decide) (index := 7) (by decide +kernel) rfl dX1_pause_29 ?_
    refine lv_iload_n hx hb dX1_pause_32 rfl (lv_at hl 0 rfl) ?_
    refine lv_iconst (v := 5) hx hb dX1_pause_33 (by decide) ?_
    refine lv_irem hx hb dX1_pause_34 (by decide) ?_
    refine gg1_ld0 hx hb hK G (i := 0 - 0 / 5 * 5) (re_in (x := 0) (by decide)) dX1_pause_35 ?_
    refine lv_istore (lv' := [(4, .int (u.2 0 (ix (0 - 0 / 5 * 5)))), (3, .int 0), (2, .int (u.2 7 (ix p0))), (0, .ref h), (1, .int p0)]) hx hb dX1_pause_36 hl (by decide) rfl (fun ls hl => ?_)
    refine lv_iload hx hb dX1_pause_38 (lv_at hl 0 rfl) ?_
    refine lv_if_ne (tgt := 51) hx hb dX1_pause_40 (by decide) (fun c_40 => ?_) (fun c_40 => ?_)
    · refine lv_iload_n hx hb dX1_pause_51 rfl (lv_at hl 2 rfl) ?_
      refine lv_if_ge (tgt := 63) hx hb dX1_pause_52 (by decide) (fun z => absurd z (by rw [c_10]; decide)) (fun _ => ?_)
      refine lv_aload_n hx hb dX1_pause_55 rfl (lv_at hl 3 rfl) ?_
      refine lv_iconst (v := 3) hx hb dX1_pause_56 (by decide) ?_
      refine gg1_put14 (v := 3) hx hb hts hin hown hK G (index := 54) (by decide +kernel) dX1_pause_57 (fun H locs G => ?_)
      refine lv_goto (tgt := 85) hx hb dX1_pause_60 (by decide) ?_
      refine lv_bipush (v := (-2)) hx hb dX1_pause_85 (by decide) ?_
      exact gx_iret (wf := gw1_ cI cZ h q) (u1 := st_si u 14 3) hx hb hr hlocks hsz hK hAe G dX1_pause_87 (by unfold pm_pause; rw [if_pos c_10, if_neg c_40])
    · refine lv_aload_n hx hb dX1_pause_43 rfl (lv_at hl 3 rfl) ?_
      refine lv_iconst (v := 1) hx hb dX1_pause_44 (by decide) ?_
      refine gg1_put14 (v := 1) hx hb hts hin hown hK G (index := 54) (by decide +kernel) dX1_pause_45 (fun H locs G => ?_)
      refine lv_goto (tgt := 85) hx hb dX1_pause_48 (by decide) ?_
      refine lv_bipush (v := (-2)) hx hb dX1_pause_85 (by decide) ?_
      exact gx_iret (wf := gw1_ cI cZ h q) (u1 := st_si u 14 1) hx hb hr hlocks hsz hK hAe G dX1_pause_87 (by unfold pm_pause; rw [if_pos c_10, if_pos c_40])
theorem hd_X1_pause : yX1_pause.cls = RX1 ∧ yX1_pause.cls ≠ "java/lang/invoke/MethodHandle" ∧ yX1_pause.cls ≠ "java/lang/invoke/VarHandle" ∧ (parseMethodDescriptor yX1_pause.desc).map (fun d => d.parameters.length) = some 1 := by decide +kernel
def pm_close (u : st_T) : Int32 × st_T :=
  if u.2 6 (ix (u.2 12 (ix ((u.1 13) - 1)))) = 2 then
    (0, st_si u 13 ((u.1 13) - 1))
  else
    ((st_sa (st_si u 13 ((u.1 13) - 1)) 1 (ix (pm_lockOf (st_si u 13 ((u.1 13) - 1)) (u.2 12 (ix ((u.1 13) - 1))))) ((u.2 1 (ix (pm_lockOf (st_si u 13 ((u.1 13) - 1)) (u.2 12 (ix ((u.1 13) - 1)))))) - 1)).2 1 (ix (pm_lockOf (st_si u 13 ((u.1 13) - 1)) (u.2 12 (ix ((u.1 13) - 1))))), st_sa (st_si u 13 ((u.1 13) - 1)) 1 (ix (pm_lockOf (st_si u 13 ((u.1 13) - 1)) (u.2 12 (ix ((u.1 13) - 1))))) ((u.2 1 (ix (pm_lockOf (st_si u 13 ((u.1 13) - 1)) (u.2 12 (ix ((u.1 13) - 1)))))) - 1))
set_option maxHeartbeats 4000000 in
set_option maxRecDepth 100000 in
theorem km_close (l : Launch) (dC : Nat → ClassId) (dI : Nat → Nat → Nat) (cI cZ : ClassId) (h : Nat) (q : Nat → Nat) (sz : Nat) (u : st_T) (hdp : vp_in (u.1 13 - 1) 8) (hbk : ∀ j : Nat, j < 8 → vp_in (u.2 12 j) 24) (hlk : ∀ j : Nat, j < 5 → vp_in (u.2 0 j) 520) : gx_Mi l yX1_close wsX1_close { frames := 2, cells := 0, slots := 0, locals := 42 } [.ref h] (dC, dI) cI cZ (gw1_ cI cZ h q) u sz (pm_close u) := by
  refine gx_met (cc := cX1_close) (maxL := 3) (ret := (some .int)) (by decide +kernel) rfl (Nat.le_of_ble_eq_true rfl) (fun p e s m args below meth c A ls hsz hx hb hr hlocks hts hown hml hK hAe hA G hl => ?_)
  have hown : s.vm.findClass RX1 = some m.cls := hown
  have hin : ∀ w ∈ wsX10, w ∈ wsX1_close := gx_in
  have hl : lv_has ls 3 [(0, .ref h)] := hl
  refine lv_aload_n hx hb dX1_close_0 rfl (lv_at hl 0 rfl) ?_
  refine lv_dup hx hb dX1_close_1 rfl ?_
  refine gg1_get (v := .int (u.1 13)) hx hb hts hin hown hK G 13 (by decide) (index := 65) (by decide +kernel) rfl dX1_close_2 ?_
  refine lv_iconst (v := 1) hx hb dX1_close_5 (by decide) ?_
  refine lv_isub hx hb dX1_close_6 ?_
  refine gg1_put13 (v := (u.1 13) - 1) hx hb hts hin hown hK G (index := 65) (by decide +kernel) dX1_close_7 (fun H locs G => ?_)
  refine lv_aload_n hx hb dX1_close_10 rfl (lv_at hl 0 rfl) ?_
  refine gg1_get (v := .ref (q 12)) hx hb hts hin hown hK G 12 (by decide) (index := 29) (by decide +kernel) rfl dX1_close_11 ?_
  refine lv_aload_n hx hb dX1_close_14 rfl (lv_at hl 0 rfl) ?_
  refine gg1_get (v := .int ((u.1 13) - 1)) hx hb hts hin hown hK G 13 (by decide) (index := 65) (by decide +kernel) rfl dX1_close_15 ?_
  refine gg1_ld12 hx hb hK G (i := (u.1 13) - 1) hdp dX1_close_18 ?_
  refine gx_is (y := u.2 12 (ix ((u.1 13) - 1))) (congrFun (st_si_2 _ _ _ _) _) ?_
  refine lv_istore_n (lv' := [(1, .int (u.2 12 (ix ((u.1 13) - 1)))), (0, .ref h)]) hx hb dX1_close_19 rfl hl (by decide) rfl (fun ls hl => ?_)
  refine lv_aload_n hx hb dX1_close_20 rfl (lv_at hl 1 rfl) ?_
  refine gg1_get (v := .ref (q 6)) hx hb hts hin hown hK G 6 (by decide) (index := 20) (by decide +kernel) rfl dX1_close_21 ?_
  refine lv_iload_n hx hb dX1_close_24 rfl (lv_at hl 0 rfl) ?_
  refine gg1_ld6 hx hb hK G (i := u.2 12 (ix ((u.1 13) - 1))) (hbk _ (ix_lt hdp)) dX1_close_25 ?_
  refine gx_is (y := u.2 6 (ix (u.2 12 (ix ((u.1 13) - 1))))) (congrFun (st_si_2 _ _ _ _) _) ?_
  refine lv_iconst (v := 2) hx hb dX1_close_26 (by decide) ?_
  refine lv_icmp_ne (tgt := 32) hx hb dX1_close_27 (by decide) (fun c_27 => ?_) (fun c_27 => ?_)
  · refine lv_aload_n hx hb dX1_close_32 rfl (lv_at hl 1 rfl) ?_
    refine lv_iload_n hx hb dX1_close_33 rfl (lv_at hl 0 rfl) ?_
    refine gx_callr (wf := gw1_ cI cZ h q) (u := st_si u 13 ((u.1 13) - 1)) (f := pm_lockOf (st_si u 13 ((u.1 13) - 1)) (u.2 12 (ix ((u.1 13) - 1)))) (As := [.int (u.2 12 (ix ((u.1 13) - 1)))]) (rest := []) 1 hx hb hml hown hts hK hA G rfl rfl (km_lockOf l dC dI cI cZ h q _ (st_si u 13 ((u.1 13) - 1)) (u.2 12 (ix ((u.1 13) - 1))) (hbk _ (ix_lt hdp))) gX1_close_X1_lockOf rfl rfl rfl hd_X1_lockOf ⟨Nat.le_of_ble_eq_true rfl, Nat.le_of_ble_eq_true rfl⟩ rfl hl.1 rfl (Nat.le_of_ble_eq_true rfl) dX1_close_34 (Nat.zero_le _) (Nat.zero_le _) (fun H locs G => ?_)
    refine lv_istore_n (lv' := [(2, .int (pm_lockOf (st_si u 13 ((u.1 13) - 1)) (u.2 12 (ix ((u.1 13) - 1))))), (1, .int (u.2 12 (ix ((u.1 13) - 1)))), (0, .ref h)]) hx hb dX1_close_37 rfl hl (by decide) rfl (fun ls hl => ?_)
    refine lv_aload_n hx hb dX1_close_38 rfl (lv_at hl 2 rfl) ?_
    refine gg1_get (v := .ref (q 1)) hx hb hts hin hown hK G 1 (by decide) (index := 13) (by decide +kernel) rfl dX1_close_39 ?_
    refine lv_iload_n hx hb dX1_close_42 rfl (lv_at hl 0 rfl) ?_
    refine lv_dup2_11 hx hb dX1_close_43 rfl rfl ?_
    refine gg1_ld1 hx hb hK G (i := pm_lockOf (st_si u 13 ((u.1 13) - 1)) (u.2 12 (ix ((u.1 13) - 1)))) (lo_in hlk) dX1_close_44 ?_
    refine gx_is (y := u.2 1 (ix (pm_lockOf (st_si u 13 ((u.1 13) - 1)) (u.2 12 (ix ((u.1 13) - 1)))))) (congrFun (st_si_2 _ _ _ _) _) ?_
    refine lv_iconst (v := 1) hx hb dX1_close_45 (by decide) ?_
    refine lv_isub hx hb dX1_close_46 ?_
    refine gg1_st1 hx hb hK G (i := pm_lockOf (st_si u 13 ((u.1 13) - 1)) (u.2 12 (ix ((u.1 13) - 1)))) (x := (u.2 1 (ix (pm_lockOf (st_si u 13 ((u.1 13) - 1)) (u.2 12 (ix ((u.1 13) - 1)))))) - 1) (lo_in hlk) dX1_close_47 (fun H locs G => ?_)
    refine lv_aload_n hx hb dX1_close_48 rfl (lv_at hl 2 rfl) ?_
    refine gg1_get (v := .ref (q 1)) hx hb hts hin hown hK G 1 (by decide) (index := 13) (by decide +kernel) rfl dX1_close_49 ?_
    refine lv_iload_n hx hb dX1_close_52 rfl (lv_at hl 0 rfl) ?_
    refine gg1_ld1 hx hb hK G (i := pm_lockOf (st_si u 13 ((u.1 13) - 1)) (u.2 12 (ix ((u.1 13) - 1)))) (lo_in hlk) dX1_close_53 ?_
    exact gx_iret (wf := gw1_ cI cZ h q) (u1 := st_sa (st_si u 13 ((u.1 13) - 1)) 1 (ix (pm_lockOf (st_si u 13 ((u.1 13) - 1)) (u.2 12 (ix ((u.1 13) - 1))))) ((u.2 1 (ix (pm_lockOf (st_si u 13 ((u.1 13) - 1)) (u.2 12 (ix ((u.1 13) - 1)))))) - 1)) hx hb hr hlocks hsz hK hAe G dX1_close_54 (by unfold pm_close; rw [if_neg c_27])
  · refine lv_iconst (v := 0) hx hb dX1_close_30 (by decide) ?_
    exact gx_iret (wf := gw1_ cI cZ h q) (u1 := st_si u 13 ((u.1 13) - 1)) hx hb hr hlocks hsz hK hAe G dX1_close_31 (by unfold pm_close; rw [if_pos c_27])
theorem hd_X1_close : yX1_close.cls = RX1 ∧ yX1_close.cls ≠ "java/lang/invoke/MethodHandle" ∧ yX1_close.cls ≠ "java/lang/invoke/VarHandle" ∧ (parseMethodDescriptor yX1_close.desc).map (fun d => d.parameters.length) = some 0 := by decide +kernel
def pm_enter (u : st_T) (p0 : Int32) : Int32 × st_T :=
  if ((pm_monitor u p0 1).2).1 14 = 0 then
    ((st_sa ((pm_monitor u p0 1).2) 1 (ix ((pm_monitor u p0 1).1)) ((((pm_monitor u p0 1).2).2 1 (ix ((pm_monitor u p0 1).1))) + 1)).2 1 (ix ((pm_monitor u p0 1).1)), st_si (st_sa (st_sa ((pm_monitor u p0 1).2) 1 (ix ((pm_monitor u p0 1).1)) ((((pm_monitor u p0 1).2).2 1 (ix ((pm_monitor u p0 1).1))) + 1)) 12 (ix (((pm_monitor u p0 1).2).1 13)) p0) 13 ((((pm_monitor u p0 1).2).1 13) + 1))
  else
    (0, (pm_monitor u p0 1).2)
set_option maxHeartbeats 4000000 in
set_option maxRecDepth 100000 in
theorem km_enter (l : Launch) (dC : Nat → ClassId) (dI : Nat → Nat → Nat) (cI cZ : ClassId) (h : Nat) (q : Nat → Nat) (sz : Nat) (u : st_T) (p0 : Int32) (hst : vp_in p0 24) (hlk : ∀ j : Nat, j < 5 → vp_in (u.2 0 j) 520) (hdp : vp_in (u.1 13) 8) : gx_Mi l yX1_enter wsX1_enter { frames := 3, cells := 0, slots := 0, locals := 65 } [.ref h, .int p0] (dC, dI) cI cZ (gw1_ cI cZ h q) u sz (pm_enter u p0) := by
  refine gx_met (cc := cX1_enter) (maxL := 3) (ret := (some .int)) (by decide +kernel) rfl (Nat.le_of_ble_eq_true rfl) (fun p e s m args below meth c A ls hsz hx hb hr hlocks hts hown hml hK hAe hA G hl => ?_)
  have hown : s.vm.findClass RX1 = some m.cls := hown
  have hin : ∀ w ∈ wsX10, w ∈ wsX1_enter := gx_in
  have hl : lv_has ls 3 [(0, .ref h), (1, .int p0)] := hl
  refine lv_aload_n hx hb dX1_enter_0 rfl (lv_at hl 0 rfl) ?_
  refine lv_iload_n hx hb dX1_enter_1 rfl (lv_at hl 1 rfl) ?_
  refine lv_iconst (v := 1) hx hb dX1_enter_2 (by decide) ?_
  refine gx_calli (wf := gw1_ cI cZ h q) (u := u) (f := pm_monitor u p0 1) (As := [.int p0, .int 1]) (rest := []) 2 hx hb hml hown hts hK hA G rfl rfl (km_monitor l dC dI cI cZ h q _ u p0 1 hst hlk) gX1_enter_X1_monitor rfl rfl rfl hd_X1_monitor ⟨Nat.le_of_ble_eq_true rfl, Nat.le_of_ble_eq_true rfl⟩ rfl hl.1 rfl (Nat.le_of_ble_eq_true rfl) dX1_enter_3 (Nat.zero_le _) (Nat.zero_le _) (fun H locs G => ?_)
  refine lv_istore_n (lv' := [(2, .int ((pm_monitor u p0 1).1)), (0, .ref h), (1, .int p0)]) hx hb dX1_enter_6 rfl hl (by decide) rfl (fun ls hl => ?_)
  refine lv_aload_n hx hb dX1_enter_7 rfl (lv_at hl 1 rfl) ?_
  refine gg1_get (v := .int (((pm_monitor u p0 1).2).1 14)) hx hb hts hin hown hK G 14 (by decide) (index := 54) (by decide +kernel) rfl dX1_enter_8 ?_
  refine lv_if_eq (tgt := 16) hx hb dX1_enter_11 (by decide) (fun c_11 => ?_) (fun c_11 => ?_)
  · refine lv_aload_n hx hb dX1_enter_16 rfl (lv_at hl 1 rfl) ?_
    refine gg1_get (v := .ref (q 1)) hx hb hts hin hown hK G 1 (by decide) (index := 13) (by decide +kernel) rfl dX1_enter_17 ?_
    refine lv_iload_n hx hb dX1_enter_20 rfl (lv_at hl 0 rfl) ?_
    refine lv_dup2_11 hx hb dX1_enter_21 rfl rfl ?_
    refine gg1_ld1 hx hb hK G (i := (pm_monitor u p0 1).1) (mn_in hlk) dX1_enter_22 ?_
    refine lv_iconst (v := 1) hx hb dX1_enter_23 (by decide) ?_
    refine lv_iadd hx hb dX1_enter_24 ?_
    refine gg1_st1 hx hb hK G (i := (pm_monitor u p0 1).1) (x := (((pm_monitor u p0 1).2).2 1 (ix ((pm_monitor u p0 1).1))) + 1) (mn_in hlk) dX1_enter_25 (fun H locs G => ?_)
    refine lv_aload_n hx hb dX1_enter_26 rfl (lv_at hl 1 rfl) ?_
    refine gg1_get (v := .ref (q 12)) hx hb hts hin hown hK G 12 (by decide) (index := 29) (by decide +kernel) rfl dX1_enter_27 ?_
    refine lv_aload_n hx hb dX1_enter_30 rfl (lv_at hl 1 rfl) ?_
    refine gg1_get (v := .int (((pm_monitor u p0 1).2).1 13)) hx hb hts hin hown hK G 13 (by decide) (index := 65) (by decide +kernel) rfl dX1_enter_31 ?_
    refine lv_iload_n hx hb dX1_enter_34 rfl (lv_at hl 2 rfl) ?_
    refine gg1_st12 hx hb hK G (i := ((pm_monitor u p0 1).2).1 13) (x := p0) (by rw [mn_13]; exact hdp) dX1_enter_35 (fun H locs G => ?_)
    refine lv_aload_n hx hb dX1_enter_36 rfl (lv_at hl 1 rfl) ?_
    refine lv_dup hx hb dX1_enter_37 rfl ?_
    refine gg1_get (v := .int (((pm_monitor u p0 1).2).1 13)) hx hb hts hin hown hK G 13 (by decide) (index := 65) (by decide +kernel) rfl dX1_enter_38 ?_
    refine lv_iconst (v := 1) hx hb dX1_enter_41 (by decide) ?_
    refine lv_iadd hx hb dX1_enter_42 ?_
    refine gg1_put13 (v := (((pm_monitor u p0 1).2).1 13) + 1) hx hb hts hin hown hK G (index := 65) (by decide +kernel) dX1_enter_43 (fun H locs G => ?_)
    refine lv_aload_n hx hb dX1_enter_46 rfl (lv_at hl 1 rfl) ?_
    refine gg1_get (v := .ref (q 1)) hx hb hts hin hown hK G 1 (by decide) (index := 13) (by decide +kernel) rfl dX1_enter_47 ?_
    refine lv_iload_n hx hb dX1_enter_50 rfl (lv_at hl 0 rfl) ?_
    refine gg1_ld1 hx hb hK G (i := (pm_monitor u p0 1).1) (mn_in hlk) dX1_enter_51 ?_
    refine gx_is (y := (st_sa ((pm_monitor u p0 1).2) 1 (ix ((pm_monitor u p0 1).1)) ((((pm_monitor u p0 1).2).2 1 (ix ((pm_monitor u p0 1).1))) + 1)).2 1 (ix ((pm_monitor u p0 1).1))) (congrFun ((st_si_2 _ _ _ _).trans (st_sa_2 _ _ _ (by decide))) _) ?_
    exact gx_iret (wf := gw1_ cI cZ h q) (u1 := st_si (st_sa (st_sa ((pm_monitor u p0 1).2) 1 (ix ((pm_monitor u p0 1).1)) ((((pm_monitor u p0 1).2).2 1 (ix ((pm_monitor u p0 1).1))) + 1)) 12 (ix (((pm_monitor u p0 1).2).1 13)) p0) 13 ((((pm_monitor u p0 1).2).1 13) + 1)) hx hb hr hlocks hsz hK hAe G dX1_enter_52 (by unfold pm_enter; rw [if_pos c_11])
  · refine lv_iconst (v := 0) hx hb dX1_enter_14 (by decide) ?_
    exact gx_iret (wf := gw1_ cI cZ h q) (u1 := (pm_monitor u p0 1).2) hx hb hr hlocks hsz hK hAe G dX1_enter_15 (by unfold pm_enter; rw [if_neg c_11])
theorem hd_X1_enter : yX1_enter.cls = RX1 ∧ yX1_enter.cls ≠ "java/lang/invoke/MethodHandle" ∧ yX1_enter.cls ≠ "java/lang/invoke/VarHandle" ∧ (parseMethodDescriptor yX1_enter.desc).map (fun d => d.parameters.length) = some 1 := by decide +kernel
def pm_thread (u : st_T) (p0 : Int32) : Int32 × st_T :=
  if u.2 6 (ix p0) ≤ 12 then
    if u.2 3 (ix (pm_modulo (u.2 7 (ix p0)) 4)) = 0 then
      (0, st_si (st_sa u 3 (ix (pm_modulo (u.2 7 (ix p0)) 4)) 1) 4 ((u.1 4) + ((pm_modulo (u.2 7 (ix p0)) 4) + 1)))
    else
      (0, st_si u 14 5)
  else
    if u.2 3 (ix (pm_modulo (u.2 7 (ix p0)) 4)) = 0 then
      (0, u)
    else
      (1, u)
set_option maxHeartbeats 4000000 in
set_option maxRecDepth 100000 in
theorem km_thread (l : Launch) (dC : Nat → ClassId) (dI : Nat → Nat → Nat) (cI cZ : ClassId) (h : Nat) (q : Nat → Nat) (sz : Nat) (u : st_T) (p0 : Int32) (hst : vp_in p0 24) : gx_Mi l yX1_thread wsX1_thread { frames := 1, cells := 0, slots := 0, locals := 21 } [.ref h, .int p0] (dC, dI) cI cZ (gw1_ cI cZ h q) u sz (pm_thread u p0) := by
  refine gx_met (cc := cX1_thread) (maxL := 3) (ret := (some .int)) (by decide +kernel) rfl (Nat.le_of_ble_eq_true rfl) (fun p e s m args below meth c A ls hsz hx hb hr hlocks hts hown hml hK hAe hA G hl => ?_)
  have hown : s.vm.findClass RX1 = some m.cls := hown
  have hin : ∀ w ∈ wsX10, w ∈ wsX1_thread := gx_in
  have hl : lv_has ls 3 [(0, .ref h), (1, .int p0)] := hl
  refine lv_aload_n hx hb dX1_thread_0 rfl (lv_at hl 0 rfl) ?_
  refine gg1_get (v := .ref (q 7)) hx hb hts hin hown hK G 7 (by decide) (index := 23) (by decide +kernel) rfl dX1_thread_1 ?_
  refine lv_iload_n hx hb dX1_thread_4 rfl (lv_at hl 1 rfl) ?_
  refine gg1_ld7 hx hb hK G (i := p0) hst dX1_thread_5 ?_
  refine lv_iconst (v := 4) hx hb dX1_thread_6 (by decide) ?_
  refine gx_calls (f := pm_modulo (u.2 7 (ix p0)) 4) (As := [.int (u.2 7 (ix p0)), .int 4]) (rest := []) 2 hx hb hml hown hts (km_modulo l (u.2 7 (ix p0)) 4 (by decide)) gX1_thread_X1_modulo rfl rfl rfl hd_X1_modulo ⟨Nat.le_of_ble_eq_true rfl, Nat.le_of_ble_eq_true rfl⟩ rfl hl.1 rfl (Nat.le_of_ble_eq_true rfl) dX1_thread_7 (Nat.zero_le _) (Nat.zero_le _) ?_
  refine lv_istore_n (lv' := [(2, .int (pm_modulo (u.2 7 (ix p0)) 4)), (0, .ref h), (1, .int p0)]) hx hb dX1_thread_10 rfl hl (by decide) rfl (fun ls hl => ?_)
  refine lv_aload_n hx hb dX1_thread_11 rfl (lv_at hl 1 rfl) ?_
  refine gg1_get (v := .ref (q 6)) hx hb hts hin hown hK G 6 (by decide) (index := 20) (by decide +kernel) rfl dX1_thread_12 ?_
  refine lv_iload_n hx hb dX1_thread_15 rfl (lv_at hl 2 rfl) ?_
  refine gg1_ld6 hx hb hK G (i := p0) hst dX1_thread_16 ?_
  refine lv_bipush (v := 12) hx hb dX1_thread_17 (by decide) ?_
  refine lv_icmp_le (tgt := 37) hx hb dX1_thread_19 (by decide) (fun c_19 => ?_) (fun c_19 => ?_)
  · refine lv_aload_n hx hb dX1_thread_37 rfl (lv_at hl 1 rfl) ?_
    refine gg1_get (v := .ref (q 3)) hx hb hts hin hown hK G 3 (by decide) (index := 16) (by decide +kernel) rfl dX1_thread_38 ?_
    refine lv_iload_n hx hb dX1_thread_41 rfl (lv_at hl 0 rfl) ?_
    refine gg1_ld3 hx hb hK G (i := pm_modulo (u.2 7 (ix p0)) 4) (mo_in4 _) dX1_thread_42 ?_
    refine lv_if_eq (tgt := 54) hx hb dX1_thread_43 (by decide) (fun c_43 => ?_) (fun c_43 => ?_)
    · refine lv_aload_n hx hb dX1_thread_54 rfl (lv_at hl 1 rfl) ?_
      refine gg1_get (v := .ref (q 3)) hx hb hts hin hown hK G 3 (by decide) (index := 16) (by decide +kernel) rfl dX1_thread_55 ?_
      refine lv_iload_n hx hb dX1_thread_58 rfl (lv_at hl 0 rfl) ?_
      refine lv_iconst (v := 1) hx hb dX1_thread_59 (by decide) ?_
      refine gg1_st3 hx hb hK G (i := pm_modulo (u.2 7 (ix p0)) 4) (x := 1) (mo_in4 _) rfl dX1_thread_60 (fun H locs G => ?_)
      refine lv_aload_n hx hb dX1_thread_61 rfl (lv_at hl 1 rfl) ?_
      refine lv_dup hx hb dX1_thread_62 rfl ?_
      refine gg1_get (v := .int (u.1 4)) hx hb hts hin hown hK G 4 (by decide) (index := 72) (by decide +kernel) rfl dX1_thread_63 ?_
      refine lv_iload_n hx hb dX1_thread_66 rfl (lv_at hl 0 rfl) ?_
      refine lv_iconst (v := 1) hx hb dX1_thread_67 (by decide) ?_
      refine lv_iadd hx hb dX1_thread_68 ?_
      refine lv_iadd hx hb dX1_thread_69 ?_
      refine gg1_put4 (v := (u.1 4) + ((pm_modulo (u.2 7 (ix p0)) 4) + 1)) hx hb hts hin hown hK G (index := 72) (by decide +kernel) dX1_thread_70 (fun H locs G => ?_)
      refine lv_iconst (v := 0) hx hb dX1_thread_73 (by decide) ?_
      exact gx_iret (wf := gw1_ cI cZ h q) (u1 := st_si (st_sa u 3 (ix (pm_modulo (u.2 7 (ix p0)) 4)) 1) 4 ((u.1 4) + ((pm_modulo (u.2 7 (ix p0)) 4) + 1))) hx hb hr hlocks hsz hK hAe G dX1_thread_74 (by unfold pm_thread; rw [if_pos c_19, if_pos c_43])
    · refine lv_aload_n hx hb dX1_thread_46 rfl (lv_at hl 1 rfl) ?_
      refine lv_iconst (v := 5) hx hb dX1_thread_47 (by decide) ?_
      refine gg1_put14 (v := 5) hx hb hts hin hown hK G (index := 54) (by decide +kernel) dX1_thread_48 (fun H locs G => ?_)
      refine lv_goto (tgt := 73) hx hb dX1_thread_51 (by decide) ?_
      refine lv_iconst (v := 0) hx hb dX1_thread_73 (by decide) ?_
      exact gx_iret (wf := gw1_ cI cZ h q) (u1 := st_si u 14 5) hx hb hr hlocks hsz hK hAe G dX1_thread_74 (by unfold pm_thread; rw [if_pos c_19, if_neg c_43])
  · refine lv_aload_n hx hb dX1_thread_22 rfl (lv_at hl 1 rfl) ?_
    refine gg1_get (v := .ref (q 3)) hx hb hts hin hown hK G 3 (by decide) (index := 16) (by decide +kernel) rfl dX1_thread_23 ?_
    refine lv_iload_n hx hb dX1_thread_26 rfl (lv_at hl 0 rfl) ?_
    refine gg1_ld3 hx hb hK G (i := pm_modulo (u.2 7 (ix p0)) 4) (mo_in4 _) dX1_thread_27 ?_
    refine lv_if_eq (tgt := 35) hx hb dX1_thread_28 (by decide) (fun c_28 => ?_) (fun c_28 => ?_)
    · refine lv_iconst (v := 0) hx hb dX1_thread_35 (by decide) ?_
      exact gx_iret (wf := gw1_ cI cZ h q) (u1 := u) hx hb hr hlocks hsz hK hAe G dX1_thread_36 (by unfold pm_thread; rw [if_neg c_19, if_pos c_28])
    · refine lv_iconst (v := 1) hx hb dX1_thread_31 (by decide) ?_
      refine lv_goto (tgt := 36) hx hb dX1_thread_32 (by decide) ?_
      exact gx_iret (wf := gw1_ cI cZ h q) (u1 := u) hx hb hr hlocks hsz hK hAe G dX1_thread_36 (by unfold pm_thread; rw [if_neg c_19, if_neg c_28])
theorem hd_X1_thread : yX1_thread.cls = RX1 ∧ yX1_thread.cls ≠ "java/lang/invoke/MethodHandle" ∧ yX1_thread.cls ≠ "java/lang/invoke/VarHandle" ∧ (parseMethodDescriptor yX1_thread.desc).map (fun d => d.parameters.length) = some 1 := by decide +kernel
def pm_others (u : st_T) (p0 : Int32) : Int32 × st_T :=
  if u.2 6 (ix p0) = 7 then
    (0, st_si u 5 1)
  else
    if u.2 6 (ix p0) = 8 then
      if u.1 5 = 0 then
        (0, st_si u 5 0)
      else
        (1, st_si u 5 0)
    else
      if u.2 6 (ix p0) = 10 then
        if 0 ≤ u.2 7 (ix p0) then
          (0, pm_interrupted u)
        else
          (0, st_si u 14 3)
      else
        if u.2 6 (ix p0) = 11 then
          (0, st_si u 14 (100 + (pm_modulo (u.2 7 (ix p0)) 100)))
        else
          if u.2 6 (ix p0) = 15 then
            ((u.1 4) + (u.2 7 (ix p0)), st_si u 4 ((u.1 4) + (u.2 7 (ix p0))))
          else
            if u.2 6 (ix p0) = 9 then
              if u.1 5 = 0 then
                (0, u)
              else
                (1, u)
            else
              (0, u)
set_option maxHeartbeats 4000000 in
set_option maxRecDepth 100000 in
theorem km_others (l : Launch) (dC : Nat → ClassId) (dI : Nat → Nat → Nat) (cI cZ : ClassId) (h : Nat) (q : Nat → Nat) (sz : Nat) (u : st_T) (p0 : Int32) (hst : vp_in p0 24) : gx_Mi l yX1_others wsX1_others { frames := 1, cells := 0, slots := 0, locals := 21 } [.ref h, .int p0] (dC, dI) cI cZ (gw1_ cI cZ h q) u sz (pm_others u p0) := by
  refine gx_met (cc := cX1_others) (maxL := 4) (ret := (some .int)) (by decide +kernel) rfl (Nat.le_of_ble_eq_true rfl) (fun p e s m args below meth c A ls hsz hx hb hr hlocks hts hown hml hK hAe hA G hl => ?_)
  have hown : s.vm.findClass RX1 = some m.cls := hown
  have hin : ∀ w ∈ wsX10, w ∈ wsX1_others := gx_in
  have hl : lv_has ls 4 [(0, .ref h), (1, .int p0)] := hl
  refine lv_aload_n hx hb dX1_others_0 rfl (lv_at hl 0 rfl) ?_
  refine gg1_get (v := .ref (q 7)) hx hb hts hin hown hK G 7 (by decide) (index := 23) (by decide +kernel) rfl dX1_others_1 ?_
  refine lv_iload_n hx hb dX1_others_4 rfl (lv_at hl 1 rfl) ?_
  refine gg1_ld7 hx hb hK G (i := p0) hst dX1_others_5 ?_
  refine lv_istore_n (lv' := [(2, .int (u.2 7 (ix p0))), (0, .ref h), (1, .int p0)]) hx hb dX1_others_6 rfl hl (by decide) rfl (fun ls hl => ?_)
  refine lv_aload_n hx hb dX1_others_7 rfl (lv_at hl 1 rfl) ?_
  refine gg1_get (v := .int (u.1 5)) hx hb hts hin hown hK G 5 (by decide) (index := 61) (by decide +kernel) rfl dX1_others_8 ?_
  refine lv_istore_n (lv' := [(3, .int (u.1 5)), (2, .int (u.2 7 (ix p0))), (0, .ref h), (1, .int p0)]) hx hb dX1_others_11 rfl hl (by decide) rfl (fun ls hl => ?_)
  refine lv_aload_n hx hb dX1_others_12 rfl (lv_at hl 2 rfl) ?_
  refine gg1_get (v := .ref (q 6)) hx hb hts hin hown hK G 6 (by decide) (index := 20) (by decide +kernel) rfl dX1_others_13 ?_
  refine lv_iload_n hx hb dX1_others_16 rfl (lv_at hl 3 rfl) ?_
  refine gg1_ld6 hx hb hK G (i := p0) hst dX1_others_17 ?_
  refine lv_bipush (v := 7) hx hb dX1_others_18 (by decide) ?_
  refine lv_icmp_ne (tgt := 28) hx hb dX1_others_20 (by decide) (fun c_20 => ?_) (fun c_20 => ?_)
  · refine lv_aload_n hx hb dX1_others_28 rfl (lv_at hl 2 rfl) ?_
    refine gg1_get (v := .ref (q 6)) hx hb hts hin hown hK G 6 (by decide) (index := 20) (by decide +kernel) rfl dX1_others_29 ?_
    refine lv_iload_n hx hb dX1_others_32 rfl (lv_at hl 3 rfl) ?_
    refine gg1_ld6 hx hb hK G (i := p0) hst dX1_others_33 ?_
    refine lv_bipush (v := 8) hx hb dX1_others_34 (by decide) ?_
    refine lv_icmp_ne (tgt := 44) hx hb dX1_others_36 (by decide) (fun c_36 => ?_) (fun c_36 => ?_)
    · refine lv_aload_n hx hb dX1_others_44 rfl (lv_at hl 2 rfl) ?_
      refine gg1_get (v := .ref (q 6)) hx hb hts hin hown hK G 6 (by decide) (index := 20) (by decide +kernel) rfl dX1_others_45 ?_
      refine lv_iload_n hx hb dX1_others_48 rfl (lv_at hl 3 rfl) ?_
      refine gg1_ld6 hx hb hK G (i := p0) hst dX1_others_49 ?_
      refine lv_bipush (v := 10) hx hb dX1_others_50 (by decide) ?_
      refine lv_icmp_ne (tgt := 71) hx hb dX1_others_52 (by decide) (fun c_52 => ?_) (fun c_52 => ?_)
      · refine lv_aload_n hx hb dX1_others_71 rfl (lv_at hl 2 rfl) ?_
        refine gg1_get (v := .ref (q 6)) hx hb hts hin hown hK G 6 (by decide) (index := 20) (by decide +kernel) rfl dX1_others_72 ?_
        refine lv_iload_n hx hb dX1_others_75 rfl (lv_at hl 3 rfl) ?_
        refine gg1_ld6 hx hb hK G (i := p0) hst dX1_others_76 ?_
        refine lv_bipush (v := 11) hx hb dX1_others_77 (by decide) ?_
        refine lv_icmp_ne (tgt := 95) hx hb dX1_others_79 (by decide) (fun c_79 => ?_) (fun c_79 => ?_)
        · refine lv_aload_n hx hb dX1_others_95 rfl (lv_at hl 2 rfl) ?_
          refine gg1_get (v := .ref (q 6)) hx hb hts hin hown hK G 6 (by decide) (index := 20) (by decide +kernel) rfl dX1_others_96 ?_
          refine lv_iload_n hx hb dX1_others_99 rfl (lv_at hl 3 rfl) ?_
          refine gg1_ld6 hx hb hK G (i := p0) hst dX1_others_100 ?_
          refine lv_bipush (v := 15) hx hb dX1_others_101 (by decide) ?_
          refine lv_icmp_ne (tgt := 121) hx hb dX1_others_103 (by decide) (fun c_103 => ?_) (fun c_103 => ?_)
          · refine lv_aload_n hx hb dX1_others_121 rfl (lv_at hl 2 rfl) ?_
            refine gg1_get (v := .ref (q 6)) hx hb hts hin hown hK G 6 (by decide) (index := 20) (by decide +kernel) rfl dX1_others_122 ?_
            refine lv_iload_n hx hb dX1_others_125 rfl (lv_at hl 3 rfl) ?_
            refine gg1_ld6 hx hb hK G (i := p0) hst dX1_others_126 ?_
            refine lv_bipush (v := 8) hx hb dX1_others_127 (by decide) ?_
            refine lv_icmp_eq (tgt := 143) hx hb dX1_others_129 (by decide) (fun z => absurd z c_36) (fun _ => ?_)
            refine lv_aload_n hx hb dX1_others_132 rfl (lv_at hl 2 rfl) ?_
            refine gg1_get (v := .ref (q 6)) hx hb hts hin hown hK G 6 (by decide) (index := 20) (by decide +kernel) rfl dX1_others_133 ?_
            refine lv_iload_n hx hb dX1_others_136 rfl (lv_at hl 3 rfl) ?_
            refine gg1_ld6 hx hb hK G (i := p0) hst dX1_others_137 ?_
            refine lv_bipush (v := 9) hx hb dX1_others_138 (by decide) ?_
            refine lv_icmp_ne (tgt := 151) hx hb dX1_others_140 (by decide) (fun c_140 => ?_) (fun c_140 => ?_)
            · refine lv_iconst (v := 0) hx hb dX1_others_151 (by decide) ?_
              exact gx_iret (wf := gw1_ cI cZ h q) (u1 := u) hx hb hr hlocks hsz hK hAe G dX1_others_152 (by unfold pm_others; rw [if_neg c_20, if_neg c_36, if_neg c_52, if_neg c_79, if_neg c_103, if_neg c_140])
            · refine lv_iload_n hx hb dX1_others_143 rfl (lv_at hl 0 rfl) ?_
              refine lv_if_eq (tgt := 151) hx hb dX1_others_144 (by decide) (fun c_144 => ?_) (fun c_144 => ?_)
              · refine lv_iconst (v := 0) hx hb dX1_others_151 (by decide) ?_
                exact gx_iret (wf := gw1_ cI cZ h q) (u1 := u) hx hb hr hlocks hsz hK hAe G dX1_others_152 (by unfold pm_others; rw [if_neg c_20, if_neg c_36, if_neg c_52, if_neg c_79, if_neg c_103, if_pos c_140, if_pos c_144])
              · refine lv_iconst (v := 1) hx hb dX1_others_147 (by decide) ?_
                refine lv_goto (tgt := 152) hx hb dX1_others_148 (by decide) ?_
                exact gx_iret (wf := gw1_ cI cZ h q) (u1 := u) hx hb hr hlocks hsz hK hAe G dX1_others_152 (by unfold pm_others; rw [if_neg c_20, if_neg c_36, if_neg c_52, if_neg c_79, if_neg c_103, if_pos c_140, if_neg c_144])
          · refine lv_aload_n hx hb dX1_others_106 rfl (lv_at hl 2 rfl) ?_
            refine lv_dup hx hb dX1_others_107 rfl ?_
            refine gg1_get (v := .int (u.1 4)) hx hb hts hin hown hK G 4 (by decide) (index := 72) (by decide +kernel) rfl dX1_others_108 ?_
            refine lv_iload_n hx hb dX1_others_111 rfl (lv_at hl 1 rfl) ?_
            refine lv_iadd hx hb dX1_others_112 ?_
            refine gg1_put4 (v := (u.1 4) + (u.2 7 (ix p0))) hx hb hts hin hown hK G (index := 72) (by decide +kernel) dX1_others_113 (fun H locs G => ?_)
            refine lv_aload_n hx hb dX1_others_116 rfl (lv_at hl 2 rfl) ?_
            refine gg1_get (v := .int ((u.1 4) + (u.2 7 (ix p0)))) hx hb hts hin hown hK G 4 (by decide) (index := 72) (by decide +kernel) rfl dX1_others_117 ?_
            exact gx_iret (wf := gw1_ cI cZ h q) (u1 := st_si u 4 ((u.1 4) + (u.2 7 (ix p0)))) hx hb hr hlocks hsz hK hAe G dX1_others_120 (by unfold pm_others; rw [if_neg c_20, if_neg c_36, if_neg c_52, if_neg c_79, if_pos c_103])
        · refine lv_aload_n hx hb dX1_others_82 rfl (lv_at hl 2 rfl) ?_
          refine lv_bipush (v := 100) hx hb dX1_others_83 (by decide) ?_
          refine lv_iload_n hx hb dX1_others_85 rfl (lv_at hl 1 rfl) ?_
          refine lv_bipush (v := 100) hx hb dX1_others_86 (by decide) ?_
          refine gx_calls (f := pm_modulo (u.2 7 (ix p0)) 100) (As := [.int (u.2 7 (ix p0)), .int 100]) (rest := [.int 100, .ref h]) 2 hx hb hml hown hts (km_modulo l (u.2 7 (ix p0)) 100 (by decide)) gX1_others_X1_modulo rfl rfl rfl hd_X1_modulo ⟨Nat.le_of_ble_eq_true rfl, Nat.le_of_ble_eq_true rfl⟩ rfl hl.1 rfl (Nat.le_of_ble_eq_true rfl) dX1_others_88 (Nat.zero_le _) (Nat.zero_le _) ?_
          refine lv_iadd hx hb dX1_others_91 ?_
          refine gg1_put14 (v := 100 + (pm_modulo (u.2 7 (ix p0)) 100)) hx hb hts hin hown hK G (index := 54) (by decide +kernel) dX1_others_92 (fun H locs G => ?_)
          refine lv_aload_n hx hb dX1_others_95 rfl (lv_at hl 2 rfl) ?_
          refine gg1_get (v := .ref (q 6)) hx hb hts hin hown hK G 6 (by decide) (index := 20) (by decide +kernel) rfl dX1_others_96 ?_
          refine lv_iload_n hx hb dX1_others_99 rfl (lv_at hl 3 rfl) ?_
          refine gg1_ld6 hx hb hK G (i := p0) hst dX1_others_100 ?_
          refine gx_is (y := u.2 6 (ix p0)) (congrFun (st_si_2 _ _ _ _) _) ?_
          refine lv_bipush (v := 15) hx hb dX1_others_101 (by decide) ?_
          refine lv_icmp_ne (tgt := 121) hx hb dX1_others_103 (by decide) (fun _ => ?_) (fun z => absurd z (by rw [c_79]; decide))
          refine lv_aload_n hx hb dX1_others_121 rfl (lv_at hl 2 rfl) ?_
          refine gg1_get (v := .ref (q 6)) hx hb hts hin hown hK G 6 (by decide) (index := 20) (by decide +kernel) rfl dX1_others_122 ?_
          refine lv_iload_n hx hb dX1_others_125 rfl (lv_at hl 3 rfl) ?_
          refine gg1_ld6 hx hb hK G (i := p0) hst dX1_others_126 ?_
          refine gx_is (y := u.2 6 (ix p0)) (congrFun (st_si_2 _ _ _ _) _) ?_
          refine lv_bipush (v := 8) hx hb dX1_others_127 (by decide) ?_
          refine lv_icmp_eq (tgt := 143) hx hb dX1_others_129 (by decide) (fun z => absurd z c_36) (fun _ => ?_)
          refine lv_aload_n hx hb dX1_others_132 rfl (lv_at hl 2 rfl) ?_
          refine gg1_get (v := .ref (q 6)) hx hb hts hin hown hK G 6 (by decide) (index := 20) (by decide +kernel) rfl dX1_others_133 ?_
          refine lv_iload_n hx hb dX1_others_136 rfl (lv_at hl 3 rfl) ?_
          refine gg1_ld6 hx hb hK G (i := p0) hst dX1_others_137 ?_
          refine gx_is (y := u.2 6 (ix p0)) (congrFun (st_si_2 _ _ _ _) _) ?_
          refine lv_bipush (v := 9) hx hb dX1_others_138 (by decide) ?_
          refine lv_icmp_ne (tgt := 151) hx hb dX1_others_140 (by decide) (fun _ => ?_) (fun z => absurd z (by rw [c_79]; decide))
          refine lv_iconst (v := 0) hx hb dX1_others_151 (by decide) ?_
          exact gx_iret (wf := gw1_ cI cZ h q) (u1 := st_si u 14 (100 + (pm_modulo (u.2 7 (ix p0)) 100))) hx hb hr hlocks hsz hK hAe G dX1_others_152 (by unfold pm_others; rw [if_neg c_20, if_neg c_36, if_neg c_52, if_pos c_79])
      · refine lv_iload_n hx hb dX1_others_55 rfl (lv_at hl 1 rfl) ?_
        refine lv_if_ge (tgt := 67) hx hb dX1_others_56 (by decide) (fun c_56 => ?_) (fun c_56 => ?_)
        · refine lv_aload_n hx hb dX1_others_67 rfl (lv_at hl 2 rfl) ?_
          refine gx_callv (wf := gw1_ cI cZ h q) (u := u) (f := pm_interrupted u) (As := []) (rest := []) 0 hx hb hml hown hts hK hA G rfl rfl (km_interrupted l dC dI cI cZ h q _ u  ) gX1_others_X1_interrupted rfl rfl rfl hd_X1_interrupted ⟨Nat.le_of_ble_eq_true rfl, Nat.le_of_ble_eq_true rfl⟩ rfl hl.1 rfl (Nat.le_of_ble_eq_true rfl) dX1_others_68 (Nat.zero_le _) (Nat.zero_le _) (fun H locs G => ?_)
          have e_68 : (pm_interrupted u).2 6 (ix p0) = 10 := (by rw [it_2]; exact c_52)
          refine lv_aload_n hx hb dX1_others_71 rfl (lv_at hl 2 rfl) ?_
          refine gg1_get (v := .ref (q 6)) hx hb hts hin hown hK G 6 (by decide) (index := 20) (by decide +kernel) rfl dX1_others_72 ?_
          refine lv_iload_n hx hb dX1_others_75 rfl (lv_at hl 3 rfl) ?_
          refine gg1_ld6 hx hb hK G (i := p0) hst dX1_others_76 ?_
          refine lv_bipush (v := 11) hx hb dX1_others_77 (by decide) ?_
          refine lv_icmp_ne (tgt := 95) hx hb dX1_others_79 (by decide) (fun _ => ?_) (fun z => absurd z (by rw [e_68]; decide))
          refine lv_aload_n hx hb dX1_others_95 rfl (lv_at hl 2 rfl) ?_
          refine gg1_get (v := .ref (q 6)) hx hb hts hin hown hK G 6 (by decide) (index := 20) (by decide +kernel) rfl dX1_others_96 ?_
          refine lv_iload_n hx hb dX1_others_99 rfl (lv_at hl 3 rfl) ?_
          refine gg1_ld6 hx hb hK G (i := p0) hst dX1_others_100 ?_
          refine lv_bipush (v := 15) hx hb dX1_others_101 (by decide) ?_
          refine lv_icmp_ne (tgt := 121) hx hb dX1_others_103 (by decide) (fun _ => ?_) (fun z => absurd z (by rw [e_68]; decide))
          refine lv_aload_n hx hb dX1_others_121 rfl (lv_at hl 2 rfl) ?_
          refine gg1_get (v := .ref (q 6)) hx hb hts hin hown hK G 6 (by decide) (index := 20) (by decide +kernel) rfl dX1_others_122 ?_
          refine lv_iload_n hx hb dX1_others_125 rfl (lv_at hl 3 rfl) ?_
          refine gg1_ld6 hx hb hK G (i := p0) hst dX1_others_126 ?_
          refine lv_bipush (v := 8) hx hb dX1_others_127 (by decide) ?_
          refine lv_icmp_eq (tgt := 143) hx hb dX1_others_129 (by decide) (fun z => absurd z (by rw [e_68]; decide)) (fun _ => ?_)
          refine lv_aload_n hx hb dX1_others_132 rfl (lv_at hl 2 rfl) ?_
          refine gg1_get (v := .ref (q 6)) hx hb hts hin hown hK G 6 (by decide) (index := 20) (by decide +kernel) rfl dX1_others_133 ?_
          refine lv_iload_n hx hb dX1_others_136 rfl (lv_at hl 3 rfl) ?_
          refine gg1_ld6 hx hb hK G (i := p0) hst dX1_others_137 ?_
          refine lv_bipush (v := 9) hx hb dX1_others_138 (by decide) ?_
          refine lv_icmp_ne (tgt := 151) hx hb dX1_others_140 (by decide) (fun _ => ?_) (fun z => absurd z (by rw [e_68]; decide))
          refine lv_iconst (v := 0) hx hb dX1_others_151 (by decide) ?_
          exact gx_iret (wf := gw1_ cI cZ h q) (u1 := pm_interrupted u) hx hb hr hlocks hsz hK hAe G dX1_others_152 (by unfold pm_others; rw [if_neg c_20, if_neg c_36, if_pos c_52, if_pos c_56])
        · refine lv_aload_n hx hb dX1_others_59 rfl (lv_at hl 2 rfl) ?_
          refine lv_iconst (v := 3) hx hb dX1_others_60 (by decide) ?_
          refine gg1_put14 (v := 3) hx hb hts hin hown hK G (index := 54) (by decide +kernel) dX1_others_61 (fun H locs G => ?_)
          refine lv_goto (tgt := 71) hx hb dX1_others_64 (by decide) ?_
          refine lv_aload_n hx hb dX1_others_71 rfl (lv_at hl 2 rfl) ?_
          refine gg1_get (v := .ref (q 6)) hx hb hts hin hown hK G 6 (by decide) (index := 20) (by decide +kernel) rfl dX1_others_72 ?_
          refine lv_iload_n hx hb dX1_others_75 rfl (lv_at hl 3 rfl) ?_
          refine gg1_ld6 hx hb hK G (i := p0) hst dX1_others_76 ?_
          refine gx_is (y := u.2 6 (ix p0)) (congrFun (st_si_2 _ _ _ _) _) ?_
          refine lv_bipush (v := 11) hx hb dX1_others_77 (by decide) ?_
          refine lv_icmp_ne (tgt := 95) hx hb dX1_others_79 (by decide) (fun _ => ?_) (fun z => absurd z (by rw [c_52]; decide))
          refine lv_aload_n hx hb dX1_others_95 rfl (lv_at hl 2 rfl) ?_
          refine gg1_get (v := .ref (q 6)) hx hb hts hin hown hK G 6 (by decide) (index := 20) (by decide +kernel) rfl dX1_others_96 ?_
          refine lv_iload_n hx hb dX1_others_99 rfl (lv_at hl 3 rfl) ?_
          refine gg1_ld6 hx hb hK G (i := p0) hst dX1_others_100 ?_
          refine gx_is (y := u.2 6 (ix p0)) (congrFun (st_si_2 _ _ _ _) _) ?_
          refine lv_bipush (v := 15) hx hb dX1_others_101 (by decide) ?_
          refine lv_icmp_ne (tgt := 121) hx hb dX1_others_103 (by decide) (fun _ => ?_) (fun z => absurd z (by rw [c_52]; decide))
          refine lv_aload_n hx hb dX1_others_121 rfl (lv_at hl 2 rfl) ?_
          refine gg1_get (v := .ref (q 6)) hx hb hts hin hown hK G 6 (by decide) (index := 20) (by decide +kernel) rfl dX1_others_122 ?_
          refine lv_iload_n hx hb dX1_others_125 rfl (lv_at hl 3 rfl) ?_
          refine gg1_ld6 hx hb hK G (i := p0) hst dX1_others_126 ?_
          refine gx_is (y := u.2 6 (ix p0)) (congrFun (st_si_2 _ _ _ _) _) ?_
          refine lv_bipush (v := 8) hx hb dX1_others_127 (by decide) ?_
          refine lv_icmp_eq (tgt := 143) hx hb dX1_others_129 (by decide) (fun z => absurd z c_36) (fun _ => ?_)
          refine lv_aload_n hx hb dX1_others_132 rfl (lv_at hl 2 rfl) ?_
          refine gg1_get (v := .ref (q 6)) hx hb hts hin hown hK G 6 (by decide) (index := 20) (by decide +kernel) rfl dX1_others_133 ?_
          refine lv_iload_n hx hb dX1_others_136 rfl (lv_at hl 3 rfl) ?_
          refine gg1_ld6 hx hb hK G (i := p0) hst dX1_others_137 ?_
          refine gx_is (y := u.2 6 (ix p0)) (congrFun (st_si_2 _ _ _ _) _) ?_
          refine lv_bipush (v := 9) hx hb dX1_others_138 (by decide) ?_
          refine lv_icmp_ne (tgt := 151) hx hb dX1_others_140 (by decide) (fun _ => ?_) (fun z => absurd z (by rw [c_52]; decide))
          refine lv_iconst (v := 0) hx hb dX1_others_151 (by decide) ?_
          exact gx_iret (wf := gw1_ cI cZ h q) (u1 := st_si u 14 3) hx hb hr hlocks hsz hK hAe G dX1_others_152 (by unfold pm_others; rw [if_neg c_20, if_neg c_36, if_pos c_52, if_neg c_56])
    · refine lv_aload_n hx hb dX1_others_39 rfl (lv_at hl 2 rfl) ?_
      refine lv_iconst (v := 0) hx hb dX1_others_40 (by decide) ?_
      refine gg1_put5 (v := 0) hx hb hts hin hown hK G (index := 61) (by decide +kernel) rfl rfl dX1_others_41 (fun H locs G => ?_)
      refine lv_aload_n hx hb dX1_others_44 rfl (lv_at hl 2 rfl) ?_
      refine gg1_get (v := .ref (q 6)) hx hb hts hin hown hK G 6 (by decide) (index := 20) (by decide +kernel) rfl dX1_others_45 ?_
      refine lv_iload_n hx hb dX1_others_48 rfl (lv_at hl 3 rfl) ?_
      refine gg1_ld6 hx hb hK G (i := p0) hst dX1_others_49 ?_
      refine gx_is (y := u.2 6 (ix p0)) (congrFun (st_si_2 _ _ _ _) _) ?_
      refine lv_bipush (v := 10) hx hb dX1_others_50 (by decide) ?_
      refine lv_icmp_ne (tgt := 71) hx hb dX1_others_52 (by decide) (fun _ => ?_) (fun z => absurd z (by rw [c_36]; decide))
      refine lv_aload_n hx hb dX1_others_71 rfl (lv_at hl 2 rfl) ?_
      refine gg1_get (v := .ref (q 6)) hx hb hts hin hown hK G 6 (by decide) (index := 20) (by decide +kernel) rfl dX1_others_72 ?_
      refine lv_iload_n hx hb dX1_others_75 rfl (lv_at hl 3 rfl) ?_
      refine gg1_ld6 hx hb hK G (i := p0) hst dX1_others_76 ?_
      refine gx_is (y := u.2 6 (ix p0)) (congrFun (st_si_2 _ _ _ _) _) ?_
      refine lv_bipush (v := 11) hx hb dX1_others_77 (by decide) ?_
      refine lv_icmp_ne (tgt := 95) hx hb dX1_others_79 (by decide) (fun _ => ?_) (fun z => absurd z (by rw [c_36]; decide))
      refine lv_aload_n hx hb dX1_others_95 rfl (lv_at hl 2 rfl) ?_
      refine gg1_get (v := .ref (q 6)) hx hb hts hin hown hK G 6 (by decide) (index := 20) (by decide +kernel) rfl dX1_others_96 ?_
      refine lv_iload_n hx hb dX1_others_99 rfl (lv_at hl 3 rfl) ?_
      refine gg1_ld6 hx hb hK G (i := p0) hst dX1_others_100 ?_
      refine gx_is (y := u.2 6 (ix p0)) (congrFun (st_si_2 _ _ _ _) _) ?_
      refine lv_bipush (v := 15) hx hb dX1_others_101 (by decide) ?_
      refine lv_icmp_ne (tgt := 121) hx hb dX1_others_103 (by decide) (fun _ => ?_) (fun z => absurd z (by rw [c_36]; decide))
      refine lv_aload_n hx hb dX1_others_121 rfl (lv_at hl 2 rfl) ?_
      refine gg1_get (v := .ref (q 6)) hx hb hts hin hown hK G 6 (by decide) (index := 20) (by decide +kernel) rfl dX1_others_122 ?_
      refine lv_iload_n hx hb dX1_others_125 rfl (lv_at hl 3 rfl) ?_
      refine gg1_ld6 hx hb hK G (i := p0) hst dX1_others_126 ?_
      refine gx_is (y := u.2 6 (ix p0)) (congrFun (st_si_2 _ _ _ _) _) ?_
      refine lv_bipush (v := 8) hx hb dX1_others_127 (by decide) ?_
      refine lv_icmp_eq (tgt := 143) hx hb dX1_others_129 (by decide) (fun _ => ?_) (fun z => absurd c_36 z)
      refine lv_iload_n hx hb dX1_others_143 rfl (lv_at hl 0 rfl) ?_
      refine lv_if_eq (tgt := 151) hx hb dX1_others_144 (by decide) (fun c_144 => ?_) (fun c_144 => ?_)
      · refine lv_iconst (v := 0) hx hb dX1_others_151 (by decide) ?_
        exact gx_iret (wf := gw1_ cI cZ h q) (u1 := st_si u 5 0) hx hb hr hlocks hsz hK hAe G dX1_others_152 (by unfold pm_others; rw [if_neg c_20, if_pos c_36, if_pos c_144])
      · refine lv_iconst (v := 1) hx hb dX1_others_147 (by decide) ?_
        refine lv_goto (tgt := 152) hx hb dX1_others_148 (by decide) ?_
        exact gx_iret (wf := gw1_ cI cZ h q) (u1 := st_si u 5 0) hx hb hr hlocks hsz hK hAe G dX1_others_152 (by unfold pm_others; rw [if_neg c_20, if_pos c_36, if_neg c_144])
  · refine lv_aload_n hx hb dX1_others_23 rfl (lv_at hl 2 rfl) ?_
    refine lv_iconst (v := 1) hx hb dX1_others_24 (by decide) ?_
    refine gg1_put5 (v := 1) hx hb hts hin hown hK G (index := 61) (by decide +kernel) rfl rfl dX1_others_25 (fun H locs G => ?_)
    refine lv_aload_n hx hb dX1_others_28 rfl (lv_at hl 2 rfl) ?_
    refine gg1_get (v := .ref (q 6)) hx hb hts hin hown hK G 6 (by decide) (index := 20) (by decide +kernel) rfl dX1_others_29 ?_
    refine lv_iload_n hx hb dX1_others_32 rfl (lv_at hl 3 rfl) ?_
    refine gg1_ld6 hx hb hK G (i := p0) hst dX1_others_33 ?_
    refine gx_is (y := u.2 6 (ix p0)) (congrFun (st_si_2 _ _ _ _) _) ?_
    refine lv_bipush (v := 8) hx hb dX1_others_34 (by decide) ?_
    refine lv_icmp_ne (tgt := 44) hx hb dX1_others_36 (by decide) (fun _ => ?_) (fun z => absurd z (by rw [c_20]; decide))
    refine lv_aload_n hx hb dX1_others_44 rfl (lv_at hl 2 rfl) ?_
    refine gg1_get (v := .ref (q 6)) hx hb hts hin hown hK G 6 (by decide) (index := 20) (by decide +kernel) rfl dX1_others_45 ?_
    refine lv_iload_n hx hb dX1_others_48 rfl (lv_at hl 3 rfl) ?_
    refine gg1_ld6 hx hb hK G (i := p0) hst dX1_others_49 ?_
    refine gx_is (y := u.2 6 (ix p0)) (congrFun (st_si_2 _ _ _ _) _) ?_
    refine lv_bipush (v := 10) hx hb dX1_others_50 (by decide) ?_
    refine lv_icmp_ne (tgt := 71) hx hb dX1_others_52 (by decide) (fun _ => ?_) (fun z => absurd z (by rw [c_20]; decide))
    refine lv_aload_n hx hb dX1_others_71 rfl (lv_at hl 2 rfl) ?_
    refine gg1_get (v := .ref (q 6)) hx hb hts hin hown hK G 6 (by decide) (index := 20) (by decide +kernel) rfl dX1_others_72 ?_
    refine lv_iload_n hx hb dX1_others_75 rfl (lv_at hl 3 rfl) ?_
    refine gg1_ld6 hx hb hK G (i := p0) hst dX1_others_76 ?_
    refine gx_is (y := u.2 6 (ix p0)) (congrFun (st_si_2 _ _ _ _) _) ?_
    refine lv_bipush (v := 11) hx hb dX1_others_77 (by decide) ?_
    refine lv_icmp_ne (tgt := 95) hx hb dX1_others_79 (by decide) (fun _ => ?_) (fun z => absurd z (by rw [c_20]; decide))
    refine lv_aload_n hx hb dX1_others_95 rfl (lv_at hl 2 rfl) ?_
    refine gg1_get (v := .ref (q 6)) hx hb hts hin hown hK G 6 (by decide) (index := 20) (by decide +kernel) rfl dX1_others_96 ?_
    refine lv_iload_n hx hb dX1_others_99 rfl (lv_at hl 3 rfl) ?_
    refine gg1_ld6 hx hb hK G (i := p0) hst dX1_others_100 ?_
    refine gx_is (y := u.2 6 (ix p0)) (congrFun (st_si_2 _ _ _ _) _) ?_
    refine lv_bipush (v := 15) hx hb dX1_others_101 (by decide) ?_
    refine lv_icmp_ne (tgt := 121) hx hb dX1_others_103 (by decide) (fun _ => ?_) (fun z => absurd z (by rw [c_20]; decide))
    refine lv_aload_n hx hb dX1_others_121 rfl (lv_at hl 2 rfl) ?_
    refine gg1_get (v := .ref (q 6)) hx hb hts hin hown hK G 6 (by decide) (index := 20) (by decide +kernel) rfl dX1_others_122 ?_
    refine lv_iload_n hx hb dX1_others_125 rfl (lv_at hl 3 rfl) ?_
    refine gg1_ld6 hx hb hK G (i := p0) hst dX1_others_126 ?_
    refine gx_is (y := u.2 6 (ix p0)) (congrFun (st_si_2 _ _ _ _) _) ?_
    refine lv_bipush (v := 8) hx hb dX1_others_127 (by decide) ?_
    refine lv_icmp_eq (tgt := 143) hx hb dX1_others_129 (by decide) (fun z => absurd z (by rw [c_20]; decide)) (fun _ => ?_)
    refine lv_aload_n hx hb dX1_others_132 rfl (lv_at hl 2 rfl) ?_
    refine gg1_get (v := .ref (q 6)) hx hb hts hin hown hK G 6 (by decide) (index := 20) (by decide +kernel) rfl dX1_others_133 ?_
    refine lv_iload_n hx hb dX1_others_136 rfl (lv_at hl 3 rfl) ?_
    refine gg1_ld6 hx hb hK G (i := p0) hst dX1_others_137 ?_
    refine gx_is (y := u.2 6 (ix p0)) (congrFun (st_si_2 _ _ _ _) _) ?_
    refine lv_bipush (v := 9) hx hb dX1_others_138 (by decide) ?_
    refine lv_icmp_ne (tgt := 151) hx hb dX1_others_140 (by decide) (fun _ => ?_) (fun z => absurd z (by rw [c_20]; decide))
    refine lv_iconst (v := 0) hx hb dX1_others_151 (by decide) ?_
    exact gx_iret (wf := gw1_ cI cZ h q) (u1 := st_si u 5 1) hx hb hr hlocks hsz hK hAe G dX1_others_152 (by unfold pm_others; rw [if_pos c_20])
theorem hd_X1_others : yX1_others.cls = RX1 ∧ yX1_others.cls ≠ "java/lang/invoke/MethodHandle" ∧ yX1_others.cls ≠ "java/lang/invoke/VarHandle" ∧ (parseMethodDescriptor yX1_others.desc).map (fun d => d.parameters.length) = some 1 := by decide +kernel
def pm_work (u : st_T) (p0 : Int32) : Int32 × st_T :=
  if u.2 6 (ix p0) = 0 then
    ((pm_close u).1, (pm_close u).2)
  else
    if u.2 6 (ix p0) = 1 then
      ((pm_enter u p0).1, (pm_enter u p0).2)
    else
      if u.2 6 (ix p0) = 2 then
        (0, st_si (st_sa u 12 (ix (u.1 13)) p0) 13 ((u.1 13) + 1))
      else
        if u.2 6 (ix p0) = 3 then
          (0, (pm_monitor u p0 0).2)
        else
          if u.2 6 (ix p0) = 4 then
            (0, (pm_monitor u p0 0).2)
          else
            if u.2 6 (ix p0) = 5 then
              if ((pm_monitor u p0 1).2).2 1 (ix ((pm_monitor u p0 1).1)) ≤ 0 then
                (0, (pm_monitor u p0 1).2)
              else
                (1, (pm_monitor u p0 1).2)
            else
              if u.2 6 (ix p0) = 6 then
                ((pm_pause u p0).1, (pm_pause u p0).2)
              else
                if u.2 6 (ix p0) < 12 then
                  ((pm_others u p0).1, (pm_others u p0).2)
                else
                  if 14 < u.2 6 (ix p0) then
                    ((pm_others u p0).1, (pm_others u p0).2)
                  else
                    ((pm_thread u p0).1, (pm_thread u p0).2)
set_option maxHeartbeats 4000000 in
set_option maxRecDepth 100000 in
theorem km_work (l : Launch) (dC : Nat → ClassId) (dI : Nat → Nat → Nat) (cI cZ : ClassId) (h : Nat) (q : Nat → Nat) (sz : Nat) (u : st_T) (p0 : Int32) (hst : vp_in p0 24) (hlk : ∀ j : Nat, j < 5 → vp_in (u.2 0 j) 520) (hbk : ∀ j : Nat, j < 8 → vp_in (u.2 12 j) 24) (hcl : u.2 6 (ix p0) = 0 → vp_in (u.1 13 - 1) 8) (hop : u.2 6 (ix p0) = 1 ∨ u.2 6 (ix p0) = 2 → vp_in (u.1 13) 8) : gx_Mi l yX1_work wsX1_work { frames := 4, cells := 0, slots := 0, locals := 87 } [.ref h, .int p0] (dC, dI) cI cZ (gw1_ cI cZ h q) u sz (pm_work u p0) := by
  refine gx_met (cc := cX1_work) (maxL := 4) (ret := (some .int)) (by decide +kernel) rfl (Nat.le_of_ble_eq_true rfl) (fun p e s m args below meth c A ls hsz hx hb hr hlocks hts hown hml hK hAe hA G hl => ?_)
  have hown : s.vm.findClass RX1 = some m.cls := hown
  have hin : ∀ w ∈ wsX10, w ∈ wsX1_work := gx_in
  have hl : lv_has ls 4 [(0, .ref h), (1, .int p0)] := hl
  refine lv_aload_n hx hb dX1_work_0 rfl (lv_at hl 0 rfl) ?_
  refine gg1_get (v := .ref (q 6)) hx hb hts hin hown hK G 6 (by decide) (index := 20) (by decide +kernel) rfl dX1_work_1 ?_
  refine lv_iload_n hx hb dX1_work_4 rfl (lv_at hl 1 rfl) ?_
  refine gg1_ld6 hx hb hK G (i := p0) hst dX1_work_5 ?_
  refine lv_istore_n (lv' := [(2, .int (u.2 6 (ix p0))), (0, .ref h), (1, .int p0)]) hx hb dX1_work_6 rfl hl (by decide) rfl (fun ls hl => ?_)
  refine lv_iload_n hx hb dX1_work_7 rfl (lv_at hl 0 rfl) ?_
  refine lv_if_ne (tgt := 16) hx hb dX1_work_8 (by decide) (fun c_8 => ?_) (fun c_8 => ?_)
  · refine lv_iload_n hx hb dX1_work_16 rfl (lv_at hl 0 rfl) ?_
    refine lv_iconst (v := 1) hx hb dX1_work_17 (by decide) ?_
    refine lv_icmp_ne (tgt := 27) hx hb dX1_work_18 (by decide) (fun c_18 => ?_) (fun c_18 => ?_)
    · refine lv_iload_n hx hb dX1_work_27 rfl (lv_at hl 0 rfl) ?_
      refine lv_iconst (v := 2) hx hb dX1_work_28 (by decide) ?_
      refine lv_icmp_ne (tgt := 54) hx hb dX1_work_29 (by decide) (fun c_29 => ?_) (fun c_29 => ?_)
      · refine lv_iload_n hx hb dX1_work_54 rfl (lv_at hl 0 rfl) ?_
        refine lv_iconst (v := 3) hx hb dX1_work_55 (by decide) ?_
        refine lv_icmp_eq (tgt := 64) hx hb dX1_work_56 (by decide) (fun c_56 => ?_) (fun c_56 => ?_)
        · refine lv_aload_n hx hb dX1_work_64 rfl (lv_at hl 1 rfl) ?_
          refine lv_iload_n hx hb dX1_work_65 rfl (lv_at hl 2 rfl) ?_
          refine lv_iconst (v := 0) hx hb dX1_work_66 (by decide) ?_
          refine gx_calli (wf := gw1_ cI cZ h q) (u := u) (f := pm_monitor u p0 0) (As := [.int p0, .int 0]) (rest := []) 2 hx hb hml hown hts hK hA G rfl rfl (km_monitor l dC dI cI cZ h q _ u p0 0 hst hlk) gX1_work_X1_monitor rfl rfl rfl hd_X1_monitor ⟨Nat.le_of_ble_eq_true rfl, Nat.le_of_ble_eq_true rfl⟩ rfl hl.1 rfl (Nat.le_of_ble_eq_true rfl) dX1_work_67 (Nat.zero_le _) (Nat.zero_le _) (fun H locs G => ?_)
          refine lv_istore_n (lv' := [(3, .int ((pm_monitor u p0 0).1)), (2, .int (u.2 6 (ix p0))), (0, .ref h), (1, .int p0)]) hx hb dX1_work_70 rfl hl (by decide) rfl (fun ls hl => ?_)
          refine lv_iconst (v := 0) hx hb dX1_work_71 (by decide) ?_
          exact gx_iret (wf := gw1_ cI cZ h q) (u1 := (pm_monitor u p0 0).2) hx hb hr hlocks hsz hK hAe G dX1_work_72 (by unfold pm_work; rw [if_neg c_8, if_neg c_18, if_neg c_29, if_pos c_56])
        · refine lv_iload_n hx hb dX1_work_59 rfl (lv_at hl 0 rfl) ?_
          refine lv_iconst (v := 4) hx hb dX1_work_60 (by decide) ?_
          refine lv_icmp_ne (tgt := 73) hx hb dX1_work_61 (by decide) (fun c_61 => ?_) (fun c_61 => ?_)
          · refine lv_iload_n hx hb dX1_work_73 rfl (lv_at hl 0 rfl) ?_
            refine lv_iconst (v := 5) hx hb dX1_work_74 (by decide) ?_
            refine lv_icmp_ne (tgt := 100) hx hb dX1_work_75 (by decide) (fun c_75 => ?_) (fun c_75 => ?_)
            · refine lv_iload_n hx hb dX1_work_100 rfl (lv_at hl 0 rfl) ?_
              refine lv_bipush (v := 6) hx hb dX1_work_101 (by decide) ?_
              refine lv_icmp_ne (tgt := 112) hx hb dX1_work_103 (by decide) (fun c_103 => ?_) (fun c_103 => ?_)
              · refine lv_iload_n hx hb dX1_work_112 rfl (lv_at hl 0 rfl) ?_
                refine lv_bipush (v := 12) hx hb dX1_work_113 (by decide) ?_
                refine lv_icmp_lt (tgt := 132) hx hb dX1_work_115 (by decide) (fun c_115 => ?_) (fun c_115 => ?_)
                · refine lv_aload_n hx hb dX1_work_132 rfl (lv_at hl 1 rfl) ?_
                  refine lv_iload_n hx hb dX1_work_133 rfl (lv_at hl 2 rfl) ?_
                  refine gx_calli (wf := gw1_ cI cZ h q) (u := u) (f := pm_others u p0) (As := [.int p0]) (rest := []) 1 hx hb hml hown hts hK hA G rfl rfl (km_others l dC dI cI cZ h q _ u p0 hst) gX1_work_X1_others rfl rfl rfl hd_X1_others ⟨Nat.le_of_ble_eq_true rfl, Nat.le_of_ble_eq_true rfl⟩ rfl hl.1 rfl (Nat.le_of_ble_eq_true rfl) dX1_work_134 (Nat.zero_le _) (Nat.zero_le _) (fun H locs G => ?_)
                  exact gx_iret (wf := gw1_ cI cZ h q) (u1 := (pm_others u p0).2) hx hb hr hlocks hsz hK hAe G dX1_work_137 (by unfold pm_work; rw [if_neg c_8, if_neg c_18, if_neg c_29, if_neg c_56, if_neg c_61, if_neg c_75, if_neg c_103, if_pos c_115])
                · refine lv_iload_n hx hb dX1_work_118 rfl (lv_at hl 0 rfl) ?_
                  refine lv_bipush (v := 14) hx hb dX1_work_119 (by decide) ?_
                  refine lv_icmp_gt (tgt := 132) hx hb dX1_work_121 (by decide) (fun c_121 => ?_) (fun c_121 => ?_)
                  · refine lv_aload_n hx hb dX1_work_132 rfl (lv_at hl 1 rfl) ?_
                    refine lv_iload_n hx hb dX1_work_133 rfl (lv_at hl 2 rfl) ?_
                    refine gx_calli (wf := gw1_ cI cZ h q) (u := u) (f := pm_others u p0) (As := [.int p0]) (rest := []) 1 hx hb hml hown hts hK hA G rfl rfl (km_others l dC dI cI cZ h q _ u p0 hst) gX1_work_X1_others rfl rfl rfl hd_X1_others ⟨Nat.le_of_ble_eq_true rfl, Nat.le_of_ble_eq_true rfl⟩ rfl hl.1 rfl (Nat.le_of_ble_eq_true rfl) dX1_work_134 (Nat.zero_le _) (Nat.zero_le _) (fun H locs G => ?_)
                    exact gx_iret (wf := gw1_ cI cZ h q) (u1 := (pm_others u p0).2) hx hb hr hlocks hsz hK hAe G dX1_work_137 (by unfold pm_work; rw [if_neg c_8, if_neg c_18, if_neg c_29, if_neg c_56, if_neg c_61, if_neg c_75, if_neg c_103, if_neg c_115, if_pos c_121])
                  · refine lv_aload_n hx hb dX1_work_124 rfl (lv_at hl 1 rfl) ?_
                    refine lv_iload_n hx hb dX1_work_125 rfl (lv_at hl 2 rfl) ?_
                    refine gx_calli (wf := gw1_ cI cZ h q) (u := u) (f := pm_thread u p0) (As := [.int p0]) (rest := []) 1 hx hb hml hown hts hK hA G rfl rfl (km_thread l dC dI cI cZ h q _ u p0 hst) gX1_work_X1_thread rfl rfl rfl hd_X1_thread ⟨Nat.le_of_ble_eq_true rfl, Nat.le_of_ble_eq_true rfl⟩ rfl hl.1 rfl (Nat.le_of_ble_eq_true rfl) dX1_work_126 (Nat.zero_le _) (Nat.zero_le _) (fun H locs G => ?_)
                    refine lv_goto (tgt := 137) hx hb dX1_work_129 (by decide) ?_
                    exact gx_iret (wf := gw1_ cI cZ h q) (u1 := (pm_thread u p0).2) hx hb hr hlocks hsz hK hAe G dX1_work_137 (by unfold pm_work; rw [if_neg c_8, if_neg c_18, if_neg c_29, if_neg c_56, if_neg c_61, if_neg c_75, if_neg c_103, if_neg c_115, if_neg c_121])
              · refine lv_aload_n hx hb dX1_work_106 rfl (lv_at hl 1 rfl) ?_
                refine lv_iload_n hx hb dX1_work_107 rfl (lv_at hl 2 rfl) ?_
                refine gx_calli (wf := gw1_ cI cZ h q) (u := u) (f := pm_pause u p0) (As := [.int p0]) (rest := []) 1 hx hb hml hown hts hK hA G rfl rfl (km_pause l dC dI cI cZ h q _ u p0 hst hlk) gX1_work_X1_pause rfl rfl rfl hd_X1_pause ⟨Nat.le_of_ble_eq_true rfl, Nat.le_of_ble_eq_true rfl⟩ rfl hl.1 rfl (Nat.le_of_ble_eq_true rfl) dX1_work_108 (Nat.zero_le _) (Nat.zero_le _) (fun H locs G => ?_)
                exact gx_iret (wf := gw1_ cI cZ h q) (u1 := (pm_pause u p0).2) hx hb hr hlocks hsz hK hAe G dX1_work_111 (by unfold pm_work; rw [if_neg c_8, if_neg c_18, if_neg c_29, if_neg c_56, if_neg c_61, if_neg c_75, if_pos c_103])
            · refine lv_aload_n hx hb dX1_work_78 rfl (lv_at hl 1 rfl) ?_
              refine lv_iload_n hx hb dX1_work_79 rfl (lv_at hl 2 rfl) ?_
              refine lv_iconst (v := 1) hx hb dX1_work_80 (by decide) ?_
              refine gx_calli (wf := gw1_ cI cZ h q) (u := u) (f := pm_monitor u p0 1) (As := [.int p0, .int 1]) (rest := []) 2 hx hb hml hown hts hK hA G rfl rfl (km_monitor l dC dI cI cZ h q _ u p0 1 hst hlk) gX1_work_X1_monitor rfl rfl rfl hd_X1_monitor ⟨Nat.le_of_ble_eq_true rfl, Nat.le_of_ble_eq_true rfl⟩ rfl hl.1 rfl (Nat.le_of_ble_eq_true rfl) dX1_work_81 (Nat.zero_le _) (Nat.zero_le _) (fun H locs G => ?_)
              refine lv_istore_n (lv' := [(3, .int ((pm_monitor u p0 1).1)), (2, .int (u.2 6 (ix p0))), (0, .ref h), (1, .int p0)]) hx hb dX1_work_84 rfl hl (by decide) rfl (fun ls hl => ?_)
              refine lv_aload_n hx hb dX1_work_85 rfl (lv_at hl 2 rfl) ?_
              refine gg1_get (v := .ref (q 1)) hx hb hts hin hown hK G 1 (by decide) (index := 13) (by decide +kernel) rfl dX1_work_86 ?_
              refine lv_iload_n hx hb dX1_work_89 rfl (lv_at hl 0 rfl) ?_
              refine gg1_ld1 hx hb hK G (i := (pm_monitor u p0 1).1) (mn_in hlk) dX1_work_90 ?_
              refine lv_if_le (tgt := 98) hx hb dX1_work_91 (by decide) (fun c_91 => ?_) (fun c_91 => ?_)
              · refine lv_iconst (v := 0) hx hb dX1_work_98 (by decide) ?_
                exact gx_iret (wf := gw1_ cI cZ h q) (u1 := (pm_monitor u p0 1).2) hx hb hr hlocks hsz hK hAe G dX1_work_99 (by unfold pm_work; rw [if_neg c_8, if_neg c_18, if_neg c_29, if_neg c_56, if_neg c_61, if_pos c_75, if_pos c_91])
              · refine lv_iconst (v := 1) hx hb dX1_work_94 (by decide) ?_
                refine lv_goto (tgt := 99) hx hb dX1_work_95 (by decide) ?_
                exact gx_iret (wf := gw1_ cI cZ h q) (u1 := (pm_monitor u p0 1).2) hx hb hr hlocks hsz hK hAe G dX1_work_99 (by unfold pm_work; rw [if_neg c_8, if_neg c_18, if_neg c_29, if_neg c_56, if_neg c_61, if_pos c_75, if_neg c_91])
          · refine lv_aload_n hx hb dX1_work_64 rfl (lv_at hl 1 rfl) ?_
            refine lv_iload_n hx hb dX1_work_65 rfl (lv_at hl 2 rfl) ?_
            refine lv_iconst (v := 0) hx hb dX1_work_66 (by decide) ?_
            refine gx_calli (wf := gw1_ cI cZ h q) (u := u) (f := pm_monitor u p0 0) (As := [.int p0, .int 0]) (rest := []) 2 hx hb hml hown hts hK hA G rfl rfl (km_monitor l dC dI cI cZ h q _ u p0 0 hst hlk) gX1_work_X1_monitor rfl rfl rfl hd_X1_monitor ⟨Nat.le_of_ble_eq_true rfl, Nat.le_of_ble_eq_true rfl⟩ rfl hl.1 rfl (Nat.le_of_ble_eq_true rfl) dX1_work_67 (Nat.zero_le _) (Nat.zero_le _) (fun H locs G => ?_)
            refine lv_istore_n (lv' := [(3, .int ((pm_monitor u p0 0).1)), (2, .int (u.2 6 (ix p0))), (0, .ref h), (1, .int p0)]) hx hb dX1_work_70 rfl hl (by decide) rfl (fun ls hl => ?_)
            refine lv_iconst (v := 0) hx hb dX1_work_71 (by decide) ?_
            exact gx_iret (wf := gw1_ cI cZ h q) (u1 := (pm_monitor u p0 0).2) hx hb hr hlocks hsz hK hAe G dX1_work_72 (by unfold pm_work; rw [if_neg c_8, if_neg c_18, if_neg c_29, if_neg c_56, if_pos c_61])
      · refine lv_aload_n hx hb dX1_work_32 rfl (lv_at hl 1 rfl) ?_
        refine gg1_get (v := .ref (q 12)) hx hb hts hin hown hK G 12 (by decide) (index := 29) (by decide +kernel) rfl dX1_work_33 ?_
        refine lv_aload_n hx hb dX1_work_36 rfl (lv_at hl 1 rfl) ?_
        refine gg1_get (v := .int (u.1 13)) hx hb hts hin hown hK G 13 (by decide) (index := 65) (by decide +kernel) rfl dX1_work_37 ?_
        refine lv_iload_n hx hb dX1_work_40 rfl (lv_at hl 2 rfl) ?_
        refine gg1_st12 hx hb hK G (i := u.1 13) (x := p0) (hop (Or.inr c_29)) dX1_work_41 (fun H locs G => ?_)
        refine lv_aload_n hx hb dX1_work_42 rfl (lv_at hl 1 rfl) ?_
        refine lv_dup hx hb dX1_work_43 rfl ?_
        refine gg1_get (v := .int (u.1 13)) hx hb hts hin hown hK G 13 (by decide) (index := 65) (by decide +kernel) rfl dX1_work_44 ?_
        refine lv_iconst (v := 1) hx hb dX1_work_47 (by decide) ?_
        refine lv_iadd hx hb dX1_work_48 ?_
        refine gg1_put13 (v := (u.1 13) + 1) hx hb hts hin hown hK G (index := 65) (by decide +kernel) dX1_work_49 (fun H locs G => ?_)
        refine lv_iconst (v := 0) hx hb dX1_work_52 (by decide) ?_
        exact gx_iret (wf := gw1_ cI cZ h q) (u1 := st_si (st_sa u 12 (ix (u.1 13)) p0) 13 ((u.1 13) + 1)) hx hb hr hlocks hsz hK hAe G dX1_work_53 (by unfold pm_work; rw [if_neg c_8, if_neg c_18, if_pos c_29])
    · refine lv_aload_n hx hb dX1_work_21 rfl (lv_at hl 1 rfl) ?_
      refine lv_iload_n hx hb dX1_work_22 rfl (lv_at hl 2 rfl) ?_
      refine gx_calli (wf := gw1_ cI cZ h q) (u := u) (f := pm_enter u p0) (As := [.int p0]) (rest := []) 1 hx hb hml hown hts hK hA G rfl rfl (km_enter l dC dI cI cZ h q _ u p0 hst hlk (hop (Or.inl c_18))) gX1_work_X1_enter rfl rfl rfl hd_X1_enter ⟨Nat.le_of_ble_eq_true rfl, Nat.le_of_ble_eq_true rfl⟩ rfl hl.1 rfl (Nat.le_of_ble_eq_true rfl) dX1_work_23 (Nat.zero_le _) (Nat.zero_le _) (fun H locs G => ?_)
      exact gx_iret (wf := gw1_ cI cZ h q) (u1 := (pm_enter u p0).2) hx hb hr hlocks hsz hK hAe G dX1_work_26 (by unfold pm_work; rw [if_neg c_8, if_pos c_18])
  · refine lv_aload_n hx hb dX1_work_11 rfl (lv_at hl 1 rfl) ?_
    refine gx_calli (wf := gw1_ cI cZ h q) (u := u) (f := pm_close u) (As := []) (rest := []) 0 hx hb hml hown hts hK hA G rfl rfl (km_close l dC dI cI cZ h q _ u  (hcl c_8) hbk hlk) gX1_work_X1_close rfl rfl rfl hd_X1_close ⟨Nat.le_of_ble_eq_true rfl, Nat.le_of_ble_eq_true rfl⟩ rfl hl.1 rfl (Nat.le_of_ble_eq_true rfl) dX1_work_12 (Nat.zero_le _) (Nat.zero_le _) (fun H locs G => ?_)
    exact gx_iret (wf := gw1_ cI cZ h q) (u1 := (pm_close u).2) hx hb hr hlocks hsz hK hAe G dX1_work_15 (by unfold pm_work; rw [if_pos c_8])
theorem hd_X1_work : yX1_work.cls = RX1 ∧ yX1_work.cls ≠ "java/lang/invoke/MethodHandle" ∧ yX1_work.cls ≠ "java/lang/invoke/VarHandle" ∧ (parseMethodDescriptor yX1_work.desc).map (fun d => d.parameters.length) = some 1 := by decide +kernel
def pm_bh (u : st_T) : Nat → Int32 → Int32 → Int32
  | 0, _, _ => u.1 8
  | n + 1, d, i => if u.1 8 ≤ i then u.1 8 else if u.2 6 (ix i) = 1 then pm_bh u n (d + 1) (i + 1) else if u.2 6 (ix i) = 2 then pm_bh u n (d + 1) (i + 1) else if u.2 6 (ix i) = 0 then (if d + (-1) = 0 then i + 1 else pm_bh u n (d + (-1)) (i + 1)) else pm_bh u n d (i + 1)
theorem pm_bh_s (u : st_T) (n : Nat) (d i : Int32) : pm_bh u (n + 1) d i = if u.1 8 ≤ i then u.1 8 else if u.2 6 (ix i) = 1 then pm_bh u n (d + 1) (i + 1) else if u.2 6 (ix i) = 2 then pm_bh u n (d + 1) (i + 1) else if u.2 6 (ix i) = 0 then (if d + (-1) = 0 then i + 1 else pm_bh u n (d + (-1)) (i + 1)) else pm_bh u n d (i + 1) := rfl
def pm_behind (u : st_T) (p0 : Int32) : Int32 := pm_bh u 25 0 p0
set_option maxHeartbeats 4000000 in
set_option maxRecDepth 100000 in
theorem km_behind (l : Launch) (dC : Nat → ClassId) (dI : Nat → Nat → Nat) (cI cZ : ClassId) (h : Nat) (q : Nat → Nat) (sz : Nat) (u : st_T) (p0 : Int32) (hst : vp_in p0 24) (hst8 : (u.1 8).toInt ≤ 24) : gx_Mi l yX1_behind wsX1_behind { frames := 0, cells := 0, slots := 0, locals := 0 } [.ref h, .int p0] (dC, dI) cI cZ (gw1_ cI cZ h q) u sz (pm_behind u p0, u) := by
  refine gx_met (cc := cX1_behind) (maxL := 4) (ret := (some .int)) (by decide +kernel) rfl (Nat.le_of_ble_eq_true rfl) (fun p e s m args below meth c A ls hsz hx hb hr hlocks hts hown hml hK hAe hA G hl => ?_)
  have hown : s.vm.findClass RX1 = some m.cls := hown
  have hin : ∀ w ∈ wsX10, w ∈ wsX1_behind := gx_in
  have hl : lv_has ls 4 [(0, .ref h), (1, .int p0)] := hl
  have hp2 := vp_in_iff.mp hst
  have loop : ∀ (n : Nat) (d i : Int32), 0 ≤ i.toInt → i.toInt ≤ 24 → 24 - i.toInt < n → pm_behind u p0 = pm_bh u n d i → ∀ (H : Heap) (locs : List Loc) (ls : Array Slot), gx_ (dC, dI) A s.heap H locs (gw1_ cI cZ h q u) → lv_has ls 4 [(3, .int i), (2, .int d), (0, .ref h), (1, .int p0)] → W p l e { frames := 0, cells := 0, slots := 0, locals := 0 } s m args below meth c H locs 0 0 (MQ below (va_Qi (fun r u1 => r = (pm_behind u p0, u).1 ∧ u1 = (pm_behind u p0, u).2) (gx_O (dC, dI) cI cZ (gw1_ cI cZ h q) (gw1_ cI cZ h q u) sz) (va_A (gw1_ cI cZ h q u) sz)) args s 0 0 (va_A (gw1_ cI cZ h q u) sz)) (F0 m 4 ls []) := by
    intro n
    induction n with
    | zero => intro d i h1 h2 h3; exact absurd h3 (by omega)
    | succ n ih =>
      intro d i hi0 hi24 hin2 hf H locs ls G hl
      rw [pm_bh_s u n d i] at hf
      refine lv_iload_n hx hb dX1_behind_4 rfl (lv_at hl 0 rfl) ?_
      refine lv_aload_n hx hb dX1_behind_5 rfl (lv_at hl 2 rfl) ?_
      refine gg1_get (v := .int (u.1 8)) hx hb hts hin hown hK G 8 (by decide) (index := 40) (by decide +kernel) rfl dX1_behind_6 ?_
      refine lv_icmp_ge (tgt := 61) hx hb dX1_behind_9 (by decide) (fun c_9 => ?_) (fun c_9 => ?_)
      · refine lv_aload_n hx hb dX1_behind_61 rfl (lv_at hl 2 rfl) ?_
        refine gg1_get (v := .int (u.1 8)) hx hb hts hin hown hK G 8 (by decide) (index := 40) (by decide +kernel) rfl dX1_behind_62 ?_
        exact gx_iret (wf := gw1_ cI cZ h q) (u1 := u) hx hb hr hlocks hsz hK hAe G dX1_behind_65 (congrArg (fun z => (z, u)) (by rw [hf, if_pos c_9]))
      · refine lv_aload_n hx hb dX1_behind_12 rfl (lv_at hl 2 rfl) ?_
        refine gg1_get (v := .ref (q 6)) hx hb hts hin hown hK G 6 (by decide) (index := 20) (by decide +kernel) rfl dX1_behind_13 ?_
        refine lv_iload_n hx hb dX1_behind_16 rfl (lv_at hl 0 rfl) ?_
        refine gg1_ld6 hx hb hK G (i := i) (vp_in_iff.mpr (by have q4 := c_9; rw [Int32.le_iff_toInt_le] at q4; omega)) dX1_behind_17 ?_
        refine lv_iconst (v := 1) hx hb dX1_behind_18 (by decide) ?_
        refine lv_icmp_eq (tgt := 32) hx hb dX1_behind_19 (by decide) (fun c_19 => ?_) (fun c_19 => ?_)
        · refine lv_iinc (v := d + 1) (lv' := [(2, .int (d + 1)), (3, .int i), (0, .ref h), (1, .int p0)]) hx hb dX1_behind_32 hl (k := 1) rfl (congrArg (fun z => d + z) (by decide)) (by decide) rfl (fun ls hl => ?_)
          refine lv_aload_n hx hb dX1_behind_35 rfl (lv_at hl 2 rfl) ?_
          refine gg1_get (v := .ref (q 6)) hx hb hts hin hown hK G 6 (by decide) (index := 20) (by decide +kernel) rfl dX1_behind_36 ?_
          refine lv_iload_n hx hb dX1_behind_39 rfl (lv_at hl 1 rfl) ?_
          refine gg1_ld6 hx hb hK G (i := i) (vp_in_iff.mpr (by have q4 := c_9; rw [Int32.le_iff_toInt_le] at q4; omega)) dX1_behind_40 ?_
          refine lv_if_ne (tgt := 55) hx hb dX1_behind_41 (by decide) (fun _ => ?_) (fun z => absurd z (by rw [c_19]; decide))
          refine lv_iinc (v := i + 1) (lv' := [(3, .int (i + 1)), (2, .int (d + 1)), (0, .ref h), (1, .int p0)]) hx hb dX1_behind_55 hl (k := 1) rfl (congrArg (fun z => i + z) (by decide)) (by decide) rfl (fun ls hl => ?_)
          refine lv_goto (tgt := 4) hx hb dX1_behind_58 (by decide) ?_
          have q4 := c_9
          rw [Int32.le_iff_toInt_le] at q4
          have q5 := lh_toInt1 (i := i) (by omega) hi0
          exact ih (d + 1) (i + 1) (by omega) (by omega) (by omega) (by rw [hf, if_neg c_9, if_pos c_19]) H locs ls G (lv_sub hl [0, 1, 2, 3] rfl)
        · refine lv_aload_n hx hb dX1_behind_22 rfl (lv_at hl 2 rfl) ?_
          refine gg1_get (v := .ref (q 6)) hx hb hts hin hown hK G 6 (by decide) (index := 20) (by decide +kernel) rfl dX1_behind_23 ?_
          refine lv_iload_n hx hb dX1_behind_26 rfl (lv_at hl 0 rfl) ?_
          refine gg1_ld6 hx hb hK G (i := i) (vp_in_iff.mpr (by have q4 := c_9; rw [Int32.le_iff_toInt_le] at q4; omega)) dX1_behind_27 ?_
          refine lv_iconst (v := 2) hx hb dX1_behind_28 (by decide) ?_
          refine lv_icmp_ne (tgt := 35) hx hb dX1_behind_29 (by decide) (fun c_29 => ?_) (fun c_29 => ?_)
          · refine lv_aload_n hx hb dX1_behind_35 rfl (lv_at hl 2 rfl) ?_
            refine gg1_get (v := .ref (q 6)) hx hb hts hin hown hK G 6 (by decide) (index := 20) (by decide +kernel) rfl dX1_behind_36 ?_
            refine lv_iload_n hx hb dX1_behind_39 rfl (lv_at hl 0 rfl) ?_
            refine gg1_ld6 hx hb hK G (i := i) (vp_in_iff.mpr (by have q4 := c_9; rw [Int32.le_iff_toInt_le] at q4; omega)) dX1_behind_40 ?_
            refine lv_if_ne (tgt := 55) hx hb dX1_behind_41 (by decide) (fun c_41 => ?_) (fun c_41 => ?_)
            · refine lv_iinc (v := i + 1) (lv' := [(3, .int (i + 1)), (2, .int d), (0, .ref h), (1, .int p0)]) hx hb dX1_behind_55 hl (k := 0) rfl (congrArg (fun z => i + z) (by decide)) (by decide) rfl (fun ls hl => ?_)
              refine lv_goto (tgt := 4) hx hb dX1_behind_58 (by decide) ?_
              have q4 := c_9
              rw [Int32.le_iff_toInt_le] at q4
              have q5 := lh_toInt1 (i := i) (by omega) hi0
              exact ih (d) (i + 1) (by omega) (by omega) (by omega) (by rw [hf, if_neg c_9, if_neg c_19, if_neg c_29, if_neg c_41]) H locs ls G (lv_sub hl [0, 1, 2, 3] rfl)
            · refine lv_iinc (v := d + (-1)) (lv' := [(2, .int (d + (-1))), (3, .int i), (0, .ref h), (1, .int p0)]) hx hb dX1_behind_44 hl (k := 1) rfl (congrArg (fun z => d + z) (by decide)) (by decide) rfl (fun ls hl => ?_)
              refine lv_iload_n hx hb dX1_behind_47 rfl (lv_at hl 0 rfl) ?_
              refine lv_if_ne (tgt := 55) hx hb dX1_behind_48 (by decide) (fun c_48 => ?_) (fun c_48 => ?_)
              · refine lv_iinc (v := i + 1) (lv' := [(3, .int (i + 1)), (2, .int (d + (-1))), (0, .ref h), (1, .int p0)]) hx hb dX1_behind_55 hl (k := 1) rfl (congrArg (fun z => i + z) (by decide)) (by decide) rfl (fun ls hl => ?_)
                refine lv_goto (tgt := 4) hx hb dX1_behind_58 (by decide) ?_
                have q4 := c_9
                rw [Int32.le_iff_toInt_le] at q4
                have q5 := lh_toInt1 (i := i) (by omega) hi0
                exact ih (d + (-1)) (i + 1) (by omega) (by omega) (by omega) (by rw [hf, if_neg c_9, if_neg c_19, if_neg c_29, if_pos c_41, if_neg c_48]) H locs ls G (lv_sub hl [0, 1, 2, 3] rfl)
              · refine lv_iload_n hx hb dX1_behind_51 rfl (lv_at hl 1 rfl) ?_
                refine lv_iconst (v := 1) hx hb dX1_behind_52 (by decide) ?_
                refine lv_iadd hx hb dX1_behind_53 ?_
                exact gx_iret (wf := gw1_ cI cZ h q) (u1 := u) hx hb hr hlocks hsz hK hAe G dX1_behind_54 (congrArg (fun z => (z, u)) (by rw [hf, if_neg c_9, if_neg c_19, if_neg c_29, if_pos c_41, if_pos c_48]))
          · refine lv_iinc (v := d + 1) (lv' := [(2, .int (d + 1)), (3, .int i), (0, .ref h), (1, .int p0)]) hx hb dX1_behind_32 hl (k := 1) rfl (congrArg (fun z => d + z) (by decide)) (by decide) rfl (fun ls hl => ?_)
            refine lv_aload_n hx hb dX1_behind_35 rfl (lv_at hl 2 rfl) ?_
            refine gg1_get (v := .ref (q 6)) hx hb hts hin hown hK G 6 (by decide) (index := 20) (by decide +kernel) rfl dX1_behind_36 ?_
            refine lv_iload_n hx hb dX1_behind_39 rfl (lv_at hl 1 rfl) ?_
            refine gg1_ld6 hx hb hK G (i := i) (vp_in_iff.mpr (by have q4 := c_9; rw [Int32.le_iff_toInt_le] at q4; omega)) dX1_behind_40 ?_
            refine lv_if_ne (tgt := 55) hx hb dX1_behind_41 (by decide) (fun _ => ?_) (fun z => absurd z (by rw [c_29]; decide))
            refine lv_iinc (v := i + 1) (lv' := [(3, .int (i + 1)), (2, .int (d + 1)), (0, .ref h), (1, .int p0)]) hx hb dX1_behind_55 hl (k := 1) rfl (congrArg (fun z => i + z) (by decide)) (by decide) rfl (fun ls hl => ?_)
            refine lv_goto (tgt := 4) hx hb dX1_behind_58 (by decide) ?_
            have q4 := c_9
            rw [Int32.le_iff_toInt_le] at q4
            have q5 := lh_toInt1 (i := i) (by omega) hi0
            exact ih (d + 1) (i + 1) (by omega) (by omega) (by omega) (by rw [hf, if_neg c_9, if_neg c_19, if_pos c_29]) H locs ls G (lv_sub hl [0, 1, 2, 3] rfl)
  refine lv_iconst (v := 0) hx hb dX1_behind_0 (by decide) ?_
  refine lv_istore_n (lv' := [(2, .int 0), (0, .ref h), (1, .int p0)]) hx hb dX1_behind_1 rfl hl (by decide) rfl (fun ls hl => ?_)
  refine lv_iload_n hx hb dX1_behind_2 rfl (lv_at hl 2 rfl) ?_
  refine lv_istore_n (lv' := [(3, .int p0), (2, .int 0), (0, .ref h), (1, .int p0)]) hx hb dX1_behind_3 rfl hl (by decide) rfl (fun ls hl => ?_)
  exact loop 25 0 p0 (by omega) (by omega) (by omega) rfl _ _ ls G (lv_sub hl [0, 1, 2, 3] rfl)
theorem hd_X1_behind : yX1_behind.cls = RX1 ∧ yX1_behind.cls ≠ "java/lang/invoke/MethodHandle" ∧ yX1_behind.cls ≠ "java/lang/invoke/VarHandle" ∧ (parseMethodDescriptor yX1_behind.desc).map (fun d => d.parameters.length) = some 1 := by decide +kernel
def pm_uw : Nat → st_T → Int32 × st_T
  | 0, v => (0, v)
  | n + 1, v => if v.1 13 ≤ 0 then (v.1 8, st_si v 11 (v.1 14)) else if (pm_close v).2.2 6 (ix (v.2 12 (ix (v.1 13 - 1)))) = 2 then (pm_behind (st_sa (pm_close v).2 10 (ix (v.2 12 (ix (v.1 13 - 1)))) ((pm_close v).2.1 14)) (v.2 12 (ix (v.1 13 - 1))), st_sa (pm_close v).2 10 (ix (v.2 12 (ix (v.1 13 - 1)))) ((pm_close v).2.1 14)) else pm_uw n (pm_close v).2
theorem pm_uw_s (n : Nat) (v : st_T) : pm_uw (n + 1) v = if v.1 13 ≤ 0 then (v.1 8, st_si v 11 (v.1 14)) else if (pm_close v).2.2 6 (ix (v.2 12 (ix (v.1 13 - 1)))) = 2 then (pm_behind (st_sa (pm_close v).2 10 (ix (v.2 12 (ix (v.1 13 - 1)))) ((pm_close v).2.1 14)) (v.2 12 (ix (v.1 13 - 1))), st_sa (pm_close v).2 10 (ix (v.2 12 (ix (v.1 13 - 1)))) ((pm_close v).2.1 14)) else pm_uw n (pm_close v).2 := rfl
def pm_uok : Nat → st_T → Prop
  | 0, _ => False
  | n + 1, v => if v.1 13 ≤ 0 then True else (vp_in (v.1 13 - 1) 8 ∧ (∀ j : Nat, j < 8 → vp_in (v.2 12 j) 24) ∧ (∀ j : Nat, j < 5 → vp_in (v.2 0 j) 520) ∧ ((pm_close v).2.1 8).toInt ≤ 24) ∧ (¬ (pm_close v).2.2 6 (ix (v.2 12 (ix (v.1 13 - 1)))) = 2 → pm_uok n (pm_close v).2)
def pm_unwind (u : st_T) : Int32 × st_T := pm_uw 9 u
set_option maxHeartbeats 4000000 in
set_option maxRecDepth 100000 in
theorem km_unwind (l : Launch) (dC : Nat → ClassId) (dI : Nat → Nat → Nat) (cI cZ : ClassId) (h : Nat) (q : Nat → Nat) (sz : Nat) (u : st_T) (hok : pm_uok 9 u) : gx_Mi l yX1_unwind wsX1_unwind { frames := 3, cells := 0, slots := 0, locals := 64 } [.ref h] (dC, dI) cI cZ (gw1_ cI cZ h q) u sz (pm_unwind u) := by
  refine gx_met (cc := cX1_unwind) (maxL := 3) (ret := (some .int)) (by decide +kernel) rfl (Nat.le_of_ble_eq_true rfl) (fun p e s m args below meth c A ls hsz hx hb hr hlocks hts hown hml hK hAe hA G hl => ?_)
  have hown : s.vm.findClass RX1 = some m.cls := hown
  have hin : ∀ w ∈ wsX10, w ∈ wsX1_unwind := gx_in
  have hl : lv_has ls 3 [(0, .ref h)] := hl
  have loop : ∀ (n : Nat) (v : st_T), pm_uok n v → pm_unwind u = pm_uw n v → ∀ (H : Heap) (locs : List Loc) (ls : Array Slot), gx_ (dC, dI) A s.heap H locs (gw1_ cI cZ h q v) → lv_has ls 3 [(0, .ref h)] → W p l e { frames := 3, cells := 0, slots := 0, locals := 64 } s m args below meth c H locs 0 0 (MQ below (va_Qi (fun r u1 => r = (pm_unwind u).1 ∧ u1 = (pm_unwind u).2) (gx_O (dC, dI) cI cZ (gw1_ cI cZ h q) (gw1_ cI cZ h q u) sz) (va_A (gw1_ cI cZ h q u) sz)) args s 0 0 (va_A (gw1_ cI cZ h q u) sz)) (F0 m 0 ls []) := by
    intro n
    induction n with
    | zero => intro v h1; exact h1.elim
    | succ n ih =>
      intro v hok hf H locs ls G hl
      rw [pm_uw_s n v] at hf
      have hs : ¬ v.1 13 ≤ 0 → (vp_in (v.1 13 - 1) 8 ∧ (∀ j : Nat, j < 8 → vp_in (v.2 12 j) 24) ∧ (∀ j : Nat, j < 5 → vp_in (v.2 0 j) 520) ∧ ((pm_close v).2.1 8).toInt ≤ 24) ∧ (¬ (pm_close v).2.2 6 (ix (v.2 12 (ix (v.1 13 - 1)))) = 2 → pm_uok n (pm_close v).2) := by
        intro a
        rw [pm_uok, if_neg a] at hok
        exact hok
      refine lv_aload_n hx hb dX1_unwind_0 rfl (lv_at hl 0 rfl) ?_
      refine gg1_get (v := .int (v.1 13)) hx hb hts hin hown hK G 13 (by decide) (index := 65) (by decide +kernel) rfl dX1_unwind_1 ?_
      refine lv_if_le (tgt := 53) hx hb dX1_unwind_4 (by decide) (fun c_4 => ?_) (fun c_4 => ?_)
      · refine lv_aload_n hx hb dX1_unwind_53 rfl (lv_at hl 0 rfl) ?_
        refine lv_aload_n hx hb dX1_unwind_54 rfl (lv_at hl 0 rfl) ?_
        refine gg1_get (v := .int (v.1 14)) hx hb hts hin hown hK G 14 (by decide) (index := 54) (by decide +kernel) rfl dX1_unwind_55 ?_
        refine gg1_put11 (v := v.1 14) hx hb hts hin hown hK G (index := 94) (by decide +kernel) dX1_unwind_58 (fun H locs G => ?_)
        refine lv_aload_n hx hb dX1_unwind_61 rfl (lv_at hl 0 rfl) ?_
        refine gg1_get (v := .int (v.1 8)) hx hb hts hin hown hK G 8 (by decide) (index := 40) (by decide +kernel) rfl dX1_unwind_62 ?_
        exact gx_iret (wf := gw1_ cI cZ h q) (u1 := st_si v 11 (v.1 14)) hx hb hr hlocks hsz hK hAe G dX1_unwind_65 (by rw [hf, if_pos c_4])
      · refine lv_aload_n hx hb dX1_unwind_7 rfl (lv_at hl 0 rfl) ?_
        refine gg1_get (v := .ref (q 12)) hx hb hts hin hown hK G 12 (by decide) (index := 29) (by decide +kernel) rfl dX1_unwind_8 ?_
        refine lv_aload_n hx hb dX1_unwind_11 rfl (lv_at hl 0 rfl) ?_
        refine gg1_get (v := .int (v.1 13)) hx hb hts hin hown hK G 13 (by decide) (index := 65) (by decide +kernel) rfl dX1_unwind_12 ?_
        refine lv_iconst (v := 1) hx hb dX1_unwind_15 (by decide) ?_
        refine lv_isub hx hb dX1_unwind_16 ?_
        refine gg1_ld12 hx hb hK G (i := (v.1 13) - 1) (hs c_4).1.1 dX1_unwind_17 ?_
        refine lv_istore_n (lv' := [(1, .int (v.2 12 (ix ((v.1 13) - 1)))), (0, .ref h)]) hx hb dX1_unwind_18 rfl hl (by decide) rfl (fun ls hl => ?_)
        refine lv_aload_n hx hb dX1_unwind_19 rfl (lv_at hl 1 rfl) ?_
        refine gx_calli (wf := gw1_ cI cZ h q) (u := v) (f := pm_close v) (As := []) (rest := []) 0 hx hb hml hown hts hK hA G rfl rfl (km_close l dC dI cI cZ h q _ v  (hs c_4).1.1 (hs c_4).1.2.1 (hs c_4).1.2.2.1) gX1_unwind_X1_close rfl rfl rfl hd_X1_close ⟨Nat.le_of_ble_eq_true rfl, Nat.le_of_ble_eq_true rfl⟩ rfl hl.1 rfl (Nat.le_of_ble_eq_true rfl) dX1_unwind_20 (Nat.zero_le _) (Nat.zero_le _) (fun H locs G => ?_)
        refine lv_istore_n (lv' := [(2, .int ((pm_close v).1)), (1, .int (v.2 12 (ix ((v.1 13) - 1)))), (0, .ref h)]) hx hb dX1_unwind_23 rfl hl (by decide) rfl (fun ls hl => ?_)
        refine lv_aload_n hx hb dX1_unwind_24 rfl (lv_at hl 2 rfl) ?_
        refine gg1_get (v := .ref (q 6)) hx hb hts hin hown hK G 6 (by decide) (index := 20) (by decide +kernel) rfl dX1_unwind_25 ?_
        refine lv_iload_n hx hb dX1_unwind_28 rfl (lv_at hl 1 rfl) ?_
        refine gg1_ld6 hx hb hK G (i := v.2 12 (ix ((v.1 13) - 1))) ((hs c_4).1.2.1 _ (ix_lt (hs c_4).1.1)) dX1_unwind_29 ?_
        refine lv_iconst (v := 2) hx hb dX1_unwind_30 (by decide) ?_
        refine lv_icmp_ne (tgt := 50) hx hb dX1_unwind_31 (by decide) (fun c_31 => ?_) (fun c_31 => ?_)
        · refine lv_goto (tgt := 0) hx hb dX1_unwind_50 (by decide) ?_
          exact ih (pm_close v).2 ((hs c_4).2 c_31) (by rw [hf, if_neg c_4, if_neg c_31]) H locs ls G (lv_sub hl [2] rfl)
        · refine lv_aload_n hx hb dX1_unwind_34 rfl (lv_at hl 2 rfl) ?_
          refine gg1_get (v := .ref (q 10)) hx hb hts hin hown hK G 10 (by decide) (index := 26) (by decide +kernel) rfl dX1_unwind_35 ?_
          refine lv_iload_n hx hb dX1_unwind_38 rfl (lv_at hl 1 rfl) ?_
          refine lv_aload_n hx hb dX1_unwind_39 rfl (lv_at hl 2 rfl) ?_
          refine gg1_get (v := .int (((pm_close v).2).1 14)) hx hb hts hin hown hK G 14 (by decide) (index := 54) (by decide +kernel) rfl dX1_unwind_40 ?_
          refine gg1_st10 hx hb hK G (i := v.2 12 (ix ((v.1 13) - 1))) (x := ((pm_close v).2).1 14) ((hs c_4).1.2.1 _ (ix_lt (hs c_4).1.1)) dX1_unwind_43 (fun H locs G => ?_)
          refine lv_aload_n hx hb dX1_unwind_44 rfl (lv_at hl 2 rfl) ?_
          refine lv_iload_n hx hb dX1_unwind_45 rfl (lv_at hl 1 rfl) ?_
          refine gx_callr (wf := gw1_ cI cZ h q) (u := st_sa ((pm_close v).2) 10 (ix (v.2 12 (ix ((v.1 13) - 1)))) (((pm_close v).2).1 14)) (f := pm_behind (st_sa ((pm_close v).2) 10 (ix (v.2 12 (ix ((v.1 13) - 1)))) (((pm_close v).2).1 14)) (v.2 12 (ix ((v.1 13) - 1)))) (As := [.int (v.2 12 (ix ((v.1 13) - 1)))]) (rest := []) 1 hx hb hml hown hts hK hA G rfl rfl (km_behind l dC dI cI cZ h q _ (st_sa ((pm_close v).2) 10 (ix (v.2 12 (ix ((v.1 13) - 1)))) (((pm_close v).2).1 14)) (v.2 12 (ix ((v.1 13) - 1))) ((hs c_4).1.2.1 _ (ix_lt (hs c_4).1.1)) (hs c_4).1.2.2.2) gX1_unwind_X1_behind rfl rfl rfl hd_X1_behind ⟨Nat.le_of_ble_eq_true rfl, Nat.le_of_ble_eq_true rfl⟩ rfl hl.1 rfl (Nat.le_of_ble_eq_true rfl) dX1_unwind_46 (Nat.zero_le _) (Nat.zero_le _) (fun H locs G => ?_)
          exact gx_iret (wf := gw1_ cI cZ h q) (u1 := st_sa ((pm_close v).2) 10 (ix (v.2 12 (ix ((v.1 13) - 1)))) (((pm_close v).2).1 14)) hx hb hr hlocks hsz hK hAe G dX1_unwind_49 (by rw [hf, if_neg c_4, if_pos c_31])
  exact loop 9 u hok rfl _ _ ls G hl
theorem hd_X1_unwind : yX1_unwind.cls = RX1 ∧ yX1_unwind.cls ≠ "java/lang/invoke/MethodHandle" ∧ yX1_unwind.cls ≠ "java/lang/invoke/VarHandle" ∧ (parseMethodDescriptor yX1_unwind.desc).map (fun d => d.parameters.length) = some 0 := by decide +kernel
def pm_wok (v : st_T) (p0 : Int32) : Prop := vp_in p0 24 ∧ (∀ j : Nat, j < 5 → vp_in (v.2 0 j) 520) ∧ (∀ j : Nat, j < 8 → vp_in (v.2 12 j) 24) ∧ (v.2 6 (ix p0) = 0 → vp_in (v.1 13 - 1) 8) ∧ (v.2 6 (ix p0) = 1 ∨ v.2 6 (ix p0) = 2 → vp_in (v.1 13) 8)
def pm_w1 (v : st_T) (i : Int32) : Int32 × st_T := pm_work (st_si v 14 0) i
def pm_rl : Nat → st_T → Int32 → Int32 → Int32 × st_T
  | 0, v, d, _ => (d, v)
  | n + 1, v, d, i => if v.1 8 ≤ i then (d, v) else if (pm_work (st_si v 14 0) i).2.1 14 = 0 then pm_rl n (st_sa (pm_work (st_si v 14 0) i).2 10 (ix i) (pm_work (st_si v 14 0) i).1) (d + 1) (i + 1) else pm_rl n (pm_unwind (st_sa (pm_work (st_si v 14 0) i).2 10 (ix i) ((pm_work (st_si v 14 0) i).2.1 14 - 1000))).2 (d + 1) (pm_unwind (st_sa (pm_work (st_si v 14 0) i).2 10 (ix i) ((pm_work (st_si v 14 0) i).2.1 14 - 1000))).1
theorem pm_rl_s (n : Nat) (v : st_T) (d i : Int32) : pm_rl (n + 1) v d i = if v.1 8 ≤ i then (d, v) else if (pm_work (st_si v 14 0) i).2.1 14 = 0 then pm_rl n (st_sa (pm_work (st_si v 14 0) i).2 10 (ix i) (pm_work (st_si v 14 0) i).1) (d + 1) (i + 1) else pm_rl n (pm_unwind (st_sa (pm_work (st_si v 14 0) i).2 10 (ix i) ((pm_work (st_si v 14 0) i).2.1 14 - 1000))).2 (d + 1) (pm_unwind (st_sa (pm_work (st_si v 14 0) i).2 10 (ix i) ((pm_work (st_si v 14 0) i).2.1 14 - 1000))).1 := rfl
def pm_rok : Nat → st_T → Int32 → Prop
  | 0, _, _ => False
  | n + 1, v, i => if v.1 8 ≤ i then True else pm_wok (st_si v 14 0) i ∧ (if (pm_work (st_si v 14 0) i).2.1 14 = 0 then pm_rok n (st_sa (pm_work (st_si v 14 0) i).2 10 (ix i) (pm_work (st_si v 14 0) i).1) (i + 1) else pm_uok 9 (st_sa (pm_work (st_si v 14 0) i).2 10 (ix i) ((pm_work (st_si v 14 0) i).2.1 14 - 1000)) ∧ pm_rok n (pm_unwind (st_sa (pm_work (st_si v 14 0) i).2 10 (ix i) ((pm_work (st_si v 14 0) i).2.1 14 - 1000))).2 (pm_unwind (st_sa (pm_work (st_si v 14 0) i).2 10 (ix i) ((pm_work (st_si v 14 0) i).2.1 14 - 1000))).1)
def pm_r0 (u : st_T) : st_T := st_si (st_si (st_sf u 10 (pj_fill 24 (-9) (u.2 10))) 11 0) 13 0
def pm_run (u : st_T) : Int32 × st_T := if u.1 9 ≤ 0 then pm_rl 25 (pm_r0 u) 0 0 else (-1, u)
theorem sf_s10 {i : Nat} (hi : i < 2 ^ 31) (u : st_T) (v : Int32) (f : Nat → Int32) : st_sa (st_sf u 10 (pj_fill i v f)) 10 (ix (nI i)) v = st_sf u 10 (pj_fill (i + 1) v f) := by
  rw [← pj_fill_s hi]
  unfold st_sa st_sf
  congr 1
  funext j
  show va_up (va_up u.2 10 (pj_fill i v f)) 10 (upd ((va_up u.2 10 (pj_fill i v f)) 10) (ix (nI i)) v) j = va_up u.2 10 (upd (pj_fill i v f) (ix (nI i)) v) j
  by_cases hj : j = 10
  · subst hj
    rw [va_up_self, va_up_self, va_up_self]
  · rw [va_up_ne _ _ hj, va_up_ne _ _ hj, va_up_ne _ _ hj]
theorem sf_010 (u : st_T) (v : Int32) : st_sf u 10 (pj_fill 0 v (u.2 10)) = u := by
  rw [pj_fill_0]
  unfold st_sf
  have : va_up u.2 10 (u.2 10) = u.2 := by
    funext j
    by_cases hj : j = 10
    · subst hj; rw [va_up_self]
    · rw [va_up_ne _ _ hj]
  rw [this]
set_option maxHeartbeats 4000000 in
set_option maxRecDepth 100000 in
theorem km_run (l : Launch) (dC : Nat → ClassId) (dI : Nat → Nat → Nat) (cI cZ : ClassId) (h : Nat) (q : Nat → Nat) (sz : Nat) (u : st_T) (hok : u.1 9 ≤ 0 → pm_rok 25 (pm_r0 u) 0) : gx_Mi l yX1_run wsX1_run { frames := 5, cells := 0, slots := 0, locals := 110 } [.ref h] (dC, dI) cI cZ (gw1_ cI cZ h q) u sz (pm_run u) := by
  refine gx_met (cc := cX1_run) (maxL := 4) (ret := (some .int)) (by decide +kernel) rfl (Nat.le_of_ble_eq_true rfl) (fun p e s m args below meth c A ls hsz hx hb hr hlocks hts hown hml hK hAe hA G hl => ?_)
  have hown : s.vm.findClass RX1 = some m.cls := hown
  have hin : ∀ w ∈ wsX10, w ∈ wsX1_run := gx_in
  have hl : lv_has ls 4 [(0, .ref h)] := hl
  have loop : ∀ (n : Nat) (v : st_T) (d i : Int32), pm_rok n v i → pm_run u = pm_rl n v d i → ∀ (H : Heap) (locs : List Loc) (ls : Array Slot), gx_ (dC, dI) A s.heap H locs (gw1_ cI cZ h q v) → lv_has ls 4 [(2, .int i), (1, .int d), (0, .ref h)] → W p l e { frames := 5, cells := 0, slots := 0, locals := 110 } s m args below meth c H locs 0 0 (MQ below (va_Qi (fun r u1 => r = (pm_run u).1 ∧ u1 = (pm_run u).2) (gx_O (dC, dI) cI cZ (gw1_ cI cZ h q) (gw1_ cI cZ h q u) sz) (va_A (gw1_ cI cZ h q u) sz)) args s 0 0 (va_A (gw1_ cI cZ h q u) sz)) (F0 m 45 ls []) := by
    intro n
    induction n with
    | zero => intro v d i h1; exact h1.elim
    | succ n ih =>
      intro v d i hok hf H locs ls G hl
      rw [pm_rl_s n v d i] at hf
      have hs : ¬ v.1 8 ≤ i → pm_wok (st_si v 14 0) i := by
        intro a
        rw [pm_rok, if_neg a] at hok
        exact hok.1
      have hs1 : ¬ v.1 8 ≤ i → (pm_work (st_si v 14 0) i).2.1 14 = 0 → pm_rok n (st_sa (pm_work (st_si v 14 0) i).2 10 (ix i) (pm_work (st_si v 14 0) i).1) (i + 1) := by
        intro a b
        rw [pm_rok, if_neg a, if_pos b] at hok
        exact hok.2
      have hs2 : ¬ v.1 8 ≤ i → ¬ (pm_work (st_si v 14 0) i).2.1 14 = 0 → pm_uok 9 (st_sa (pm_work (st_si v 14 0) i).2 10 (ix i) ((pm_work (st_si v 14 0) i).2.1 14 - 1000)) ∧ pm_rok n (pm_unwind (st_sa (pm_work (st_si v 14 0) i).2 10 (ix i) ((pm_work (st_si v 14 0) i).2.1 14 - 1000))).2 (pm_unwind (st_sa (pm_work (st_si v 14 0) i).2 10 (ix i) ((pm_work (st_si v 14 0) i).2.1 14 - 1000))).1 := by
        intro a b
        rw [pm_rok, if_neg a, if_neg b] at hok
        exact hok.2
      refine lv_iload_n hx hb dX1_run_45 rfl (lv_at hl 0 rfl) ?_
      refine lv_aload_n hx hb dX1_run_46 rfl (lv_at hl 2 rfl) ?_
      refine gg1_get (v := .int (v.1 8)) hx hb hts hin hown hK G 8 (by decide) (index := 40) (by decide +kernel) rfl dX1_run_47 ?_
      refine lv_icmp_ge (tgt := 113) hx hb dX1_run_50 (by decide) (fun c_50 => ?_) (fun c_50 => ?_)
      · refine lv_iload_n hx hb dX1_run_113 rfl (lv_at hl 1 rfl) ?_
        exact gx_iret (wf := gw1_ cI cZ h q) (u1 := v) hx hb hr hlocks hsz hK hAe G dX1_run_114 (by rw [hf, if_pos c_50])
      · refine lv_aload_n hx hb dX1_run_53 rfl (lv_at hl 2 rfl) ?_
        refine lv_iconst (v := 0) hx hb dX1_run_54 (by decide) ?_
        refine gg1_put14 (v := 0) hx hb hts hin hown hK G (index := 54) (by decide +kernel) dX1_run_55 (fun H locs G => ?_)
        refine lv_aload_n hx hb dX1_run_58 rfl (lv_at hl 2 rfl) ?_
        refine lv_iload_n hx hb dX1_run_59 rfl (lv_at hl 0 rfl) ?_
        refine gx_calli (wf := gw1_ cI cZ h q) (u := st_si v 14 0) (f := pm_work (st_si v 14 0) i) (As := [.int i]) (rest := []) 1 hx hb hml hown hts hK hA G rfl rfl (km_work l dC dI cI cZ h q _ (st_si v 14 0) i (hs c_50).1 (hs c_50).2.1 (hs c_50).2.2.1 (hs c_50).2.2.2.1 (hs c_50).2.2.2.2) gX1_run_X1_work rfl rfl rfl hd_X1_work ⟨Nat.le_of_ble_eq_true rfl, Nat.le_of_ble_eq_true rfl⟩ rfl hl.1 rfl (Nat.le_of_ble_eq_true rfl) dX1_run_60 (Nat.zero_le _) (Nat.zero_le _) (fun H locs G => ?_)
        refine lv_istore_n (lv' := [(3, .int ((pm_work (st_si v 14 0) i).1)), (2, .int i), (1, .int d), (0, .ref h)]) hx hb dX1_run_63 rfl hl (by decide) rfl (fun ls hl => ?_)
        refine lv_iinc (v := d + 1) (lv' := [(1, .int (d + 1)), (3, .int ((pm_work (st_si v 14 0) i).1)), (2, .int i), (0, .ref h)]) hx hb dX1_run_64 hl (k := 2) rfl (congrArg (fun z => d + z) (by decide)) (by decide) rfl (fun ls hl => ?_)
        refine lv_aload_n hx hb dX1_run_67 rfl (lv_at hl 3 rfl) ?_
        refine gg1_get (v := .ref (q 10)) hx hb hts hin hown hK G 10 (by decide) (index := 26) (by decide +kernel) rfl dX1_run_68 ?_
        refine lv_iload_n hx hb dX1_run_71 rfl (lv_at hl 2 rfl) ?_
        refine lv_aload_n hx hb dX1_run_72 rfl (lv_at hl 3 rfl) ?_
        refine gg1_get (v := .int (((pm_work (st_si v 14 0) i).2).1 14)) hx hb hts hin hown hK G 14 (by decide) (index := 54) (by decide +kernel) rfl dX1_run_73 ?_
        refine lv_if_ne (tgt := 83) hx hb dX1_run_76 (by decide) (fun c_76 => ?_) (fun c_76 => ?_)
        · refine lv_aload_n hx hb dX1_run_83 rfl (lv_at hl 3 rfl) ?_
          refine gg1_get (v := .int (((pm_work (st_si v 14 0) i).2).1 14)) hx hb hts hin hown hK G 14 (by decide) (index := 54) (by decide +kernel) rfl dX1_run_84 ?_
          refine lv_sipush (v := 1000) hx hb dX1_run_87 (by decide) ?_
          refine lv_isub hx hb dX1_run_90 ?_
          refine gg1_st10 hx hb hK G (i := i) (x := (((pm_work (st_si v 14 0) i).2).1 14) - 1000) (hs c_50).1 dX1_run_91 (fun H locs G => ?_)
          refine lv_aload_n hx hb dX1_run_92 rfl (lv_at hl 3 rfl) ?_
          refine gg1_get (v := .int (((pm_work (st_si v 14 0) i).2).1 14)) hx hb hts hin hown hK G 14 (by decide) (index := 54) (by decide +kernel) rfl dX1_run_93 ?_
          refine lv_if_ne (tgt := 105) hx hb dX1_run_96 (by decide) (fun _ => ?_) (fun z => absurd z c_76)
          refine lv_aload_n hx hb dX1_run_105 rfl (lv_at hl 3 rfl) ?_
          refine gx_calli (wf := gw1_ cI cZ h q) (u := st_sa ((pm_work (st_si v 14 0) i).2) 10 (ix i) ((((pm_work (st_si v 14 0) i).2).1 14) - 1000)) (f := pm_unwind (st_sa ((pm_work (st_si v 14 0) i).2) 10 (ix i) ((((pm_work (st_si v 14 0) i).2).1 14) - 1000))) (As := []) (rest := []) 0 hx hb hml hown hts hK hA G rfl rfl (km_unwind l dC dI cI cZ h q _ (st_sa ((pm_work (st_si v 14 0) i).2) 10 (ix i) ((((pm_work (st_si v 14 0) i).2).1 14) - 1000))  (hs2 c_50 c_76).1) gX1_run_X1_unwind rfl rfl rfl hd_X1_unwind ⟨Nat.le_of_ble_eq_true rfl, Nat.le_of_ble_eq_true rfl⟩ rfl hl.1 rfl (Nat.le_of_ble_eq_true rfl) dX1_run_106 (Nat.zero_le _) (Nat.zero_le _) (fun H locs G => ?_)
          refine lv_istore_n (lv' := [(2, .int ((pm_unwind (st_sa ((pm_work (st_si v 14 0) i).2) 10 (ix i) ((((pm_work (st_si v 14 0) i).2).1 14) - 1000))).1)), (1, .int (d + 1)), (3, .int ((pm_work (st_si v 14 0) i).1)), (0, .ref h)]) hx hb dX1_run_109 rfl hl (by decide) rfl (fun ls hl => ?_)
          refine lv_goto (tgt := 45) hx hb dX1_run_110 (by decide) ?_
          exact ih _ (d + 1) _ (hs2 c_50 c_76).2 (by rw [hf, if_neg c_50, if_neg c_76]) H locs ls G (lv_sub hl [0, 1, 3] rfl)
        · refine lv_iload_n hx hb dX1_run_79 rfl (lv_at hl 1 rfl) ?_
          refine lv_goto (tgt := 91) hx hb dX1_run_80 (by decide) ?_
          refine gg1_st10 hx hb hK G (i := i) (x := (pm_work (st_si v 14 0) i).1) (hs c_50).1 dX1_run_91 (fun H locs G => ?_)
          refine lv_aload_n hx hb dX1_run_92 rfl (lv_at hl 3 rfl) ?_
          refine gg1_get (v := .int (((pm_work (st_si v 14 0) i).2).1 14)) hx hb hts hin hown hK G 14 (by decide) (index := 54) (by decide +kernel) rfl dX1_run_93 ?_
          refine lv_if_ne (tgt := 105) hx hb dX1_run_96 (by decide) (fun z => absurd c_76 z) (fun _ => ?_)
          refine lv_iload_n hx hb dX1_run_99 rfl (lv_at hl 2 rfl) ?_
          refine lv_iconst (v := 1) hx hb dX1_run_100 (by decide) ?_
          refine lv_iadd hx hb dX1_run_101 ?_
          refine lv_goto (tgt := 109) hx hb dX1_run_102 (by decide) ?_
          refine lv_istore_n (lv' := [(2, .int (i + 1)), (1, .int (d + 1)), (3, .int ((pm_work (st_si v 14 0) i).1)), (0, .ref h)]) hx hb dX1_run_109 rfl hl (by decide) rfl (fun ls hl => ?_)
          refine lv_goto (tgt := 45) hx hb dX1_run_110 (by decide) ?_
          exact ih _ (d + 1) (i + 1) (hs1 c_50 c_76) (by rw [hf, if_neg c_50, if_pos c_76]) H locs ls G (lv_sub hl [0, 1, 3] rfl)
  have mid : u.1 9 ≤ 0 → ∀ (H : Heap) (locs : List Loc) (ls : Array Slot), gx_ (dC, dI) A s.heap H locs (gw1_ cI cZ h q (st_sf u 10 (pj_fill 24 (-9) (u.2 10)))) → lv_has ls 4 [(0, .ref h)] → W p l e { frames := 5, cells := 0, slots := 0, locals := 110 } s m args below meth c H locs 0 0 (MQ below (va_Qi (fun r u1 => r = (pm_run u).1 ∧ u1 = (pm_run u).2) (gx_O (dC, dI) cI cZ (gw1_ cI cZ h q) (gw1_ cI cZ h q u) sz) (va_A (gw1_ cI cZ h q u) sz)) args s 0 0 (va_A (gw1_ cI cZ h q u) sz)) (F0 m 31 ls []) := by
    intro c_4 H locs ls G hl
    refine lv_aload_n hx hb dX1_run_31 rfl (lv_at hl 0 rfl) ?_
    refine lv_iconst (v := 0) hx hb dX1_run_32 (by decide) ?_
    refine gg1_put11 (v := 0) hx hb hts hin hown hK G (index := 94) (by decide +kernel) dX1_run_33 (fun H locs G => ?_)
    refine lv_aload_n hx hb dX1_run_36 rfl (lv_at hl 0 rfl) ?_
    refine lv_iconst (v := 0) hx hb dX1_run_37 (by decide) ?_
    refine gg1_put13 (v := 0) hx hb hts hin hown hK G (index := 65) (by decide +kernel) dX1_run_38 (fun H locs G => ?_)
    refine lv_iconst (v := 0) hx hb dX1_run_41 (by decide) ?_
    refine lv_istore_n (lv' := [(1, .int 0), (0, .ref h)]) hx hb dX1_run_42 rfl hl (by decide) rfl (fun ls hl => ?_)
    refine lv_iconst (v := 0) hx hb dX1_run_43 (by decide) ?_
    refine lv_istore_n (lv' := [(2, .int 0), (1, .int 0), (0, .ref h)]) hx hb dX1_run_44 rfl hl (by decide) rfl (fun ls hl => ?_)
    exact loop 25 (pm_r0 u) 0 0 (hok c_4) (by unfold pm_run; rw [if_pos c_4]) _ _ ls G (lv_sub hl [0, 1, 2] rfl)
  refine lv_aload_n hx hb dX1_run_0 rfl (lv_at hl 0 rfl) ?_
  refine gg1_get (v := .int (u.1 9)) hx hb hts hin hown hK G 9 (by decide) (index := 43) (by decide +kernel) rfl dX1_run_1 ?_
  refine lv_if_le (tgt := 9) hx hb dX1_run_4 (by decide) (fun c_4 => ?_) (fun c_4 => ?_)
  · have mid := mid c_4
    have init : ∀ (n i : Nat), i ≤ 24 → 24 - i < n → ∀ (H : Heap) (locs : List Loc) (ls : Array Slot), gx_ (dC, dI) A s.heap H locs (gw1_ cI cZ h q (st_sf u 10 (pj_fill i (-9) (u.2 10)))) → lv_has ls 4 [(1, .int (nI i)), (0, .ref h)] → W p l e { frames := 5, cells := 0, slots := 0, locals := 110 } s m args below meth c H locs 0 0 (MQ below (va_Qi (fun r u1 => r = (pm_run u).1 ∧ u1 = (pm_run u).2) (gx_O (dC, dI) cI cZ (gw1_ cI cZ h q) (gw1_ cI cZ h q u) sz) (va_A (gw1_ cI cZ h q u) sz)) args s 0 0 (va_A (gw1_ cI cZ h q u) sz)) (F0 m 11 ls []) := by
      intro n
      induction n with
      | zero => intro i h1 h2; exact absurd h2 (Nat.not_lt_zero _)
      | succ n ih =>
        intro i hi1 hi2 H locs ls G hl
        refine lv_iload_n hx hb dX1_run_11 rfl (lv_at hl 0 rfl) ?_
        refine lv_bipush (v := 24) hx hb dX1_run_12 (by decide) ?_
        refine lv_icmp_ge (tgt := 31) hx hb dX1_run_14 (by decide) (fun c_14 => ?_) (fun c_14 => ?_)
        · have e : i = 24 := by
            rw [show (24 : Int32) = nI 24 from by decide, nI_leI (by decide) (by omega)] at c_14
            omega
          subst e
          exact mid H locs ls G (lv_sub hl [1] rfl)
        · refine lv_aload_n hx hb dX1_run_17 rfl (lv_at hl 1 rfl) ?_
          refine gg1_get (v := .ref (q 10)) hx hb hts hin hown hK G 10 (by decide) (index := 26) (by decide +kernel) rfl dX1_run_18 ?_
          refine lv_iload_n hx hb dX1_run_21 rfl (lv_at hl 0 rfl) ?_
          refine lv_bipush (v := (-9)) hx hb dX1_run_22 (by decide) ?_
          refine gg1_st10 hx hb hK G (i := (nI i)) (x := (-9)) (vp_in_nI (by rw [show (24 : Int32) = nI 24 from by decide, nI_leI (by decide) (by omega)] at c_14; omega) (by decide)) dX1_run_24 (fun H locs G => ?_)
          refine lv_iinc (v := nI (i + 1)) (lv' := [(1, .int (nI (i + 1))), (0, .ref h)]) hx hb dX1_run_25 hl (k := 0) rfl (nI_1 i) (by decide) rfl (fun ls hl => ?_)
          refine lv_goto (tgt := 11) hx hb dX1_run_28 (by decide) ?_
          have e24 : i < 24 := by
            rw [show (24 : Int32) = nI 24 from by decide, nI_leI (by decide) (by omega)] at c_14
            omega
          rw [sf_s10 (by omega)] at G
          exact ih (i + 1) (by omega) (by omega) H locs ls G (lv_sub hl [0, 1] rfl)
    refine lv_iconst (v := 0) hx hb dX1_run_9 (by decide) ?_
    refine lv_istore_n (lv' := [(1, .int 0), (0, .ref h)]) hx hb dX1_run_10 rfl hl (by decide) rfl (fun ls hl => ?_)
    exact init 25 0 (by decide) (by decide) _ _ ls (by rw [sf_010]; exact G) (by rw [nI_0]; exact hl)
  · refine lv_iconst (v := (-1)) hx hb dX1_run_7 (by decide) ?_
    exact gx_iret (wf := gw1_ cI cZ h q) (u1 := u) hx hb hr hlocks hsz hK hAe G dX1_run_8 (by unfold pm_run; rw [if_neg c_4])
theorem hd_X1_run : yX1_run.cls = RX1 ∧ yX1_run.cls ≠ "java/lang/invoke/MethodHandle" ∧ yX1_run.cls ≠ "java/lang/invoke/VarHandle" ∧ (parseMethodDescriptor yX1_run.desc).map (fun d => d.parameters.length) = some 0 := by decide +kernel
def pm_result (u : st_T) (p0 : Int32) : Int32 :=
  if pm_in p0 24 = 0 then
    (-1)
  else
    u.2 10 (ix p0)
set_option maxHeartbeats 4000000 in
set_option maxRecDepth 100000 in
theorem km_result (l : Launch) (dC : Nat → ClassId) (dI : Nat → Nat → Nat) (cI cZ : ClassId) (h : Nat) (q : Nat → Nat) (sz : Nat) (u : st_T) (p0 : Int32) : gx_Mi l yX1_result wsX1_result { frames := 1, cells := 0, slots := 0, locals := 21 } [.ref h, .int p0] (dC, dI) cI cZ (gw1_ cI cZ h q) u sz (pm_result u p0, u) := by
  refine gx_met (cc := cX1_result) (maxL := 2) (ret := (some .int)) (by decide +kernel) rfl (Nat.le_of_ble_eq_true rfl) (fun p e s m args below meth c A ls hsz hx hb hr hlocks hts hown hml hK hAe hA G hl => ?_)
  have hown : s.vm.findClass RX1 = some m.cls := hown
  have hin : ∀ w ∈ wsX10, w ∈ wsX1_result := gx_in
  have hl : lv_has ls 2 [(0, .ref h), (1, .int p0)] := hl
  refine lv_iload_n hx hb dX1_result_0 rfl (lv_at hl 1 rfl) ?_
  refine lv_bipush (v := 24) hx hb dX1_result_1 (by decide) ?_
  refine gx_calls (f := pm_in p0 24) (As := [.int p0, .int 24]) (rest := []) 2 hx hb hml hown hts (km_in l p0 24 ) gX1_result_X1_in rfl rfl rfl hd_X1_in ⟨Nat.le_of_ble_eq_true rfl, Nat.le_of_ble_eq_true rfl⟩ rfl hl.1 rfl (Nat.le_of_ble_eq_true rfl) dX1_result_3 (Nat.zero_le _) (Nat.zero_le _) ?_
  refine lv_if_eq (tgt := 18) hx hb dX1_result_6 (by decide) (fun c_6 => ?_) (fun c_6 => ?_)
  · refine lv_iconst (v := (-1)) hx hb dX1_result_18 (by decide) ?_
    exact gx_iret (wf := gw1_ cI cZ h q) (u1 := u) hx hb hr hlocks hsz hK hAe G dX1_result_19 (congrArg (fun z => (z, u)) (by unfold pm_result; rw [if_pos c_6]))
  · refine lv_aload_n hx hb dX1_result_9 rfl (lv_at hl 0 rfl) ?_
    refine gg1_get (v := .ref (q 10)) hx hb hts hin hown hK G 10 (by decide) (index := 26) (by decide +kernel) rfl dX1_result_10 ?_
    refine lv_iload_n hx hb dX1_result_13 rfl (lv_at hl 1 rfl) ?_
    refine gg1_ld10 hx hb hK G (i := p0) (pi_in (M := 24) (by decide) c_6) dX1_result_14 ?_
    refine lv_goto (tgt := 19) hx hb dX1_result_15 (by decide) ?_
    exact gx_iret (wf := gw1_ cI cZ h q) (u1 := u) hx hb hr hlocks hsz hK hAe G dX1_result_19 (congrArg (fun z => (z, u)) (by unfold pm_result; rw [if_neg c_6]))
theorem hd_X1_result : yX1_result.cls = RX1 ∧ yX1_result.cls ≠ "java/lang/invoke/MethodHandle" ∧ yX1_result.cls ≠ "java/lang/invoke/VarHandle" ∧ (parseMethodDescriptor yX1_result.desc).map (fun d => d.parameters.length) = some 1 := by decide +kernel
def pm_failure (u : st_T) : Int32 :=
  u.1 11
set_option maxHeartbeats 4000000 in
set_option maxRecDepth 100000 in
theorem km_failure (l : Launch) (dC : Nat → ClassId) (dI : Nat → Nat → Nat) (cI cZ : ClassId) (h : Nat) (q : Nat → Nat) (sz : Nat) (u : st_T) : gx_Mi l yX1_failure wsX1_failure { frames := 0, cells := 0, slots := 0, locals := 0 } [.ref h] (dC, dI) cI cZ (gw1_ cI cZ h q) u sz (pm_failure u, u) := by
  refine gx_met (cc := cX1_failure) (maxL := 1) (ret := (some .int)) (by decide +kernel) rfl (Nat.le_of_ble_eq_true rfl) (fun p e s m args below meth c A ls hsz hx hb hr hlocks hts hown hml hK hAe hA G hl => ?_)
  have hown : s.vm.findClass RX1 = some m.cls := hown
  have hin : ∀ w ∈ wsX10, w ∈ wsX1_failure := gx_in
  have hl : lv_has ls 1 [(0, .ref h)] := hl
  refine lv_aload_n hx hb dX1_failure_0 rfl (lv_at hl 0 rfl) ?_
  refine gg1_get (v := .int (u.1 11)) hx hb hts hin hown hK G 11 (by decide) (index := 94) (by decide +kernel) rfl dX1_failure_1 ?_
  exact gx_iret (wf := gw1_ cI cZ h q) (u1 := u) hx hb hr hlocks hsz hK hAe G dX1_failure_4 (congrArg (fun z => (z, u)) (by unfold pm_failure; rfl))
theorem hd_X1_failure : yX1_failure.cls = RX1 ∧ yX1_failure.cls ≠ "java/lang/invoke/MethodHandle" ∧ yX1_failure.cls ≠ "java/lang/invoke/VarHandle" ∧ (parseMethodDescriptor yX1_failure.desc).map (fun d => d.parameters.length) = some 0 := by decide +kernel
def pm_se (u : st_T) : Nat → Int32 → Int32 → Int32
  | 0, c, _ => c
  | n + 1, c, i => if 4 ≤ i then c else if u.2 3 (ix i) = 0 then pm_se u n c (i + 1) else pm_se u n (c + 1) (i + 1)
theorem pm_se_s (u : st_T) (n : Nat) (c i : Int32) : pm_se u (n + 1) c i = if 4 ≤ i then c else if u.2 3 (ix i) = 0 then pm_se u n c (i + 1) else pm_se u n (c + 1) (i + 1) := rfl
def pm_sl (u : st_T) (l : Int32) : Nat → Int32 → Int32
  | 0, n => n
  | k + 1, n => if l = 0 then -2 else if u.2 0 (ix n) = l then n else pm_sl u l k (n + 1)
theorem pm_sl_s (u : st_T) (l : Int32) (k : Nat) (n : Int32) : pm_sl u l (k + 1) n = if l = 0 then -2 else if u.2 0 (ix n) = l then n else pm_sl u l k (n + 1) := rfl
def pm_state (u : st_T) (p0 : Int32) : Int32 :=
  if p0 = 0 then u.1 8 else if p0 = 1 then u.1 9 else if p0 = 2 then u.1 4 else if p0 = 3 then (if u.1 5 = 0 then 0 else 1) else if pm_in p0 10 = 0 then -1 else if p0 = 4 then pm_se u 5 0 0 else pm_sl u (u.2 0 (ix (p0 - 5))) 6 0
theorem so_in {p0 : Int32} (h0 : ¬ p0 = 0) (h1 : ¬ p0 = 1) (h2 : ¬ p0 = 2) (h3 : ¬ p0 = 3) (h4 : ¬ p0 = 4) (h : ¬ pm_in p0 10 = 0) : vp_in (p0 - 5) 5 := by
  have hp := vp_in_iff.mp (pi_in (M := 10) (n := 10) (by decide) h)
  have z0 := lv_neT h0 (a := 0) (by decide)
  have z1 := lv_neT h1 (a := 1) (by decide)
  have z2 := lv_neT h2 (a := 2) (by decide)
  have z3 := lv_neT h3 (a := 3) (by decide)
  have z4 := lv_neT h4 (a := 4) (by decide)
  refine hs_in ?_ ?_
  · rw [Int32.lt_iff_toInt_lt, show (5 : Int32).toInt = 5 by decide]; omega
  · rw [Int32.lt_iff_toInt_lt, show (10 : Int32).toInt = 10 by decide]; omega
set_option maxHeartbeats 4000000 in
set_option maxRecDepth 100000 in
theorem km_state (l : Launch) (dC : Nat → ClassId) (dI : Nat → Nat → Nat) (cI cZ : ClassId) (h : Nat) (q : Nat → Nat) (sz : Nat) (u : st_T) (p0 : Int32) : gx_Mi l yX1_state wsX1_state { frames := 1, cells := 0, slots := 0, locals := 21 } [.ref h, .int p0] (dC, dI) cI cZ (gw1_ cI cZ h q) u sz (pm_state u p0, u) := by
  refine gx_met (cc := cX1_state) (maxL := 4) (ret := (some .int)) (by decide +kernel) rfl (Nat.le_of_ble_eq_true rfl) (fun p e s m args below meth c A ls hsz hx hb hr hlocks hts hown hml hK hAe hA G hl => ?_)
  have hown : s.vm.findClass RX1 = some m.cls := hown
  have hin : ∀ w ∈ wsX10, w ∈ wsX1_state := gx_in
  have hl : lv_has ls 4 [(0, .ref h), (1, .int p0)] := hl
  have loopA : ∀ (n : Nat) (cn i : Int32), 0 ≤ i.toInt → i.toInt ≤ 4 → 4 - i.toInt < n → pm_state u p0 = pm_se u n cn i → ∀ (H : Heap) (locs : List Loc) (ls : Array Slot), gx_ (dC, dI) A s.heap H locs (gw1_ cI cZ h q u) → lv_has ls 4 [(3, .int i), (2, .int cn), (0, .ref h), (1, .int p0)] → W p l e { frames := 1, cells := 0, slots := 0, locals := 21 } s m args below meth c H locs 0 0 (MQ below (va_Qi (fun r u1 => r = (pm_state u p0, u).1 ∧ u1 = (pm_state u p0, u).2) (gx_O (dC, dI) cI cZ (gw1_ cI cZ h q) (gw1_ cI cZ h q u) sz) (va_A (gw1_ cI cZ h q u) sz)) args s 0 0 (va_A (gw1_ cI cZ h q u) sz)) (F0 m 67 ls []) := by
    intro n
    induction n with
    | zero => intro cn i h1 h2 h3; exact absurd h3 (by omega)
    | succ n ih =>
      intro cn i hi0 hip hin2 hf H locs ls G hl
      rw [pm_se_s u n cn i] at hf
      refine lv_iload_n hx hb dX1_state_67 rfl (lv_at hl 0 rfl) ?_
      refine lv_iconst (v := 4) hx hb dX1_state_68 (by decide) ?_
      refine lv_icmp_ge (tgt := 90) hx hb dX1_state_69 (by decide) (fun c_69 => ?_) (fun c_69 => ?_)
      · refine lv_iload_n hx hb dX1_state_90 rfl (lv_at hl 1 rfl) ?_
        exact gx_iret (wf := gw1_ cI cZ h q) (u1 := u) hx hb hr hlocks hsz hK hAe G dX1_state_91 (congrArg (fun z => (z, u)) (by rw [hf, if_pos c_69]))
      · refine lv_aload_n hx hb dX1_state_72 rfl (lv_at hl 2 rfl) ?_
        refine gg1_get (v := .ref (q 3)) hx hb hts hin hown hK G 3 (by decide) (index := 16) (by decide +kernel) rfl dX1_state_73 ?_
        refine lv_iload_n hx hb dX1_state_76 rfl (lv_at hl 0 rfl) ?_
        refine gg1_ld3 hx hb hK G (i := i) (in_1 (M := 4) (by decide) (by rw [Int32.lt_iff_toInt_lt, Int32.toInt_zero]; omega) c_69) dX1_state_77 ?_
        refine lv_if_eq (tgt := 84) hx hb dX1_state_78 (by decide) (fun c_78 => ?_) (fun c_78 => ?_)
        · refine lv_iinc (v := i + 1) (lv' := [(3, .int (i + 1)), (2, .int cn), (0, .ref h), (1, .int p0)]) hx hb dX1_state_84 hl (k := 0) rfl (congrArg (fun z => i + z) (by decide)) (by decide) rfl (fun ls hl => ?_)
          refine lv_goto (tgt := 67) hx hb dX1_state_87 (by decide) ?_
          have q4 := c_69
          rw [Int32.le_iff_toInt_le, show (4 : Int32).toInt = 4 by decide] at q4
          have q5 := lh_toInt1 (i := i) (by omega) hi0
          exact ih (cn) (i + 1) (by omega) (by omega) (by omega) (by rw [hf, if_neg c_69, if_pos c_78]) H locs ls G (lv_sub hl [0, 1, 2, 3] rfl)
        · refine lv_iinc (v := cn + 1) (lv' := [(2, .int (cn + 1)), (3, .int i), (0, .ref h), (1, .int p0)]) hx hb dX1_state_81 hl (k := 1) rfl (congrArg (fun z => cn + z) (by decide)) (by decide) rfl (fun ls hl => ?_)
          refine lv_iinc (v := i + 1) (lv' := [(3, .int (i + 1)), (2, .int (cn + 1)), (0, .ref h), (1, .int p0)]) hx hb dX1_state_84 hl (k := 1) rfl (congrArg (fun z => i + z) (by decide)) (by decide) rfl (fun ls hl => ?_)
          refine lv_goto (tgt := 67) hx hb dX1_state_87 (by decide) ?_
          have q4 := c_69
          rw [Int32.le_iff_toInt_le, show (4 : Int32).toInt = 4 by decide] at q4
          have q5 := lh_toInt1 (i := i) (by omega) hi0
          exact ih (cn + 1) (i + 1) (by omega) (by omega) (by omega) (by rw [hf, if_neg c_69, if_neg c_78]) H locs ls G (lv_sub hl [0, 1, 2, 3] rfl)
  have loopB : vp_in (p0 - 5) 5 → ∀ (n : Nat) (k : Int32), 0 ≤ k.toInt → k.toInt ≤ (p0 - 5).toInt → (p0 - 5).toInt - k.toInt < n → pm_state u p0 = pm_sl u (u.2 0 (ix (p0 - 5))) n k → ∀ (H : Heap) (locs : List Loc) (ls : Array Slot), gx_ (dC, dI) A s.heap H locs (gw1_ cI cZ h q u) → lv_has ls 4 [(3, .int (u.2 0 (ix (p0 - 5)))), (2, .int k), (0, .ref h), (1, .int p0)] → W p l e { frames := 1, cells := 0, slots := 0, locals := 21 } s m args below meth c H locs 0 0 (MQ below (va_Qi (fun r u1 => r = (pm_state u p0, u).1 ∧ u1 = (pm_state u p0, u).2) (gx_O (dC, dI) cI cZ (gw1_ cI cZ h q) (gw1_ cI cZ h q u) sz) (va_A (gw1_ cI cZ h q u) sz)) args s 0 0 (va_A (gw1_ cI cZ h q u) sz)) (F0 m 101 ls []) := by
    intro hso n
    have hs2 := vp_in_iff.mp hso
    induction n with
    | zero => intro k h1 h2 h3; exact absurd h3 (by omega)
    | succ n ih =>
      intro k hk0 hip hin2 hf H locs ls G hl
      rw [pm_sl_s u (u.2 0 (ix (p0 - 5))) n k] at hf
      refine lv_iload_n hx hb dX1_state_101 rfl (lv_at hl 0 rfl) ?_
      refine lv_if_eq (tgt := 121) hx hb dX1_state_102 (by decide) (fun c_102 => ?_) (fun c_102 => ?_)
      · refine lv_iload_n hx hb dX1_state_121 rfl (lv_at hl 0 rfl) ?_
        refine lv_if_ne (tgt := 130) hx hb dX1_state_122 (by decide) (fun z => absurd c_102 z) (fun _ => ?_)
        refine lv_bipush (v := (-2)) hx hb dX1_state_125 (by decide) ?_
        refine lv_goto (tgt := 131) hx hb dX1_state_127 (by decide) ?_
        exact gx_iret (wf := gw1_ cI cZ h q) (u1 := u) hx hb hr hlocks hsz hK hAe G dX1_state_131 (congrArg (fun z => (z, u)) (by rw [hf, if_pos c_102]))
      · refine lv_aload_n hx hb dX1_state_105 rfl (lv_at hl 2 rfl) ?_
        refine gg1_get (v := .ref (q 0)) hx hb hts hin hown hK G 0 (by decide) (index := 7) (by decide +kernel) rfl dX1_state_106 ?_
        refine lv_iload_n hx hb dX1_state_109 rfl (lv_at hl 1 rfl) ?_
        refine gg1_ld0 hx hb hK G (i := k) (vp_in_iff.mpr (by omega)) dX1_state_110 ?_
        refine lv_iload_n hx hb dX1_state_111 rfl (lv_at hl 0 rfl) ?_
        refine lv_icmp_eq (tgt := 121) hx hb dX1_state_112 (by decide) (fun c_112 => ?_) (fun c_112 => ?_)
        · refine lv_iload_n hx hb dX1_state_121 rfl (lv_at hl 0 rfl) ?_
          refine lv_if_ne (tgt := 130) hx hb dX1_state_122 (by decide) (fun _ => ?_) (fun z => absurd z c_102)
          refine lv_iload_n hx hb dX1_state_130 rfl (lv_at hl 1 rfl) ?_
          exact gx_iret (wf := gw1_ cI cZ h q) (u1 := u) hx hb hr hlocks hsz hK hAe G dX1_state_131 (congrArg (fun z => (z, u)) (by rw [hf, if_neg c_102, if_pos c_112]))
        · refine lv_iinc (v := k + 1) (lv' := [(2, .int (k + 1)), (3, .int (u.2 0 (ix (p0 - 5)))), (0, .ref h), (1, .int p0)]) hx hb dX1_state_115 hl (k := 1) rfl (congrArg (fun z => k + z) (by decide)) (by decide) rfl (fun ls hl => ?_)
          refine lv_goto (tgt := 101) hx hb dX1_state_118 (by decide) ?_
          have q6 : k.toInt ≠ (p0 - 5).toInt := fun z => c_112 (by rw [Int32.toInt_inj.mp z])
          have q5 := lh_toInt1 (i := k) (by omega) hk0
          exact ih (k + 1) (by omega) (by omega) (by omega) (by rw [hf, if_neg c_102, if_neg c_112]) H locs ls G (lv_sub hl [1, 0, 2, 3] rfl)
  refine lv_iload_n hx hb dX1_state_0 rfl (lv_at hl 1 rfl) ?_
  refine lv_if_ne (tgt := 9) hx hb dX1_state_1 (by decide) (fun c_1 => ?_) (fun c_1 => ?_)
  · refine lv_iload_n hx hb dX1_state_9 rfl (lv_at hl 1 rfl) ?_
    refine lv_iconst (v := 1) hx hb dX1_state_10 (by decide) ?_
    refine lv_icmp_ne (tgt := 19) hx hb dX1_state_11 (by decide) (fun c_11 => ?_) (fun c_11 => ?_)
    · refine lv_iload_n hx hb dX1_state_19 rfl (lv_at hl 1 rfl) ?_
      refine lv_iconst (v := 2) hx hb dX1_state_20 (by decide) ?_
      refine lv_icmp_ne (tgt := 29) hx hb dX1_state_21 (by decide) (fun c_21 => ?_) (fun c_21 => ?_)
      · refine lv_iload_n hx hb dX1_state_29 rfl (lv_at hl 1 rfl) ?_
        refine lv_iconst (v := 3) hx hb dX1_state_30 (by decide) ?_
        refine lv_icmp_ne (tgt := 47) hx hb dX1_state_31 (by decide) (fun c_31 => ?_) (fun c_31 => ?_)
        · refine lv_iload_n hx hb dX1_state_47 rfl (lv_at hl 1 rfl) ?_
          refine lv_bipush (v := 10) hx hb dX1_state_48 (by decide) ?_
          refine gx_calls (f := pm_in p0 10) (As := [.int p0, .int 10]) (rest := []) 2 hx hb hml hown hts (km_in l p0 10 ) gX1_state_X1_in rfl rfl rfl hd_X1_in ⟨Nat.le_of_ble_eq_true rfl, Nat.le_of_ble_eq_true rfl⟩ rfl hl.1 rfl (Nat.le_of_ble_eq_true rfl) dX1_state_50 (Nat.zero_le _) (Nat.zero_le _) ?_
          refine lv_if_ne (tgt := 58) hx hb dX1_state_53 (by decide) (fun c_53 => ?_) (fun c_53 => ?_)
          · refine lv_iconst (v := 0) hx hb dX1_state_58 (by decide) ?_
            refine lv_istore_n (lv' := [(2, .int 0), (0, .ref h), (1, .int p0)]) hx hb dX1_state_59 rfl hl (by decide) rfl (fun ls hl => ?_)
            refine lv_iload_n hx hb dX1_state_60 rfl (lv_at hl 2 rfl) ?_
            refine lv_iconst (v := 4) hx hb dX1_state_61 (by decide) ?_
            refine lv_icmp_ne (tgt := 92) hx hb dX1_state_62 (by decide) (fun c_62 => ?_) (fun c_62 => ?_)
            · refine lv_aload_n hx hb dX1_state_92 rfl (lv_at hl 1 rfl) ?_
              refine gg1_get (v := .ref (q 0)) hx hb hts hin hown hK G 0 (by decide) (index := 7) (by decide +kernel) rfl dX1_state_93 ?_
              refine lv_iload_n hx hb dX1_state_96 rfl (lv_at hl 2 rfl) ?_
              refine lv_iconst (v := 5) hx hb dX1_state_97 (by decide) ?_
              refine lv_isub hx hb dX1_state_98 ?_
              refine gg1_ld0 hx hb hK G (i := p0 - 5) (so_in c_1 c_11 c_21 c_31 c_62 c_53) dX1_state_99 ?_
              refine lv_istore_n (lv' := [(3, .int (u.2 0 (ix (p0 - 5)))), (2, .int 0), (0, .ref h), (1, .int p0)]) hx hb dX1_state_100 rfl hl (by decide) rfl (fun ls hl => ?_)
              have hso := so_in c_1 c_11 c_21 c_31 c_62 c_53
              exact loopB hso 6 0 (by simp) (by have z := vp_in_iff.mp hso; rw [Int32.toInt_zero]; omega) (by have z := vp_in_iff.mp hso; rw [Int32.toInt_zero]; omega) (by unfold pm_state; rw [if_neg c_1, if_neg c_11, if_neg c_21, if_neg c_31, if_neg c_53, if_neg c_62]) _ _ ls G (lv_sub hl [0, 1, 2, 3] rfl)
            · refine lv_iconst (v := 0) hx hb dX1_state_65 (by decide) ?_
              refine lv_istore_n (lv' := [(3, .int 0), (2, .int 0), (0, .ref h), (1, .int p0)]) hx hb dX1_state_66 rfl hl (by decide) rfl (fun ls hl => ?_)
              exact loopA 5 0 0 (by simp) (by simp) (by simp) (by unfold pm_state; rw [if_neg c_1, if_neg c_11, if_neg c_21, if_neg c_31, if_neg c_53, if_pos c_62]) _ _ ls G (lv_sub hl [0, 1, 2, 3] rfl)
          · refine lv_iconst (v := (-1)) hx hb dX1_state_56 (by decide) ?_
            exact gx_iret (wf := gw1_ cI cZ h q) (u1 := u) hx hb hr hlocks hsz hK hAe G dX1_state_57 (congrArg (fun z => (z, u)) (by unfold pm_state; rw [if_neg c_1, if_neg c_11, if_neg c_21, if_neg c_31, if_pos c_53]))
        · refine lv_aload_n hx hb dX1_state_34 rfl (lv_at hl 0 rfl) ?_
          refine gg1_get (v := .int (u.1 5)) hx hb hts hin hown hK G 5 (by decide) (index := 61) (by decide +kernel) rfl dX1_state_35 ?_
          refine lv_if_eq (tgt := 45) hx hb dX1_state_38 (by decide) (fun c_38 => ?_) (fun c_38 => ?_)
          · refine lv_iconst (v := 0) hx hb dX1_state_45 (by decide) ?_
            exact gx_iret (wf := gw1_ cI cZ h q) (u1 := u) hx hb hr hlocks hsz hK hAe G dX1_state_46 (congrArg (fun z => (z, u)) (by unfold pm_state; rw [if_neg c_1, if_neg c_11, if_neg c_21, if_pos c_31, if_pos c_38]))
          · refine lv_iconst (v := 1) hx hb dX1_state_41 (by decide) ?_
            refine lv_goto (tgt := 46) hx hb dX1_state_42 (by decide) ?_
            exact gx_iret (wf := gw1_ cI cZ h q) (u1 := u) hx hb hr hlocks hsz hK hAe G dX1_state_46 (congrArg (fun z => (z, u)) (by unfold pm_state; rw [if_neg c_1, if_neg c_11, if_neg c_21, if_pos c_31, if_neg c_38]))
      · refine lv_aload_n hx hb dX1_state_24 rfl (lv_at hl 0 rfl) ?_
        refine gg1_get (v := .int (u.1 4)) hx hb hts hin hown hK G 4 (by decide) (index := 72) (by decide +kernel) rfl dX1_state_25 ?_
        exact gx_iret (wf := gw1_ cI cZ h q) (u1 := u) hx hb hr hlocks hsz hK hAe G dX1_state_28 (congrArg (fun z => (z, u)) (by unfold pm_state; rw [if_neg c_1, if_neg c_11, if_pos c_21]))
    · refine lv_aload_n hx hb dX1_state_14 rfl (lv_at hl 0 rfl) ?_
      refine gg1_get (v := .int (u.1 9)) hx hb hts hin hown hK G 9 (by decide) (index := 43) (by decide +kernel) rfl dX1_state_15 ?_
      exact gx_iret (wf := gw1_ cI cZ h q) (u1 := u) hx hb hr hlocks hsz hK hAe G dX1_state_18 (congrArg (fun z => (z, u)) (by unfold pm_state; rw [if_neg c_1, if_pos c_11]))
  · refine lv_aload_n hx hb dX1_state_4 rfl (lv_at hl 0 rfl) ?_
    refine gg1_get (v := .int (u.1 8)) hx hb hts hin hown hK G 8 (by decide) (index := 40) (by decide +kernel) rfl dX1_state_5 ?_
    exact gx_iret (wf := gw1_ cI cZ h q) (u1 := u) hx hb hr hlocks hsz hK hAe G dX1_state_8 (congrArg (fun z => (z, u)) (by unfold pm_state; rw [if_pos c_1]))
theorem hd_X1_state : yX1_state.cls = RX1 ∧ yX1_state.cls ≠ "java/lang/invoke/MethodHandle" ∧ yX1_state.cls ≠ "java/lang/invoke/VarHandle" ∧ (parseMethodDescriptor yX1_state.desc).map (fun d => d.parameters.length) = some 1 := by decide +kernel
end
section
/-! the two constructors -/
theorem ty_u {D : va_G} {cl : List vw_C} {tys : List (ClassId × FieldType)} {s : State} (hK : va_K D cl tys s) {i j : Nat} {c1 c2 : ClassId} {ty : FieldType} (hi : tys[i]? = some (c1, ty)) (hj : tys[j]? = some (c2, ty)) (hty : ty = .int ∨ ty = .boolean) : c1 = c2 := by
  have h1 := (hK.2 i _ hi).2
  have h2 := (hK.2 j _ hj).2
  rcases hty with rfl | rfl
  · exact Option.some.inj (Eq.trans (Eq.symm (show s.vm.findClass _ = some c1 from h1)) (show s.vm.findClass _ = some c2 from h2))
  · exact Option.some.inj (Eq.trans (Eq.symm (show s.vm.findClass _ = some c1 from h1)) (show s.vm.findClass _ = some c2 from h2))
def pd_zero : st_T := (fun k => if k = 11 then -1 else 0, fun _ _ => 0)
def pd_init : st_T := st_sf pd_zero 12 (pj_fill 24 (-9) (pd_zero.2 12))
def pm_zero : st_T := (fun _ => 0, fun _ _ => 0)
def pm_init : st_T := st_sf pm_zero 10 (pj_fill 24 (-9) (pm_zero.2 10))
def gn0_ (h : Nat) : va_W := [(h, .inr (0, [.null, .int 0, .null, .int 0, .int 0, .null, .null, .null, .null, .int 0, .int 0, .int 0, .null, .int 0, .null, .int 0, .int 0]))]
set_option maxHeartbeats 4000000 in
set_option maxRecDepth 100000 in
theorem kd_init (l : Launch) (dC : Nat → ClassId) (dI : Nat → Nat → Nat) (h sz : Nat) : Met l yX0_init wsX0_init { frames := 1, cells := 8, slots := 134, locals := 23 } (va_Pc [.ref h] (fun U => U.heap.size = sz ∧ va_P (dC, dI) vwCl (gn0_ h) U.heap ∧ va_K (dC, dI) vwCl [] U ∧ va_D (fun _ => True) (gn0_ h))) (va_Qv (fun _ : Unit => True) (fun (_ : Unit) t => ∃ (cI cZ : ClassId) (q : Nat → Nat), va_P (dC, dI) vwCl (gw0_ cI cZ h q pd_init) t.heap ∧ va_K (dC, dI) vwCl (ty_IZ cI cZ) t ∧ va_D (va_A (gn0_ h) sz) (gw0_ cI cZ h q pd_init)) (va_A (gn0_ h) sz)) 8 134 (va_A (gn0_ h) sz) := by
  refine Met.ofW (cc := cX0_init) (maxL := 1) (ret := none) (by decide) rfl ?_
  intro p e s m args below meth c s₁ B hml hv
  obtain ⟨rfl, hsz, hP, hK, hD0⟩ := hv
  have hx := B.exec
  have hb := B.bytes
  have hr := B.returns
  have hts := atoms_spec (ws := wsX0_init) B.pre
  have hown : s.vm.findClass RX0 = some m.cls := findClass_of_methodNamed B.named
  have hlocks := B.notSynchronized
  have hin : meth.name = "<init>" := (name_of_methodNamed B.named B.method).1
  have hin0 : ∀ w ∈ wsX00, w ∈ wsX0_init := gx_in
  subst hsz
  have hD := hD0.self (sz := s.heap.size)
  generalize hAe : va_A (gn0_ h) s.heap.size = A at hD ⊢
  have hA : ∀ q : Nat, s.heap.size ≤ q → A q := fun q h => by rw [← hAe]; exact Or.inr h
  have hS : va_S A s.heap s.heap [] := va_S.rf
  have hl := lv_entry ([.ref h]) (n := 1) (Nat.le_of_ble_eq_true rfl)
  rw [lg_entry_eq]
  generalize (lg_sl ([.ref h]) ++ List.replicate (1 - (lg_sl ([.ref h])).length) Slot.unset).toArray = ls at hl ⊢
  have hl : lv_has ls 1 [(0, .ref h)] := hl
  have hP : va_P (dC, dI) vwCl [(h, .inr (0, [.null, .int 0, .null, .int 0, .int 0, .null, .null, .null, .null, .int 0, .int 0, .int 0, .null, .int 0, .null, .int 0, .int 0]))] s.heap := hP
  have hD : va_D A [(h, .inr (0, [.null, .int 0, .null, .int 0, .int 0, .null, .null, .null, .null, .int 0, .int 0, .int 0, .null, .int 0, .null, .int 0, .int 0]))] := hD
  refine lv_aload_n hx hb dX0_init_0 rfl (lv_at hl 0 rfl) ?_
  refine W.objInit hx hb hown (hts (.methodLink RX0 1 objectInit) (by decide +kernel)) (hts (.instanceMethod objectInit) (by decide +kernel)) (hts (.code objectInit ⟨#[0xb1]⟩ 1 none) (by decide +kernel)) rfl (by rw [hml]; exact hl.1) rfl dX0_init_1 (Nat.le_of_ble_eq_true rfl) (Nat.le_of_ble_eq_true rfl) ?_
  refine W.eq (g2 := F0 m 4 ls []) rfl ?_
  refine lv_aload_n hx hb dX0_init_4 rfl (lv_at hl 0 rfl) ?_
  refine lv_iconst (v := 5) hx hb dX0_init_5 (by decide) ?_
  refine va_newa (atype := .int) (ty := .int) (N' := 5) (a0 := (5, .inl (fun _ => 0))) hx hb (hts (.arrayClass .int) (by decide +kernel)) rfl hK hP hD hS hA (fun _ => rfl) (by decide) (by decide) (Nat.le_of_ble_eq_true rfl) (Nat.le_of_ble_eq_true rfl) (Nat.le_of_ble_eq_true rfl) dX0_init_6 (fun q0 cI H hK hP hD hS => ?_)
  refine W.widen (k := 1) (n := 5) (Nat.le_of_ble_eq_true rfl) (Nat.le_of_ble_eq_true rfl) ?_
  have hK : va_K (dC, dI) vwCl [(cI, .int)] s := hK.sub [0] rfl
  have hP : va_P (dC, dI) vwCl [(h, .inr (0, [.null, .int 0, .null, .int 0, .int 0, .null, .null, .null, .null, .int 0, .int 0, .int 0, .null, .int 0, .null, .int 0, .int 0])), (q0, .inl (cI, 5, .inl (fun _ => 0)))] H := hP
  have hD : va_D A [(h, .inr (0, [.null, .int 0, .null, .int 0, .int 0, .null, .null, .null, .null, .int 0, .int 0, .int 0, .null, .int 0, .null, .int 0, .int 0])), (q0, .inl (cI, 5, .inl (fun _ => 0)))] := hD
  refine va_putF (D := (dC, dI)) (ci := 0) (v := .ref q0) (ty := (.array .int)) (C := RX0) (T := TX0) (N := 17) hx hb hts hin0 tyX0 tyX0_ok nmX0 hown hK hP hD hS 0 rfl rfl 0 (by decide) (hts (.fieldLink RX0 9 "MonitorDesk" "locks" "[I") (by decide +kernel)) (fun _ h9 => h9) rfl hin rfl (by decide +kernel) rfl rfl (Nat.le_of_ble_eq_true rfl) dX0_init_8 (fun H locs hP hD hS => ?_)
  have hP : va_P (dC, dI) vwCl [(h, .inr (0, [.ref q0, .int 0, .null, .int 0, .int 0, .null, .null, .null, .null, .int 0, .int 0, .int 0, .null, .int 0, .null, .int 0, .int 0])), (q0, .inl (cI, 5, .inl (fun _ => 0)))] H := hP
  have hD : va_D A [(h, .inr (0, [.ref q0, .int 0, .null, .int 0, .int 0, .null, .null, .null, .null, .int 0, .int 0, .int 0, .null, .int 0, .null, .int 0, .int 0])), (q0, .inl (cI, 5, .inl (fun _ => 0)))] := hD
  refine lv_aload_n hx hb dX0_init_11 rfl (lv_at hl 0 rfl) ?_
  refine lv_iconst (v := 0) hx hb dX0_init_12 (by decide) ?_
  refine va_put (D := (dC, dI)) (ci := 0) (v := .int 0) (ty := .int) (C := RX0) (T := TX0) (N := 17) hx hb hts hin0 tyX0 tyX0_ok nmX0 hown hK hP hD hS 0 rfl rfl 1 (by decide) (hts (.fieldLink RX0 13 "MonitorDesk" "locksMade" "I") (by decide +kernel)) (fun _ h9 => h9) rfl (by decide +kernel) rfl rfl (Nat.le_of_ble_eq_true rfl) dX0_init_13 (fun H locs hP hD hS => ?_)
  have hP : va_P (dC, dI) vwCl [(h, .inr (0, [.ref q0, .int 0, .null, .int 0, .int 0, .null, .null, .null, .null, .int 0, .int 0, .int 0, .null, .int 0, .null, .int 0, .int 0])), (q0, .inl (cI, 5, .inl (fun _ => 0)))] H := hP
  have hD : va_D A [(h, .inr (0, [.ref q0, .int 0, .null, .int 0, .int 0, .null, .null, .null, .null, .int 0, .int 0, .int 0, .null, .int 0, .null, .int 0, .int 0])), (q0, .inl (cI, 5, .inl (fun _ => 0)))] := hD
  refine lv_aload_n hx hb dX0_init_16 rfl (lv_at hl 0 rfl) ?_
  refine lv_iconst (v := 4) hx hb dX0_init_17 (by decide) ?_
  refine va_newa (atype := .boolean) (ty := .boolean) (N' := 4) (a0 := (4, .inl (fun _ => 0))) hx hb (hts (.arrayClass .boolean) (by decide +kernel)) rfl hK hP hD hS hA (fun _ => rfl) (by decide) (by decide) (Nat.le_of_ble_eq_true rfl) (Nat.le_of_ble_eq_true rfl) (Nat.le_of_ble_eq_true rfl) dX0_init_18 (fun q2 cZ H hK hP hD hS => ?_)
  refine W.widen (k := 2) (n := 9) (Nat.le_of_ble_eq_true rfl) (Nat.le_of_ble_eq_true rfl) ?_
  have hK : va_K (dC, dI) vwCl [(cI, .int), (cZ, .boolean)] s := hK.sub [0, 1] rfl
  have hP : va_P (dC, dI) vwCl [(h, .inr (0, [.ref q0, .int 0, .null, .int 0, .int 0, .null, .null, .null, .null, .int 0, .int 0, .int 0, .null, .int 0, .null, .int 0, .int 0])), (q0, .inl (cI, 5, .inl (fun _ => 0))), (q2, .inl (cZ, 4, .inl (fun _ => 0)))] H := hP
  have hD : va_D A [(h, .inr (0, [.ref q0, .int 0, .null, .int 0, .int 0, .null, .null, .null, .null, .int 0, .int 0, .int 0, .null, .int 0, .null, .int 0, .int 0])), (q0, .inl (cI, 5, .inl (fun _ => 0))), (q2, .inl (cZ, 4, .inl (fun _ => 0)))] := hD
  refine va_putF (D := (dC, dI)) (ci := 0) (v := .ref q2) (ty := (.array .boolean)) (C := RX0) (T := TX0) (N := 17) hx hb hts hin0 tyX0 tyX0_ok nmX0 hown hK hP hD hS 0 rfl rfl 2 (by decide) (hts (.fieldLink RX0 17 "MonitorDesk" "ended" "[Z") (by decide +kernel)) (fun _ h9 => h9) rfl hin rfl (by decide +kernel) rfl rfl (Nat.le_of_ble_eq_true rfl) dX0_init_20 (fun H locs hP hD hS => ?_)
  have hP : va_P (dC, dI) vwCl [(h, .inr (0, [.ref q0, .int 0, .ref q2, .int 0, .int 0, .null, .null, .null, .null, .int 0, .int 0, .int 0, .null, .int 0, .null, .int 0, .int 0])), (q0, .inl (cI, 5, .inl (fun _ => 0))), (q2, .inl (cZ, 4, .inl (fun _ => 0)))] H := hP
  have hD : va_D A [(h, .inr (0, [.ref q0, .int 0, .ref q2, .int 0, .int 0, .null, .null, .null, .null, .int 0, .int 0, .int 0, .null, .int 0, .null, .int 0, .int 0])), (q0, .inl (cI, 5, .inl (fun _ => 0))), (q2, .inl (cZ, 4, .inl (fun _ => 0)))] := hD
  refine lv_aload_n hx hb dX0_init_23 rfl (lv_at hl 0 rfl) ?_
  refine lv_iconst (v := 0) hx hb dX0_init_24 (by decide) ?_
  refine va_put (D := (dC, dI)) (ci := 0) (v := .int 0) (ty := .int) (C := RX0) (T := TX0) (N := 17) hx hb hts hin0 tyX0 tyX0_ok nmX0 hown hK hP hD hS 0 rfl rfl 3 (by decide) (hts (.fieldLink RX0 21 "MonitorDesk" "total" "I") (by decide +kernel)) (fun _ h9 => h9) rfl (by decide +kernel) rfl rfl (Nat.le_of_ble_eq_true rfl) dX0_init_25 (fun H locs hP hD hS => ?_)
  have hP : va_P (dC, dI) vwCl [(h, .inr (0, [.ref q0, .int 0, .ref q2, .int 0, .int 0, .null, .null, .null, .null, .int 0, .int 0, .int 0, .null, .int 0, .null, .int 0, .int 0])), (q0, .inl (cI, 5, .inl (fun _ => 0))), (q2, .inl (cZ, 4, .inl (fun _ => 0)))] H := hP
  have hD : va_D A [(h, .inr (0, [.ref q0, .int 0, .ref q2, .int 0, .int 0, .null, .null, .null, .null, .int 0, .int 0, .int 0, .null, .int 0, .null, .int 0, .int 0])), (q0, .inl (cI, 5, .inl (fun _ => 0))), (q2, .inl (cZ, 4, .inl (fun _ => 0)))] := hD
  refine lv_aload_n hx hb dX0_init_28 rfl (lv_at hl 0 rfl) ?_
  refine lv_iconst (v := 0) hx hb dX0_init_29 (by decide) ?_
  refine va_put (D := (dC, dI)) (ci := 0) (v := .int 0) (ty := .boolean) (C := RX0) (T := TX0) (N := 17) hx hb hts hin0 tyX0 tyX0_ok nmX0 hown hK hP hD hS 0 rfl rfl 4 (by decide) (hts (.fieldLink RX0 24 "MonitorDesk" "flag" "Z") (by decide +kernel)) (fun _ h9 => h9) rfl (by decide +kernel) rfl rfl (Nat.le_of_ble_eq_true rfl) dX0_init_30 (fun H locs hP hD hS => ?_)
  have hP : va_P (dC, dI) vwCl [(h, .inr (0, [.ref q0, .int 0, .ref q2, .int 0, .int 0, .null, .null, .null, .null, .int 0, .int 0, .int 0, .null, .int 0, .null, .int 0, .int 0])), (q0, .inl (cI, 5, .inl (fun _ => 0))), (q2, .inl (cZ, 4, .inl (fun _ => 0)))] H := hP
  have hD : va_D A [(h, .inr (0, [.ref q0, .int 0, .ref q2, .int 0, .int 0, .null, .null, .null, .null, .int 0, .int 0, .int 0, .null, .int 0, .null, .int 0, .int 0])), (q0, .inl (cI, 5, .inl (fun _ => 0))), (q2, .inl (cZ, 4, .inl (fun _ => 0)))] := hD
  refine lv_aload_n hx hb dX0_init_33 rfl (lv_at hl 0 rfl) ?_
  refine lv_bipush (v := 24) hx hb dX0_init_34 (by decide) ?_
  refine va_newa (atype := .int) (ty := .int) (N' := 24) (a0 := (24, .inl (fun _ => 0))) hx hb (hts (.arrayClass .int) (by decide +kernel)) rfl hK hP hD hS hA (fun _ => rfl) (by decide) (by decide) (Nat.le_of_ble_eq_true rfl) (Nat.le_of_ble_eq_true rfl) (Nat.le_of_ble_eq_true rfl) dX0_init_36 (fun q5 c5 H hK hP hD hS => ?_)
  refine W.widen (k := 3) (n := 33) (Nat.le_of_ble_eq_true rfl) (Nat.le_of_ble_eq_true rfl) ?_
  obtain rfl : cI = c5 := ty_u hK (i := 0) (j := 2) rfl rfl (Or.inl rfl)
  have hK : va_K (dC, dI) vwCl [(cI, .int), (cZ, .boolean)] s := hK.sub [0, 1] rfl
  have hP : va_P (dC, dI) vwCl [(h, .inr (0, [.ref q0, .int 0, .ref q2, .int 0, .int 0, .null, .null, .null, .null, .int 0, .int 0, .int 0, .null, .int 0, .null, .int 0, .int 0])), (q0, .inl (cI, 5, .inl (fun _ => 0))), (q2, .inl (cZ, 4, .inl (fun _ => 0))), (q5, .inl (cI, 24, .inl (fun _ => 0)))] H := hP
  have hD : va_D A [(h, .inr (0, [.ref q0, .int 0, .ref q2, .int 0, .int 0, .null, .null, .null, .null, .int 0, .int 0, .int 0, .null, .int 0, .null, .int 0, .int 0])), (q0, .inl (cI, 5, .inl (fun _ => 0))), (q2, .inl (cZ, 4, .inl (fun _ => 0))), (q5, .inl (cI, 24, .inl (fun _ => 0)))] := hD
  refine va_putF (D := (dC, dI)) (ci := 0) (v := .ref q5) (ty := (.array .int)) (C := RX0) (T := TX0) (N := 17) hx hb hts hin0 tyX0 tyX0_ok nmX0 hown hK hP hD hS 0 rfl rfl 5 (by decide) (hts (.fieldLink RX0 28 "MonitorDesk" "operations" "[I") (by decide +kernel)) (fun _ h9 => h9) rfl hin rfl (by decide +kernel) rfl rfl (Nat.le_of_ble_eq_true rfl) dX0_init_38 (fun H locs hP hD hS => ?_)
  have hP : va_P (dC, dI) vwCl [(h, .inr (0, [.ref q0, .int 0, .ref q2, .int 0, .int 0, .ref q5, .null, .null, .null, .int 0, .int 0, .int 0, .null, .int 0, .null, .int 0, .int 0])), (q0, .inl (cI, 5, .inl (fun _ => 0))), (q2, .inl (cZ, 4, .inl (fun _ => 0))), (q5, .inl (cI, 24, .inl (fun _ => 0)))] H := hP
  have hD : va_D A [(h, .inr (0, [.ref q0, .int 0, .ref q2, .int 0, .int 0, .ref q5, .null, .null, .null, .int 0, .int 0, .int 0, .null, .int 0, .null, .int 0, .int 0])), (q0, .inl (cI, 5, .inl (fun _ => 0))), (q2, .inl (cZ, 4, .inl (fun _ => 0))), (q5, .inl (cI, 24, .inl (fun _ => 0)))] := hD
  refine lv_aload_n hx hb dX0_init_41 rfl (lv_at hl 0 rfl) ?_
  refine lv_bipush (v := 24) hx hb dX0_init_42 (by decide) ?_
  refine va_newa (atype := .int) (ty := .int) (N' := 24) (a0 := (24, .inl (fun _ => 0))) hx hb (hts (.arrayClass .int) (by decide +kernel)) rfl hK hP hD hS hA (fun _ => rfl) (by decide) (by decide) (Nat.le_of_ble_eq_true rfl) (Nat.le_of_ble_eq_true rfl) (Nat.le_of_ble_eq_true rfl) dX0_init_44 (fun q6 c6 H hK hP hD hS => ?_)
  refine W.widen (k := 4) (n := 57) (Nat.le_of_ble_eq_true rfl) (Nat.le_of_ble_eq_true rfl) ?_
  obtain rfl : cI = c6 := ty_u hK (i := 0) (j := 2) rfl rfl (Or.inl rfl)
  have hK : va_K (dC, dI) vwCl [(cI, .int), (cZ, .boolean)] s := hK.sub [0, 1] rfl
  have hP : va_P (dC, dI) vwCl [(h, .inr (0, [.ref q0, .int 0, .ref q2, .int 0, .int 0, .ref q5, .null, .null, .null, .int 0, .int 0, .int 0, .null, .int 0, .null, .int 0, .int 0])), (q0, .inl (cI, 5, .inl (fun _ => 0))), (q2, .inl (cZ, 4, .inl (fun _ => 0))), (q5, .inl (cI, 24, .inl (fun _ => 0))), (q6, .inl (cI, 24, .inl (fun _ => 0)))] H := hP
  have hD : va_D A [(h, .inr (0, [.ref q0, .int 0, .ref q2, .int 0, .int 0, .ref q5, .null, .null, .null, .int 0, .int 0, .int 0, .null, .int 0, .null, .int 0, .int 0])), (q0, .inl (cI, 5, .inl (fun _ => 0))), (q2, .inl (cZ, 4, .inl (fun _ => 0))), (q5, .inl (cI, 24, .inl (fun _ => 0))), (q6, .inl (cI, 24, .inl (fun _ => 0)))] := hD
  refine va_putF (D := (dC, dI)) (ci := 0) (v := .ref q6) (ty := (.array .int)) (C := RX0) (T := TX0) (N := 17) hx hb hts hin0 tyX0 tyX0_ok nmX0 hown hK hP hD hS 0 rfl rfl 6 (by decide) (hts (.fieldLink RX0 31 "MonitorDesk" "arguments" "[I") (by decide +kernel)) (fun _ h9 => h9) rfl hin rfl (by decide +kernel) rfl rfl (Nat.le_of_ble_eq_true rfl) dX0_init_46 (fun H locs hP hD hS => ?_)
  have hP : va_P (dC, dI) vwCl [(h, .inr (0, [.ref q0, .int 0, .ref q2, .int 0, .int 0, .ref q5, .ref q6, .null, .null, .int 0, .int 0, .int 0, .null, .int 0, .null, .int 0, .int 0])), (q0, .inl (cI, 5, .inl (fun _ => 0))), (q2, .inl (cZ, 4, .inl (fun _ => 0))), (q5, .inl (cI, 24, .inl (fun _ => 0))), (q6, .inl (cI, 24, .inl (fun _ => 0)))] H := hP
  have hD : va_D A [(h, .inr (0, [.ref q0, .int 0, .ref q2, .int 0, .int 0, .ref q5, .ref q6, .null, .null, .int 0, .int 0, .int 0, .null, .int 0, .null, .int 0, .int 0])), (q0, .inl (cI, 5, .inl (fun _ => 0))), (q2, .inl (cZ, 4, .inl (fun _ => 0))), (q5, .inl (cI, 24, .inl (fun _ => 0))), (q6, .inl (cI, 24, .inl (fun _ => 0)))] := hD
  refine lv_aload_n hx hb dX0_init_49 rfl (lv_at hl 0 rfl) ?_
  refine lv_bipush (v := 24) hx hb dX0_init_50 (by decide) ?_
  refine va_newa (atype := .int) (ty := .int) (N' := 24) (a0 := (24, .inl (fun _ => 0))) hx hb (hts (.arrayClass .int) (by decide +kernel)) rfl hK hP hD hS hA (fun _ => rfl) (by decide) (by decide) (Nat.le_of_ble_eq_true rfl) (Nat.le_of_ble_eq_true rfl) (Nat.le_of_ble_eq_true rfl) dX0_init_52 (fun q7 c7 H hK hP hD hS => ?_)
  refine W.widen (k := 5) (n := 81) (Nat.le_of_ble_eq_true rfl) (Nat.le_of_ble_eq_true rfl) ?_
  obtain rfl : cI = c7 := ty_u hK (i := 0) (j := 2) rfl rfl (Or.inl rfl)
  have hK : va_K (dC, dI) vwCl [(cI, .int), (cZ, .boolean)] s := hK.sub [0, 1] rfl
  have hP : va_P (dC, dI) vwCl [(h, .inr (0, [.ref q0, .int 0, .ref q2, .int 0, .int 0, .ref q5, .ref q6, .null, .null, .int 0, .int 0, .int 0, .null, .int 0, .null, .int 0, .int 0])), (q0, .inl (cI, 5, .inl (fun _ => 0))), (q2, .inl (cZ, 4, .inl (fun _ => 0))), (q5, .inl (cI, 24, .inl (fun _ => 0))), (q6, .inl (cI, 24, .inl (fun _ => 0))), (q7, .inl (cI, 24, .inl (fun _ => 0)))] H := hP
  have hD : va_D A [(h, .inr (0, [.ref q0, .int 0, .ref q2, .int 0, .int 0, .ref q5, .ref q6, .null, .null, .int 0, .int 0, .int 0, .null, .int 0, .null, .int 0, .int 0])), (q0, .inl (cI, 5, .inl (fun _ => 0))), (q2, .inl (cZ, 4, .inl (fun _ => 0))), (q5, .inl (cI, 24, .inl (fun _ => 0))), (q6, .inl (cI, 24, .inl (fun _ => 0))), (q7, .inl (cI, 24, .inl (fun _ => 0)))] := hD
  refine va_putF (D := (dC, dI)) (ci := 0) (v := .ref q7) (ty := (.array .int)) (C := RX0) (T := TX0) (N := 17) hx hb hts hin0 tyX0 tyX0_ok nmX0 hown hK hP hD hS 0 rfl rfl 7 (by decide) (hts (.fieldLink RX0 34 "MonitorDesk" "around" "[I") (by decide +kernel)) (fun _ h9 => h9) rfl hin rfl (by decide +kernel) rfl rfl (Nat.le_of_ble_eq_true rfl) dX0_init_54 (fun H locs hP hD hS => ?_)
  have hP : va_P (dC, dI) vwCl [(h, .inr (0, [.ref q0, .int 0, .ref q2, .int 0, .int 0, .ref q5, .ref q6, .ref q7, .null, .int 0, .int 0, .int 0, .null, .int 0, .null, .int 0, .int 0])), (q0, .inl (cI, 5, .inl (fun _ => 0))), (q2, .inl (cZ, 4, .inl (fun _ => 0))), (q5, .inl (cI, 24, .inl (fun _ => 0))), (q6, .inl (cI, 24, .inl (fun _ => 0))), (q7, .inl (cI, 24, .inl (fun _ => 0)))] H := hP
  have hD : va_D A [(h, .inr (0, [.ref q0, .int 0, .ref q2, .int 0, .int 0, .ref q5, .ref q6, .ref q7, .null, .int 0, .int 0, .int 0, .null, .int 0, .null, .int 0, .int 0])), (q0, .inl (cI, 5, .inl (fun _ => 0))), (q2, .inl (cZ, 4, .inl (fun _ => 0))), (q5, .inl (cI, 24, .inl (fun _ => 0))), (q6, .inl (cI, 24, .inl (fun _ => 0))), (q7, .inl (cI, 24, .inl (fun _ => 0)))] := hD
  refine lv_aload_n hx hb dX0_init_57 rfl (lv_at hl 0 rfl) ?_
  refine lv_bipush (v := 24) hx hb dX0_init_58 (by decide) ?_
  refine va_newa (atype := .int) (ty := .int) (N' := 24) (a0 := (24, .inl (fun _ => 0))) hx hb (hts (.arrayClass .int) (by decide +kernel)) rfl hK hP hD hS hA (fun _ => rfl) (by decide) (by decide) (Nat.le_of_ble_eq_true rfl) (Nat.le_of_ble_eq_true rfl) (Nat.le_of_ble_eq_true rfl) dX0_init_60 (fun q8 c8 H hK hP hD hS => ?_)
  refine W.widen (k := 6) (n := 105) (Nat.le_of_ble_eq_true rfl) (Nat.le_of_ble_eq_true rfl) ?_
  obtain rfl : cI = c8 := ty_u hK (i := 0) (j := 2) rfl rfl (Or.inl rfl)
  have hK : va_K (dC, dI) vwCl [(cI, .int), (cZ, .boolean)] s := hK.sub [0, 1] rfl
  have hP : va_P (dC, dI) vwCl [(h, .inr (0, [.ref q0, .int 0, .ref q2, .int 0, .int 0, .ref q5, .ref q6, .ref q7, .null, .int 0, .int 0, .int 0, .null, .int 0, .null, .int 0, .int 0])), (q0, .inl (cI, 5, .inl (fun _ => 0))), (q2, .inl (cZ, 4, .inl (fun _ => 0))), (q5, .inl (cI, 24, .inl (fun _ => 0))), (q6, .inl (cI, 24, .inl (fun _ => 0))), (q7, .inl (cI, 24, .inl (fun _ => 0))), (q8, .inl (cI, 24, .inl (fun _ => 0)))] H := hP
  have hD : va_D A [(h, .inr (0, [.ref q0, .int 0, .ref q2, .int 0, .int 0, .ref q5, .ref q6, .ref q7, .null, .int 0, .int 0, .int 0, .null, .int 0, .null, .int 0, .int 0])), (q0, .inl (cI, 5, .inl (fun _ => 0))), (q2, .inl (cZ, 4, .inl (fun _ => 0))), (q5, .inl (cI, 24, .inl (fun _ => 0))), (q6, .inl (cI, 24, .inl (fun _ => 0))), (q7, .inl (cI, 24, .inl (fun _ => 0))), (q8, .inl (cI, 24, .inl (fun _ => 0)))] := hD
  refine va_putF (D := (dC, dI)) (ci := 0) (v := .ref q8) (ty := (.array .int)) (C := RX0) (T := TX0) (N := 17) hx hb hts hin0 tyX0 tyX0_ok nmX0 hown hK hP hD hS 0 rfl rfl 8 (by decide) (hts (.fieldLink RX0 37 "MonitorDesk" "ends" "[I") (by decide +kernel)) (fun _ h9 => h9) rfl hin rfl (by decide +kernel) rfl rfl (Nat.le_of_ble_eq_true rfl) dX0_init_62 (fun H locs hP hD hS => ?_)
  have hP : va_P (dC, dI) vwCl [(h, .inr (0, [.ref q0, .int 0, .ref q2, .int 0, .int 0, .ref q5, .ref q6, .ref q7, .ref q8, .int 0, .int 0, .int 0, .null, .int 0, .null, .int 0, .int 0])), (q0, .inl (cI, 5, .inl (fun _ => 0))), (q2, .inl (cZ, 4, .inl (fun _ => 0))), (q5, .inl (cI, 24, .inl (fun _ => 0))), (q6, .inl (cI, 24, .inl (fun _ => 0))), (q7, .inl (cI, 24, .inl (fun _ => 0))), (q8, .inl (cI, 24, .inl (fun _ => 0)))] H := hP
  have hD : va_D A [(h, .inr (0, [.ref q0, .int 0, .ref q2, .int 0, .int 0, .ref q5, .ref q6, .ref q7, .ref q8, .int 0, .int 0, .int 0, .null, .int 0, .null, .int 0, .int 0])), (q0, .inl (cI, 5, .inl (fun _ => 0))), (q2, .inl (cZ, 4, .inl (fun _ => 0))), (q5, .inl (cI, 24, .inl (fun _ => 0))), (q6, .inl (cI, 24, .inl (fun _ => 0))), (q7, .inl (cI, 24, .inl (fun _ => 0))), (q8, .inl (cI, 24, .inl (fun _ => 0)))] := hD
  refine lv_aload_n hx hb dX0_init_65 rfl (lv_at hl 0 rfl) ?_
  refine lv_iconst (v := 0) hx hb dX0_init_66 (by decide) ?_
  refine va_put (D := (dC, dI)) (ci := 0) (v := .int 0) (ty := .int) (C := RX0) (T := TX0) (N := 17) hx hb hts hin0 tyX0 tyX0_ok nmX0 hown hK hP hD hS 0 rfl rfl 9 (by decide) (hts (.fieldLink RX0 40 "MonitorDesk" "stepCount" "I") (by decide +kernel)) (fun _ h9 => h9) rfl (by decide +kernel) rfl rfl (Nat.le_of_ble_eq_true rfl) dX0_init_67 (fun H locs hP hD hS => ?_)
  have hP : va_P (dC, dI) vwCl [(h, .inr (0, [.ref q0, .int 0, .ref q2, .int 0, .int 0, .ref q5, .ref q6, .ref q7, .ref q8, .int 0, .int 0, .int 0, .null, .int 0, .null, .int 0, .int 0])), (q0, .inl (cI, 5, .inl (fun _ => 0))), (q2, .inl (cZ, 4, .inl (fun _ => 0))), (q5, .inl (cI, 24, .inl (fun _ => 0))), (q6, .inl (cI, 24, .inl (fun _ => 0))), (q7, .inl (cI, 24, .inl (fun _ => 0))), (q8, .inl (cI, 24, .inl (fun _ => 0)))] H := hP
  have hD : va_D A [(h, .inr (0, [.ref q0, .int 0, .ref q2, .int 0, .int 0, .ref q5, .ref q6, .ref q7, .ref q8, .int 0, .int 0, .int 0, .null, .int 0, .null, .int 0, .int 0])), (q0, .inl (cI, 5, .inl (fun _ => 0))), (q2, .inl (cZ, 4, .inl (fun _ => 0))), (q5, .inl (cI, 24, .inl (fun _ => 0))), (q6, .inl (cI, 24, .inl (fun _ => 0))), (q7, .inl (cI, 24, .inl (fun _ => 0))), (q8, .inl (cI, 24, .inl (fun _ => 0)))] := hD
  refine lv_aload_n hx hb dX0_init_70 rfl (lv_at hl 0 rfl) ?_
  refine lv_iconst (v := 0) hx hb dX0_init_71 (by decide) ?_
  refine va_put (D := (dC, dI)) (ci := 0) (v := .int 0) (ty := .int) (C := RX0) (T := TX0) (N := 17) hx hb hts hin0 tyX0 tyX0_ok nmX0 hown hK hP hD hS 0 rfl rfl 10 (by decide) (hts (.fieldLink RX0 43 "MonitorDesk" "openCount" "I") (by decide +kernel)) (fun _ h9 => h9) rfl (by decide +kernel) rfl rfl (Nat.le_of_ble_eq_true rfl) dX0_init_72 (fun H locs hP hD hS => ?_)
  have hP : va_P (dC, dI) vwCl [(h, .inr (0, [.ref q0, .int 0, .ref q2, .int 0, .int 0, .ref q5, .ref q6, .ref q7, .ref q8, .int 0, .int 0, .int 0, .null, .int 0, .null, .int 0, .int 0])), (q0, .inl (cI, 5, .inl (fun _ => 0))), (q2, .inl (cZ, 4, .inl (fun _ => 0))), (q5, .inl (cI, 24, .inl (fun _ => 0))), (q6, .inl (cI, 24, .inl (fun _ => 0))), (q7, .inl (cI, 24, .inl (fun _ => 0))), (q8, .inl (cI, 24, .inl (fun _ => 0)))] H := hP
  have hD : va_D A [(h, .inr (0, [.ref q0, .int 0, .ref q2, .int 0, .int 0, .ref q5, .ref q6, .ref q7, .ref q8, .int 0, .int 0, .int 0, .null, .int 0, .null, .int 0, .int 0])), (q0, .inl (cI, 5, .inl (fun _ => 0))), (q2, .inl (cZ, 4, .inl (fun _ => 0))), (q5, .inl (cI, 24, .inl (fun _ => 0))), (q6, .inl (cI, 24, .inl (fun _ => 0))), (q7, .inl (cI, 24, .inl (fun _ => 0))), (q8, .inl (cI, 24, .inl (fun _ => 0)))] := hD
  refine lv_aload_n hx hb dX0_init_75 rfl (lv_at hl 0 rfl) ?_
  refine lv_iconst (v := (-1)) hx hb dX0_init_76 (by decide) ?_
  refine va_put (D := (dC, dI)) (ci := 0) (v := .int (-1)) (ty := .int) (C := RX0) (T := TX0) (N := 17) hx hb hts hin0 tyX0 tyX0_ok nmX0 hown hK hP hD hS 0 rfl rfl 11 (by decide) (hts (.fieldLink RX0 46 "MonitorDesk" "latestOpen" "I") (by decide +kernel)) (fun _ h9 => h9) rfl (by decide +kernel) rfl rfl (Nat.le_of_ble_eq_true rfl) dX0_init_77 (fun H locs hP hD hS => ?_)
  have hP : va_P (dC, dI) vwCl [(h, .inr (0, [.ref q0, .int 0, .ref q2, .int 0, .int 0, .ref q5, .ref q6, .ref q7, .ref q8, .int 0, .int 0, .int (-1), .null, .int 0, .null, .int 0, .int 0])), (q0, .inl (cI, 5, .inl (fun _ => 0))), (q2, .inl (cZ, 4, .inl (fun _ => 0))), (q5, .inl (cI, 24, .inl (fun _ => 0))), (q6, .inl (cI, 24, .inl (fun _ => 0))), (q7, .inl (cI, 24, .inl (fun _ => 0))), (q8, .inl (cI, 24, .inl (fun _ => 0)))] H := hP
  have hD : va_D A [(h, .inr (0, [.ref q0, .int 0, .ref q2, .int 0, .int 0, .ref q5, .ref q6, .ref q7, .ref q8, .int 0, .int 0, .int (-1), .null, .int 0, .null, .int 0, .int 0])), (q0, .inl (cI, 5, .inl (fun _ => 0))), (q2, .inl (cZ, 4, .inl (fun _ => 0))), (q5, .inl (cI, 24, .inl (fun _ => 0))), (q6, .inl (cI, 24, .inl (fun _ => 0))), (q7, .inl (cI, 24, .inl (fun _ => 0))), (q8, .inl (cI, 24, .inl (fun _ => 0)))] := hD
  refine lv_aload_n hx hb dX0_init_80 rfl (lv_at hl 0 rfl) ?_
  refine lv_bipush (v := 24) hx hb dX0_init_81 (by decide) ?_
  refine va_newa (atype := .int) (ty := .int) (N' := 24) (a0 := (24, .inl (fun _ => 0))) hx hb (hts (.arrayClass .int) (by decide +kernel)) rfl hK hP hD hS hA (fun _ => rfl) (by decide) (by decide) (Nat.le_of_ble_eq_true rfl) (Nat.le_of_ble_eq_true rfl) (Nat.le_of_ble_eq_true rfl) dX0_init_83 (fun q12 c12 H hK hP hD hS => ?_)
  refine W.widen (k := 7) (n := 129) (Nat.le_of_ble_eq_true rfl) (Nat.le_of_ble_eq_true rfl) ?_
  obtain rfl : cI = c12 := ty_u hK (i := 0) (j := 2) rfl rfl (Or.inl rfl)
  have hK : va_K (dC, dI) vwCl [(cI, .int), (cZ, .boolean)] s := hK.sub [0, 1] rfl
  have hP : va_P (dC, dI) vwCl [(h, .inr (0, [.ref q0, .int 0, .ref q2, .int 0, .int 0, .ref q5, .ref q6, .ref q7, .ref q8, .int 0, .int 0, .int (-1), .null, .int 0, .null, .int 0, .int 0])), (q0, .inl (cI, 5, .inl (fun _ => 0))), (q2, .inl (cZ, 4, .inl (fun _ => 0))), (q5, .inl (cI, 24, .inl (fun _ => 0))), (q6, .inl (cI, 24, .inl (fun _ => 0))), (q7, .inl (cI, 24, .inl (fun _ => 0))), (q8, .inl (cI, 24, .inl (fun _ => 0))), (q12, .inl (cI, 24, .inl (fun _ => 0)))] H := hP
  have hD : va_D A [(h, .inr (0, [.ref q0, .int 0, .ref q2, .int 0, .int 0, .ref q5, .ref q6, .ref q7, .ref q8, .int 0, .int 0, .int (-1), .null, .int 0, .null, .int 0, .int 0])), (q0, .inl (cI, 5, .inl (fun _ => 0))), (q2, .inl (cZ, 4, .inl (fun _ => 0))), (q5, .inl (cI, 24, .inl (fun _ => 0))), (q6, .inl (cI, 24, .inl (fun _ => 0))), (q7, .inl (cI, 24, .inl (fun _ => 0))), (q8, .inl (cI, 24, .inl (fun _ => 0))), (q12, .inl (cI, 24, .inl (fun _ => 0)))] := hD
  refine va_putF (D := (dC, dI)) (ci := 0) (v := .ref q12) (ty := (.array .int)) (C := RX0) (T := TX0) (N := 17) hx hb hts hin0 tyX0 tyX0_ok nmX0 hown hK hP hD hS 0 rfl rfl 12 (by decide) (hts (.fieldLink RX0 49 "MonitorDesk" "results" "[I") (by decide +kernel)) (fun _ h9 => h9) rfl hin rfl (by decide +kernel) rfl rfl (Nat.le_of_ble_eq_true rfl) dX0_init_85 (fun H locs hP hD hS => ?_)
  have hP : va_P (dC, dI) vwCl [(h, .inr (0, [.ref q0, .int 0, .ref q2, .int 0, .int 0, .ref q5, .ref q6, .ref q7, .ref q8, .int 0, .int 0, .int (-1), .ref q12, .int 0, .null, .int 0, .int 0])), (q0, .inl (cI, 5, .inl (fun _ => 0))), (q2, .inl (cZ, 4, .inl (fun _ => 0))), (q5, .inl (cI, 24, .inl (fun _ => 0))), (q6, .inl (cI, 24, .inl (fun _ => 0))), (q7, .inl (cI, 24, .inl (fun _ => 0))), (q8, .inl (cI, 24, .inl (fun _ => 0))), (q12, .inl (cI, 24, .inl (fun _ => 0)))] H := hP
  have hD : va_D A [(h, .inr (0, [.ref q0, .int 0, .ref q2, .int 0, .int 0, .ref q5, .ref q6, .ref q7, .ref q8, .int 0, .int 0, .int (-1), .ref q12, .int 0, .null, .int 0, .int 0])), (q0, .inl (cI, 5, .inl (fun _ => 0))), (q2, .inl (cZ, 4, .inl (fun _ => 0))), (q5, .inl (cI, 24, .inl (fun _ => 0))), (q6, .inl (cI, 24, .inl (fun _ => 0))), (q7, .inl (cI, 24, .inl (fun _ => 0))), (q8, .inl (cI, 24, .inl (fun _ => 0))), (q12, .inl (cI, 24, .inl (fun _ => 0)))] := hD
  refine lv_aload_n hx hb dX0_init_88 rfl (lv_at hl 0 rfl) ?_
  refine lv_iconst (v := 0) hx hb dX0_init_89 (by decide) ?_
  refine va_put (D := (dC, dI)) (ci := 0) (v := .int 0) (ty := .int) (C := RX0) (T := TX0) (N := 17) hx hb hts hin0 tyX0 tyX0_ok nmX0 hown hK hP hD hS 0 rfl rfl 13 (by decide) (hts (.fieldLink RX0 52 "MonitorDesk" "latestFailure" "I") (by decide +kernel)) (fun _ h9 => h9) rfl (by decide +kernel) rfl rfl (Nat.le_of_ble_eq_true rfl) dX0_init_90 (fun H locs hP hD hS => ?_)
  have hP : va_P (dC, dI) vwCl [(h, .inr (0, [.ref q0, .int 0, .ref q2, .int 0, .int 0, .ref q5, .ref q6, .ref q7, .ref q8, .int 0, .int 0, .int (-1), .ref q12, .int 0, .null, .int 0, .int 0])), (q0, .inl (cI, 5, .inl (fun _ => 0))), (q2, .inl (cZ, 4, .inl (fun _ => 0))), (q5, .inl (cI, 24, .inl (fun _ => 0))), (q6, .inl (cI, 24, .inl (fun _ => 0))), (q7, .inl (cI, 24, .inl (fun _ => 0))), (q8, .inl (cI, 24, .inl (fun _ => 0))), (q12, .inl (cI, 24, .inl (fun _ => 0)))] H := hP
  have hD : va_D A [(h, .inr (0, [.ref q0, .int 0, .ref q2, .int 0, .int 0, .ref q5, .ref q6, .ref q7, .ref q8, .int 0, .int 0, .int (-1), .ref q12, .int 0, .null, .int 0, .int 0])), (q0, .inl (cI, 5, .inl (fun _ => 0))), (q2, .inl (cZ, 4, .inl (fun _ => 0))), (q5, .inl (cI, 24, .inl (fun _ => 0))), (q6, .inl (cI, 24, .inl (fun _ => 0))), (q7, .inl (cI, 24, .inl (fun _ => 0))), (q8, .inl (cI, 24, .inl (fun _ => 0))), (q12, .inl (cI, 24, .inl (fun _ => 0)))] := hD
  refine lv_aload_n hx hb dX0_init_93 rfl (lv_at hl 0 rfl) ?_
  refine lv_iconst (v := 5) hx hb dX0_init_94 (by decide) ?_
  refine va_newa (atype := .int) (ty := .int) (N' := 5) (a0 := (5, .inl (fun _ => 0))) hx hb (hts (.arrayClass .int) (by decide +kernel)) rfl hK hP hD hS hA (fun _ => rfl) (by decide) (by decide) (Nat.le_of_ble_eq_true rfl) (Nat.le_of_ble_eq_true rfl) (Nat.le_of_ble_eq_true rfl) dX0_init_95 (fun q14 c14 H hK hP hD hS => ?_)
  refine W.widen (k := 8) (n := 134) (Nat.le_of_ble_eq_true rfl) (Nat.le_of_ble_eq_true rfl) ?_
  obtain rfl : cI = c14 := ty_u hK (i := 0) (j := 2) rfl rfl (Or.inl rfl)
  have hK : va_K (dC, dI) vwCl [(cI, .int), (cZ, .boolean)] s := hK.sub [0, 1] rfl
  have hP : va_P (dC, dI) vwCl [(h, .inr (0, [.ref q0, .int 0, .ref q2, .int 0, .int 0, .ref q5, .ref q6, .ref q7, .ref q8, .int 0, .int 0, .int (-1), .ref q12, .int 0, .null, .int 0, .int 0])), (q0, .inl (cI, 5, .inl (fun _ => 0))), (q2, .inl (cZ, 4, .inl (fun _ => 0))), (q5, .inl (cI, 24, .inl (fun _ => 0))), (q6, .inl (cI, 24, .inl (fun _ => 0))), (q7, .inl (cI, 24, .inl (fun _ => 0))), (q8, .inl (cI, 24, .inl (fun _ => 0))), (q12, .inl (cI, 24, .inl (fun _ => 0))), (q14, .inl (cI, 5, .inl (fun _ => 0)))] H := hP
  have hD : va_D A [(h, .inr (0, [.ref q0, .int 0, .ref q2, .int 0, .int 0, .ref q5, .ref q6, .ref q7, .ref q8, .int 0, .int 0, .int (-1), .ref q12, .int 0, .null, .int 0, .int 0])), (q0, .inl (cI, 5, .inl (fun _ => 0))), (q2, .inl (cZ, 4, .inl (fun _ => 0))), (q5, .inl (cI, 24, .inl (fun _ => 0))), (q6, .inl (cI, 24, .inl (fun _ => 0))), (q7, .inl (cI, 24, .inl (fun _ => 0))), (q8, .inl (cI, 24, .inl (fun _ => 0))), (q12, .inl (cI, 24, .inl (fun _ => 0))), (q14, .inl (cI, 5, .inl (fun _ => 0)))] := hD
  refine va_putF (D := (dC, dI)) (ci := 0) (v := .ref q14) (ty := (.array .int)) (C := RX0) (T := TX0) (N := 17) hx hb hts hin0 tyX0 tyX0_ok nmX0 hown hK hP hD hS 0 rfl rfl 14 (by decide) (hts (.fieldLink RX0 55 "MonitorDesk" "held" "[I") (by decide +kernel)) (fun _ h9 => h9) rfl hin rfl (by decide +kernel) rfl rfl (Nat.le_of_ble_eq_true rfl) dX0_init_97 (fun H locs hP hD hS => ?_)
  have hP : va_P (dC, dI) vwCl [(h, .inr (0, [.ref q0, .int 0, .ref q2, .int 0, .int 0, .ref q5, .ref q6, .ref q7, .ref q8, .int 0, .int 0, .int (-1), .ref q12, .int 0, .ref q14, .int 0, .int 0])), (q0, .inl (cI, 5, .inl (fun _ => 0))), (q2, .inl (cZ, 4, .inl (fun _ => 0))), (q5, .inl (cI, 24, .inl (fun _ => 0))), (q6, .inl (cI, 24, .inl (fun _ => 0))), (q7, .inl (cI, 24, .inl (fun _ => 0))), (q8, .inl (cI, 24, .inl (fun _ => 0))), (q12, .inl (cI, 24, .inl (fun _ => 0))), (q14, .inl (cI, 5, .inl (fun _ => 0)))] H := hP
  have hD : va_D A [(h, .inr (0, [.ref q0, .int 0, .ref q2, .int 0, .int 0, .ref q5, .ref q6, .ref q7, .ref q8, .int 0, .int 0, .int (-1), .ref q12, .int 0, .ref q14, .int 0, .int 0])), (q0, .inl (cI, 5, .inl (fun _ => 0))), (q2, .inl (cZ, 4, .inl (fun _ => 0))), (q5, .inl (cI, 24, .inl (fun _ => 0))), (q6, .inl (cI, 24, .inl (fun _ => 0))), (q7, .inl (cI, 24, .inl (fun _ => 0))), (q8, .inl (cI, 24, .inl (fun _ => 0))), (q12, .inl (cI, 24, .inl (fun _ => 0))), (q14, .inl (cI, 5, .inl (fun _ => 0)))] := hD
  refine lv_aload_n hx hb dX0_init_100 rfl (lv_at hl 0 rfl) ?_
  refine lv_iconst (v := 0) hx hb dX0_init_101 (by decide) ?_
  refine va_put (D := (dC, dI)) (ci := 0) (v := .int 0) (ty := .int) (C := RX0) (T := TX0) (N := 17) hx hb hts hin0 tyX0 tyX0_ok nmX0 hown hK hP hD hS 0 rfl rfl 15 (by decide) (hts (.fieldLink RX0 58 "MonitorDesk" "raised" "I") (by decide +kernel)) (fun _ h9 => h9) rfl (by decide +kernel) rfl rfl (Nat.le_of_ble_eq_true rfl) dX0_init_102 (fun H locs hP hD hS => ?_)
  have hP : va_P (dC, dI) vwCl [(h, .inr (0, [.ref q0, .int 0, .ref q2, .int 0, .int 0, .ref q5, .ref q6, .ref q7, .ref q8, .int 0, .int 0, .int (-1), .ref q12, .int 0, .ref q14, .int 0, .int 0])), (q0, .inl (cI, 5, .inl (fun _ => 0))), (q2, .inl (cZ, 4, .inl (fun _ => 0))), (q5, .inl (cI, 24, .inl (fun _ => 0))), (q6, .inl (cI, 24, .inl (fun _ => 0))), (q7, .inl (cI, 24, .inl (fun _ => 0))), (q8, .inl (cI, 24, .inl (fun _ => 0))), (q12, .inl (cI, 24, .inl (fun _ => 0))), (q14, .inl (cI, 5, .inl (fun _ => 0)))] H := hP
  have hD : va_D A [(h, .inr (0, [.ref q0, .int 0, .ref q2, .int 0, .int 0, .ref q5, .ref q6, .ref q7, .ref q8, .int 0, .int 0, .int (-1), .ref q12, .int 0, .ref q14, .int 0, .int 0])), (q0, .inl (cI, 5, .inl (fun _ => 0))), (q2, .inl (cZ, 4, .inl (fun _ => 0))), (q5, .inl (cI, 24, .inl (fun _ => 0))), (q6, .inl (cI, 24, .inl (fun _ => 0))), (q7, .inl (cI, 24, .inl (fun _ => 0))), (q8, .inl (cI, 24, .inl (fun _ => 0))), (q12, .inl (cI, 24, .inl (fun _ => 0))), (q14, .inl (cI, 5, .inl (fun _ => 0)))] := hD
  refine lv_aload_n hx hb dX0_init_105 rfl (lv_at hl 0 rfl) ?_
  refine lv_iconst (v := 0) hx hb dX0_init_106 (by decide) ?_
  refine va_put (D := (dC, dI)) (ci := 0) (v := .int 0) (ty := .int) (C := RX0) (T := TX0) (N := 17) hx hb hts hin0 tyX0 tyX0_ok nmX0 hown hK hP hD hS 0 rfl rfl 16 (by decide) (hts (.fieldLink RX0 61 "MonitorDesk" "resumeAt" "I") (by decide +kernel)) (fun _ h9 => h9) rfl (by decide +kernel) rfl rfl (Nat.le_of_ble_eq_true rfl) dX0_init_107 (fun H locs hP hD hS => ?_)
  have hP : va_P (dC, dI) vwCl [(h, .inr (0, [.ref q0, .int 0, .ref q2, .int 0, .int 0, .ref q5, .ref q6, .ref q7, .ref q8, .int 0, .int 0, .int (-1), .ref q12, .int 0, .ref q14, .int 0, .int 0])), (q0, .inl (cI, 5, .inl (fun _ => 0))), (q2, .inl (cZ, 4, .inl (fun _ => 0))), (q5, .inl (cI, 24, .inl (fun _ => 0))), (q6, .inl (cI, 24, .inl (fun _ => 0))), (q7, .inl (cI, 24, .inl (fun _ => 0))), (q8, .inl (cI, 24, .inl (fun _ => 0))), (q12, .inl (cI, 24, .inl (fun _ => 0))), (q14, .inl (cI, 5, .inl (fun _ => 0)))] H := hP
  have hD : va_D A [(h, .inr (0, [.ref q0, .int 0, .ref q2, .int 0, .int 0, .ref q5, .ref q6, .ref q7, .ref q8, .int 0, .int 0, .int (-1), .ref q12, .int 0, .ref q14, .int 0, .int 0])), (q0, .inl (cI, 5, .inl (fun _ => 0))), (q2, .inl (cZ, 4, .inl (fun _ => 0))), (q5, .inl (cI, 24, .inl (fun _ => 0))), (q6, .inl (cI, 24, .inl (fun _ => 0))), (q7, .inl (cI, 24, .inl (fun _ => 0))), (q8, .inl (cI, 24, .inl (fun _ => 0))), (q12, .inl (cI, 24, .inl (fun _ => 0))), (q14, .inl (cI, 5, .inl (fun _ => 0)))] := hD
  obtain ⟨q, hq⟩ : ∃ q : Nat → Nat, q = fun k => if k = 0 then q0 else if k = 2 then q2 else if k = 5 then q5 else if k = 6 then q6 else if k = 7 then q7 else if k = 8 then q8 else if k = 12 then q12 else if k = 14 then q14 else 0 := ⟨_, rfl⟩
  have G : gx_ (dC, dI) A s.heap H locs (gw0_ cI cZ h q pd_zero) := by
    subst hq
    exact ⟨hP, hD, hS⟩
  refine lv_aload_n hx hb dX0_init_110 rfl (lv_at hl 0 rfl) ?_
  refine gg0_get (v := .ref (q 12)) hx hb hts hin0 hown hK G 12 (by decide) (index := 49) (by decide +kernel) rfl dX0_init_111 ?_
  refine lv_bipush (v := (-9)) hx hb dX0_init_114 (by decide) ?_
  refine gx_fill (pl := 7) (rest := []) (v := (-9)) hx hb hml hown hts hK hA G rfl (Nat.le_of_ble_eq_true rfl) gX0_init_J7_fill_53178 ⟨Nat.le_of_ble_eq_true rfl, Nat.le_of_ble_eq_true rfl⟩ hl.1 (Nat.le_of_ble_eq_true rfl) dX0_init_116 (Nat.le_of_ble_eq_true rfl) (Nat.le_of_ble_eq_true rfl) (fun H locs G => ?_)
  have G : gx_ (dC, dI) A s.heap H locs (gw0_ cI cZ h q (st_sf pd_zero 12 (pj_fill 24 (-9) (pd_zero.2 12)))) := G
  exact W.vret hx hb hr (fun t ht hW => ⟨⟨(), rfl, trivial, cI, cZ, q, by rw [ht]; exact G.1, va_K.moved hW.alike hK, G.2.1⟩, G.2.2.F ht⟩) G.2.2.2.2 dX0_init_119
def gn1_ (h : Nat) : va_W := [(h, .inr (1, [.null, .null, .int 0, .null, .int 0, .int 0, .null, .null, .int 0, .int 0, .null, .int 0, .null, .int 0, .int 0]))]
set_option maxHeartbeats 4000000 in
set_option maxRecDepth 100000 in
theorem km_init (l : Launch) (dC : Nat → ClassId) (dI : Nat → Nat → Nat) (h sz : Nat) : Met l yX1_init wsX1_init { frames := 1, cells := 7, slots := 609, locals := 23 } (va_Pc [.ref h] (fun U => U.heap.size = sz ∧ va_P (dC, dI) vwCl (gn1_ h) U.heap ∧ va_K (dC, dI) vwCl [] U ∧ va_D (fun _ => True) (gn1_ h))) (va_Qv (fun _ : Unit => True) (fun (_ : Unit) t => ∃ (cI cZ : ClassId) (q : Nat → Nat), va_P (dC, dI) vwCl (gw1_ cI cZ h q pm_init) t.heap ∧ va_K (dC, dI) vwCl (ty_IZ cI cZ) t ∧ va_D (va_A (gn1_ h) sz) (gw1_ cI cZ h q pm_init)) (va_A (gn1_ h) sz)) 7 609 (va_A (gn1_ h) sz) := by
  refine Met.ofW (cc := cX1_init) (maxL := 2) (ret := none) (by decide) rfl ?_
  intro p e s m args below meth c s₁ B hml hv
  obtain ⟨rfl, hsz, hP, hK, hD0⟩ := hv
  have hx := B.exec
  have hb := B.bytes
  have hr := B.returns
  have hts := atoms_spec (ws := wsX1_init) B.pre
  have hown : s.vm.findClass RX1 = some m.cls := findClass_of_methodNamed B.named
  have hlocks := B.notSynchronized
  have hin : meth.name = "<init>" := (name_of_methodNamed B.named B.method).1
  have hin0 : ∀ w ∈ wsX10, w ∈ wsX1_init := gx_in
  subst hsz
  have hD := hD0.self (sz := s.heap.size)
  generalize hAe : va_A (gn1_ h) s.heap.size = A at hD ⊢
  have hA : ∀ q : Nat, s.heap.size ≤ q → A q := fun q h => by rw [← hAe]; exact Or.inr h
  have hS : va_S A s.heap s.heap [] := va_S.rf
  have hl := lv_entry ([.ref h]) (n := 2) (Nat.le_of_ble_eq_true rfl)
  rw [lg_entry_eq]
  generalize (lg_sl ([.ref h]) ++ List.replicate (2 - (lg_sl ([.ref h])).length) Slot.unset).toArray = ls at hl ⊢
  have hl : lv_has ls 2 [(0, .ref h)] := hl
  have hP : va_P (dC, dI) vwCl [(h, .inr (1, [.null, .null, .int 0, .null, .int 0, .int 0, .null, .null, .int 0, .int 0, .null, .int 0, .null, .int 0, .int 0]))] s.heap := hP
  have hD : va_D A [(h, .inr (1, [.null, .null, .int 0, .null, .int 0, .int 0, .null, .null, .int 0, .int 0, .null, .int 0, .null, .int 0, .int 0]))] := hD
  refine lv_aload_n hx hb dX1_init_0 rfl (lv_at hl 0 rfl) ?_
  refine W.objInit hx hb hown (hts (.methodLink RX1 1 objectInit) (by decide +kernel)) (hts (.instanceMethod objectInit) (by decide +kernel)) (hts (.code objectInit ⟨#[0xb1]⟩ 1 none) (by decide +kernel)) rfl (by rw [hml]; exact hl.1) rfl dX1_init_1 (Nat.le_of_ble_eq_true rfl) (Nat.le_of_ble_eq_true rfl) ?_
  refine W.eq (g2 := F0 m 4 ls []) rfl ?_
  refine lv_aload_n hx hb dX1_init_4 rfl (lv_at hl 0 rfl) ?_
  refine lv_iconst (v := 5) hx hb dX1_init_5 (by decide) ?_
  refine va_newa (atype := .int) (ty := .int) (N' := 5) (a0 := (5, .inl (fun _ => 0))) hx hb (hts (.arrayClass .int) (by decide +kernel)) rfl hK hP hD hS hA (fun _ => rfl) (by decide) (by decide) (Nat.le_of_ble_eq_true rfl) (Nat.le_of_ble_eq_true rfl) (Nat.le_of_ble_eq_true rfl) dX1_init_6 (fun q0 cI H hK hP hD hS => ?_)
  refine W.widen (k := 1) (n := 5) (Nat.le_of_ble_eq_true rfl) (Nat.le_of_ble_eq_true rfl) ?_
  have hK : va_K (dC, dI) vwCl [(cI, .int)] s := hK.sub [0] rfl
  have hP : va_P (dC, dI) vwCl [(h, .inr (1, [.null, .null, .int 0, .null, .int 0, .int 0, .null, .null, .int 0, .int 0, .null, .int 0, .null, .int 0, .int 0])), (q0, .inl (cI, 5, .inl (fun _ => 0)))] H := hP
  have hD : va_D A [(h, .inr (1, [.null, .null, .int 0, .null, .int 0, .int 0, .null, .null, .int 0, .int 0, .null, .int 0, .null, .int 0, .int 0])), (q0, .inl (cI, 5, .inl (fun _ => 0)))] := hD
  refine va_putF (D := (dC, dI)) (ci := 1) (v := .ref q0) (ty := (.array .int)) (C := RX1) (T := TX1) (N := 15) hx hb hts hin0 tyX1 tyX1_ok nmX1 hown hK hP hD hS 0 rfl rfl 0 (by decide) (hts (.fieldLink RX1 7 "MonitorDeskModel" "lock" "[I") (by decide +kernel)) (fun _ h9 => h9) rfl hin rfl (by decide +kernel) rfl rfl (Nat.le_of_ble_eq_true rfl) dX1_init_8 (fun H locs hP hD hS => ?_)
  have hP : va_P (dC, dI) vwCl [(h, .inr (1, [.ref q0, .null, .int 0, .null, .int 0, .int 0, .null, .null, .int 0, .int 0, .null, .int 0, .null, .int 0, .int 0])), (q0, .inl (cI, 5, .inl (fun _ => 0)))] H := hP
  have hD : va_D A [(h, .inr (1, [.ref q0, .null, .int 0, .null, .int 0, .int 0, .null, .null, .int 0, .int 0, .null, .int 0, .null, .int 0, .int 0])), (q0, .inl (cI, 5, .inl (fun _ => 0)))] := hD
  refine lv_aload_n hx hb dX1_init_11 rfl (lv_at hl 0 rfl) ?_
  refine lv_sipush (v := 520) hx hb dX1_init_12 (by decide) ?_
  refine va_newa (atype := .int) (ty := .int) (N' := 520) (a0 := (520, .inl (fun _ => 0))) hx hb (hts (.arrayClass .int) (by decide +kernel)) rfl hK hP hD hS hA (fun _ => rfl) (by decide) (by decide) (Nat.le_of_ble_eq_true rfl) (Nat.le_of_ble_eq_true rfl) (Nat.le_of_ble_eq_true rfl) dX1_init_15 (fun q1 c1 H hK hP hD hS => ?_)
  refine W.widen (k := 2) (n := 525) (Nat.le_of_ble_eq_true rfl) (Nat.le_of_ble_eq_true rfl) ?_
  obtain rfl : cI = c1 := ty_u hK (i := 0) (j := 1) rfl rfl (Or.inl rfl)
  have hK : va_K (dC, dI) vwCl [(cI, .int)] s := hK.sub [0] rfl
  have hP : va_P (dC, dI) vwCl [(h, .inr (1, [.ref q0, .null, .int 0, .null, .int 0, .int 0, .null, .null, .int 0, .int 0, .null, .int 0, .null, .int 0, .int 0])), (q0, .inl (cI, 5, .inl (fun _ => 0))), (q1, .inl (cI, 520, .inl (fun _ => 0)))] H := hP
  have hD : va_D A [(h, .inr (1, [.ref q0, .null, .int 0, .null, .int 0, .int 0, .null, .null, .int 0, .int 0, .null, .int 0, .null, .int 0, .int 0])), (q0, .inl (cI, 5, .inl (fun _ => 0))), (q1, .inl (cI, 520, .inl (fun _ => 0)))] := hD
  refine va_putF (D := (dC, dI)) (ci := 1) (v := .ref q1) (ty := (.array .int)) (C := RX1) (T := TX1) (N := 15) hx hb hts hin0 tyX1 tyX1_ok nmX1 hown hK hP hD hS 0 rfl rfl 1 (by decide) (hts (.fieldLink RX1 13 "MonitorDeskModel" "held" "[I") (by decide +kernel)) (fun _ h9 => h9) rfl hin rfl (by decide +kernel) rfl rfl (Nat.le_of_ble_eq_true rfl) dX1_init_17 (fun H locs hP hD hS => ?_)
  have hP : va_P (dC, dI) vwCl [(h, .inr (1, [.ref q0, .ref q1, .int 0, .null, .int 0, .int 0, .null, .null, .int 0, .int 0, .null, .int 0, .null, .int 0, .int 0])), (q0, .inl (cI, 5, .inl (fun _ => 0))), (q1, .inl (cI, 520, .inl (fun _ => 0)))] H := hP
  have hD : va_D A [(h, .inr (1, [.ref q0, .ref q1, .int 0, .null, .int 0, .int 0, .null, .null, .int 0, .int 0, .null, .int 0, .null, .int 0, .int 0])), (q0, .inl (cI, 5, .inl (fun _ => 0))), (q1, .inl (cI, 520, .inl (fun _ => 0)))] := hD
  refine lv_aload_n hx hb dX1_init_20 rfl (lv_at hl 0 rfl) ?_
  refine lv_iconst (v := 4) hx hb dX1_init_21 (by decide) ?_
  refine va_newa (atype := .boolean) (ty := .boolean) (N' := 4) (a0 := (4, .inl (fun _ => 0))) hx hb (hts (.arrayClass .boolean) (by decide +kernel)) rfl hK hP hD hS hA (fun _ => rfl) (by decide) (by decide) (Nat.le_of_ble_eq_true rfl) (Nat.le_of_ble_eq_true rfl) (Nat.le_of_ble_eq_true rfl) dX1_init_22 (fun q3 cZ H hK hP hD hS => ?_)
  refine W.widen (k := 3) (n := 529) (Nat.le_of_ble_eq_true rfl) (Nat.le_of_ble_eq_true rfl) ?_
  have hK : va_K (dC, dI) vwCl [(cI, .int), (cZ, .boolean)] s := hK.sub [0, 1] rfl
  have hP : va_P (dC, dI) vwCl [(h, .inr (1, [.ref q0, .ref q1, .int 0, .null, .int 0, .int 0, .null, .null, .int 0, .int 0, .null, .int 0, .null, .int 0, .int 0])), (q0, .inl (cI, 5, .inl (fun _ => 0))), (q1, .inl (cI, 520, .inl (fun _ => 0))), (q3, .inl (cZ, 4, .inl (fun _ => 0)))] H := hP
  have hD : va_D A [(h, .inr (1, [.ref q0, .ref q1, .int 0, .null, .int 0, .int 0, .null, .null, .int 0, .int 0, .null, .int 0, .null, .int 0, .int 0])), (q0, .inl (cI, 5, .inl (fun _ => 0))), (q1, .inl (cI, 520, .inl (fun _ => 0))), (q3, .inl (cZ, 4, .inl (fun _ => 0)))] := hD
  refine va_putF (D := (dC, dI)) (ci := 1) (v := .ref q3) (ty := (.array .boolean)) (C := RX1) (T := TX1) (N := 15) hx hb hts hin0 tyX1 tyX1_ok nmX1 hown hK hP hD hS 0 rfl rfl 3 (by decide) (hts (.fieldLink RX1 16 "MonitorDeskModel" "ended" "[Z") (by decide +kernel)) (fun _ h9 => h9) rfl hin rfl (by decide +kernel) rfl rfl (Nat.le_of_ble_eq_true rfl) dX1_init_24 (fun H locs hP hD hS => ?_)
  have hP : va_P (dC, dI) vwCl [(h, .inr (1, [.ref q0, .ref q1, .int 0, .ref q3, .int 0, .int 0, .null, .null, .int 0, .int 0, .null, .int 0, .null, .int 0, .int 0])), (q0, .inl (cI, 5, .inl (fun _ => 0))), (q1, .inl (cI, 520, .inl (fun _ => 0))), (q3, .inl (cZ, 4, .inl (fun _ => 0)))] H := hP
  have hD : va_D A [(h, .inr (1, [.ref q0, .ref q1, .int 0, .ref q3, .int 0, .int 0, .null, .null, .int 0, .int 0, .null, .int 0, .null, .int 0, .int 0])), (q0, .inl (cI, 5, .inl (fun _ => 0))), (q1, .inl (cI, 520, .inl (fun _ => 0))), (q3, .inl (cZ, 4, .inl (fun _ => 0)))] := hD
  refine lv_aload_n hx hb dX1_init_27 rfl (lv_at hl 0 rfl) ?_
  refine lv_bipush (v := 24) hx hb dX1_init_28 (by decide) ?_
  refine va_newa (atype := .int) (ty := .int) (N' := 24) (a0 := (24, .inl (fun _ => 0))) hx hb (hts (.arrayClass .int) (by decide +kernel)) rfl hK hP hD hS hA (fun _ => rfl) (by decide) (by decide) (Nat.le_of_ble_eq_true rfl) (Nat.le_of_ble_eq_true rfl) (Nat.le_of_ble_eq_true rfl) dX1_init_30 (fun q6 c6 H hK hP hD hS => ?_)
  refine W.widen (k := 4) (n := 553) (Nat.le_of_ble_eq_true rfl) (Nat.le_of_ble_eq_true rfl) ?_
  obtain rfl : cI = c6 := ty_u hK (i := 0) (j := 2) rfl rfl (Or.inl rfl)
  have hK : va_K (dC, dI) vwCl [(cI, .int), (cZ, .boolean)] s := hK.sub [0, 1] rfl
  have hP : va_P (dC, dI) vwCl [(h, .inr (1, [.ref q0, .ref q1, .int 0, .ref q3, .int 0, .int 0, .null, .null, .int 0, .int 0, .null, .int 0, .null, .int 0, .int 0])), (q0, .inl (cI, 5, .inl (fun _ => 0))), (q1, .inl (cI, 520, .inl (fun _ => 0))), (q3, .inl (cZ, 4, .inl (fun _ => 0))), (q6, .inl (cI, 24, .inl (fun _ => 0)))] H := hP
  have hD : va_D A [(h, .inr (1, [.ref q0, .ref q1, .int 0, .ref q3, .int 0, .int 0, .null, .null, .int 0, .int 0, .null, .int 0, .null, .int 0, .int 0])), (q0, .inl (cI, 5, .inl (fun _ => 0))), (q1, .inl (cI, 520, .inl (fun _ => 0))), (q3, .inl (cZ, 4, .inl (fun _ => 0))), (q6, .inl (cI, 24, .inl (fun _ => 0)))] := hD
  refine va_putF (D := (dC, dI)) (ci := 1) (v := .ref q6) (ty := (.array .int)) (C := RX1) (T := TX1) (N := 15) hx hb hts hin0 tyX1 tyX1_ok nmX1 hown hK hP hD hS 0 rfl rfl 6 (by decide) (hts (.fieldLink RX1 20 "MonitorDeskModel" "operation" "[I") (by decide +kernel)) (fun _ h9 => h9) rfl hin rfl (by decide +kernel) rfl rfl (Nat.le_of_ble_eq_true rfl) dX1_init_32 (fun H locs hP hD hS => ?_)
  have hP : va_P (dC, dI) vwCl [(h, .inr (1, [.ref q0, .ref q1, .int 0, .ref q3, .int 0, .int 0, .ref q6, .null, .int 0, .int 0, .null, .int 0, .null, .int 0, .int 0])), (q0, .inl (cI, 5, .inl (fun _ => 0))), (q1, .inl (cI, 520, .inl (fun _ => 0))), (q3, .inl (cZ, 4, .inl (fun _ => 0))), (q6, .inl (cI, 24, .inl (fun _ => 0)))] H := hP
  have hD : va_D A [(h, .inr (1, [.ref q0, .ref q1, .int 0, .ref q3, .int 0, .int 0, .ref q6, .null, .int 0, .int 0, .null, .int 0, .null, .int 0, .int 0])), (q0, .inl (cI, 5, .inl (fun _ => 0))), (q1, .inl (cI, 520, .inl (fun _ => 0))), (q3, .inl (cZ, 4, .inl (fun _ => 0))), (q6, .inl (cI, 24, .inl (fun _ => 0)))] := hD
  refine lv_aload_n hx hb dX1_init_35 rfl (lv_at hl 0 rfl) ?_
  refine lv_bipush (v := 24) hx hb dX1_init_36 (by decide) ?_
  refine va_newa (atype := .int) (ty := .int) (N' := 24) (a0 := (24, .inl (fun _ => 0))) hx hb (hts (.arrayClass .int) (by decide +kernel)) rfl hK hP hD hS hA (fun _ => rfl) (by decide) (by decide) (Nat.le_of_ble_eq_true rfl) (Nat.le_of_ble_eq_true rfl) (Nat.le_of_ble_eq_true rfl) dX1_init_38 (fun q7 c7 H hK hP hD hS => ?_)
  refine W.widen (k := 5) (n := 577) (Nat.le_of_ble_eq_true rfl) (Nat.le_of_ble_eq_true rfl) ?_
  obtain rfl : cI = c7 := ty_u hK (i := 0) (j := 2) rfl rfl (Or.inl rfl)
  have hK : va_K (dC, dI) vwCl [(cI, .int), (cZ, .boolean)] s := hK.sub [0, 1] rfl
  have hP : va_P (dC, dI) vwCl [(h, .inr (1, [.ref q0, .ref q1, .int 0, .ref q3, .int 0, .int 0, .ref q6, .null, .int 0, .int 0, .null, .int 0, .null, .int 0, .int 0])), (q0, .inl (cI, 5, .inl (fun _ => 0))), (q1, .inl (cI, 520, .inl (fun _ => 0))), (q3, .inl (cZ, 4, .inl (fun _ => 0))), (q6, .inl (cI, 24, .inl (fun _ => 0))), (q7, .inl (cI, 24, .inl (fun _ => 0)))] H := hP
  have hD : va_D A [(h, .inr (1, [.ref q0, .ref q1, .int 0, .ref q3, .int 0, .int 0, .ref q6, .null, .int 0, .int 0, .null, .int 0, .null, .int 0, .int 0])), (q0, .inl (cI, 5, .inl (fun _ => 0))), (q1, .inl (cI, 520, .inl (fun _ => 0))), (q3, .inl (cZ, 4, .inl (fun _ => 0))), (q6, .inl (cI, 24, .inl (fun _ => 0))), (q7, .inl (cI, 24, .inl (fun _ => 0)))] := hD
  refine va_putF (D := (dC, dI)) (ci := 1) (v := .ref q7) (ty := (.array .int)) (C := RX1) (T := TX1) (N := 15) hx hb hts hin0 tyX1 tyX1_ok nmX1 hown hK hP hD hS 0 rfl rfl 7 (by decide) (hts (.fieldLink RX1 23 "MonitorDeskModel" "argument" "[I") (by decide +kernel)) (fun _ h9 => h9) rfl hin rfl (by decide +kernel) rfl rfl (Nat.le_of_ble_eq_true rfl) dX1_init_40 (fun H locs hP hD hS => ?_)
  have hP : va_P (dC, dI) vwCl [(h, .inr (1, [.ref q0, .ref q1, .int 0, .ref q3, .int 0, .int 0, .ref q6, .ref q7, .int 0, .int 0, .null, .int 0, .null, .int 0, .int 0])), (q0, .inl (cI, 5, .inl (fun _ => 0))), (q1, .inl (cI, 520, .inl (fun _ => 0))), (q3, .inl (cZ, 4, .inl (fun _ => 0))), (q6, .inl (cI, 24, .inl (fun _ => 0))), (q7, .inl (cI, 24, .inl (fun _ => 0)))] H := hP
  have hD : va_D A [(h, .inr (1, [.ref q0, .ref q1, .int 0, .ref q3, .int 0, .int 0, .ref q6, .ref q7, .int 0, .int 0, .null, .int 0, .null, .int 0, .int 0])), (q0, .inl (cI, 5, .inl (fun _ => 0))), (q1, .inl (cI, 520, .inl (fun _ => 0))), (q3, .inl (cZ, 4, .inl (fun _ => 0))), (q6, .inl (cI, 24, .inl (fun _ => 0))), (q7, .inl (cI, 24, .inl (fun _ => 0)))] := hD
  refine lv_aload_n hx hb dX1_init_43 rfl (lv_at hl 0 rfl) ?_
  refine lv_bipush (v := 24) hx hb dX1_init_44 (by decide) ?_
  refine va_newa (atype := .int) (ty := .int) (N' := 24) (a0 := (24, .inl (fun _ => 0))) hx hb (hts (.arrayClass .int) (by decide +kernel)) rfl hK hP hD hS hA (fun _ => rfl) (by decide) (by decide) (Nat.le_of_ble_eq_true rfl) (Nat.le_of_ble_eq_true rfl) (Nat.le_of_ble_eq_true rfl) dX1_init_46 (fun q10 c10 H hK hP hD hS => ?_)
  refine W.widen (k := 6) (n := 601) (Nat.le_of_ble_eq_true rfl) (Nat.le_of_ble_eq_true rfl) ?_
  obtain rfl : cI = c10 := ty_u hK (i := 0) (j := 2) rfl rfl (Or.inl rfl)
  have hK : va_K (dC, dI) vwCl [(cI, .int), (cZ, .boolean)] s := hK.sub [0, 1] rfl
  have hP : va_P (dC, dI) vwCl [(h, .inr (1, [.ref q0, .ref q1, .int 0, .ref q3, .int 0, .int 0, .ref q6, .ref q7, .int 0, .int 0, .null, .int 0, .null, .int 0, .int 0])), (q0, .inl (cI, 5, .inl (fun _ => 0))), (q1, .inl (cI, 520, .inl (fun _ => 0))), (q3, .inl (cZ, 4, .inl (fun _ => 0))), (q6, .inl (cI, 24, .inl (fun _ => 0))), (q7, .inl (cI, 24, .inl (fun _ => 0))), (q10, .inl (cI, 24, .inl (fun _ => 0)))] H := hP
  have hD : va_D A [(h, .inr (1, [.ref q0, .ref q1, .int 0, .ref q3, .int 0, .int 0, .ref q6, .ref q7, .int 0, .int 0, .null, .int 0, .null, .int 0, .int 0])), (q0, .inl (cI, 5, .inl (fun _ => 0))), (q1, .inl (cI, 520, .inl (fun _ => 0))), (q3, .inl (cZ, 4, .inl (fun _ => 0))), (q6, .inl (cI, 24, .inl (fun _ => 0))), (q7, .inl (cI, 24, .inl (fun _ => 0))), (q10, .inl (cI, 24, .inl (fun _ => 0)))] := hD
  refine va_putF (D := (dC, dI)) (ci := 1) (v := .ref q10) (ty := (.array .int)) (C := RX1) (T := TX1) (N := 15) hx hb hts hin0 tyX1 tyX1_ok nmX1 hown hK hP hD hS 0 rfl rfl 10 (by decide) (hts (.fieldLink RX1 26 "MonitorDeskModel" "result" "[I") (by decide +kernel)) (fun _ h9 => h9) rfl hin rfl (by decide +kernel) rfl rfl (Nat.le_of_ble_eq_true rfl) dX1_init_48 (fun H locs hP hD hS => ?_)
  have hP : va_P (dC, dI) vwCl [(h, .inr (1, [.ref q0, .ref q1, .int 0, .ref q3, .int 0, .int 0, .ref q6, .ref q7, .int 0, .int 0, .ref q10, .int 0, .null, .int 0, .int 0])), (q0, .inl (cI, 5, .inl (fun _ => 0))), (q1, .inl (cI, 520, .inl (fun _ => 0))), (q3, .inl (cZ, 4, .inl (fun _ => 0))), (q6, .inl (cI, 24, .inl (fun _ => 0))), (q7, .inl (cI, 24, .inl (fun _ => 0))), (q10, .inl (cI, 24, .inl (fun _ => 0)))] H := hP
  have hD : va_D A [(h, .inr (1, [.ref q0, .ref q1, .int 0, .ref q3, .int 0, .int 0, .ref q6, .ref q7, .int 0, .int 0, .ref q10, .int 0, .null, .int 0, .int 0])), (q0, .inl (cI, 5, .inl (fun _ => 0))), (q1, .inl (cI, 520, .inl (fun _ => 0))), (q3, .inl (cZ, 4, .inl (fun _ => 0))), (q6, .inl (cI, 24, .inl (fun _ => 0))), (q7, .inl (cI, 24, .inl (fun _ => 0))), (q10, .inl (cI, 24, .inl (fun _ => 0)))] := hD
  refine lv_aload_n hx hb dX1_init_51 rfl (lv_at hl 0 rfl) ?_
  refine lv_bipush (v := 8) hx hb dX1_init_52 (by decide) ?_
  refine va_newa (atype := .int) (ty := .int) (N' := 8) (a0 := (8, .inl (fun _ => 0))) hx hb (hts (.arrayClass .int) (by decide +kernel)) rfl hK hP hD hS hA (fun _ => rfl) (by decide) (by decide) (Nat.le_of_ble_eq_true rfl) (Nat.le_of_ble_eq_true rfl) (Nat.le_of_ble_eq_true rfl) dX1_init_54 (fun q12 c12 H hK hP hD hS => ?_)
  refine W.widen (k := 7) (n := 609) (Nat.le_of_ble_eq_true rfl) (Nat.le_of_ble_eq_true rfl) ?_
  obtain rfl : cI = c12 := ty_u hK (i := 0) (j := 2) rfl rfl (Or.inl rfl)
  have hK : va_K (dC, dI) vwCl [(cI, .int), (cZ, .boolean)] s := hK.sub [0, 1] rfl
  have hP : va_P (dC, dI) vwCl [(h, .inr (1, [.ref q0, .ref q1, .int 0, .ref q3, .int 0, .int 0, .ref q6, .ref q7, .int 0, .int 0, .ref q10, .int 0, .null, .int 0, .int 0])), (q0, .inl (cI, 5, .inl (fun _ => 0))), (q1, .inl (cI, 520, .inl (fun _ => 0))), (q3, .inl (cZ, 4, .inl (fun _ => 0))), (q6, .inl (cI, 24, .inl (fun _ => 0))), (q7, .inl (cI, 24, .inl (fun _ => 0))), (q10, .inl (cI, 24, .inl (fun _ => 0))), (q12, .inl (cI, 8, .inl (fun _ => 0)))] H := hP
  have hD : va_D A [(h, .inr (1, [.ref q0, .ref q1, .int 0, .ref q3, .int 0, .int 0, .ref q6, .ref q7, .int 0, .int 0, .ref q10, .int 0, .null, .int 0, .int 0])), (q0, .inl (cI, 5, .inl (fun _ => 0))), (q1, .inl (cI, 520, .inl (fun _ => 0))), (q3, .inl (cZ, 4, .inl (fun _ => 0))), (q6, .inl (cI, 24, .inl (fun _ => 0))), (q7, .inl (cI, 24, .inl (fun _ => 0))), (q10, .inl (cI, 24, .inl (fun _ => 0))), (q12, .inl (cI, 8, .inl (fun _ => 0)))] := hD
  refine va_putF (D := (dC, dI)) (ci := 1) (v := .ref q12) (ty := (.array .int)) (C := RX1) (T := TX1) (N := 15) hx hb hts hin0 tyX1 tyX1_ok nmX1 hown hK hP hD hS 0 rfl rfl 12 (by decide) (hts (.fieldLink RX1 29 "MonitorDeskModel" "block" "[I") (by decide +kernel)) (fun _ h9 => h9) rfl hin rfl (by decide +kernel) rfl rfl (Nat.le_of_ble_eq_true rfl) dX1_init_56 (fun H locs hP hD hS => ?_)
  have hP : va_P (dC, dI) vwCl [(h, .inr (1, [.ref q0, .ref q1, .int 0, .ref q3, .int 0, .int 0, .ref q6, .ref q7, .int 0, .int 0, .ref q10, .int 0, .ref q12, .int 0, .int 0])), (q0, .inl (cI, 5, .inl (fun _ => 0))), (q1, .inl (cI, 520, .inl (fun _ => 0))), (q3, .inl (cZ, 4, .inl (fun _ => 0))), (q6, .inl (cI, 24, .inl (fun _ => 0))), (q7, .inl (cI, 24, .inl (fun _ => 0))), (q10, .inl (cI, 24, .inl (fun _ => 0))), (q12, .inl (cI, 8, .inl (fun _ => 0)))] H := hP
  have hD : va_D A [(h, .inr (1, [.ref q0, .ref q1, .int 0, .ref q3, .int 0, .int 0, .ref q6, .ref q7, .int 0, .int 0, .ref q10, .int 0, .ref q12, .int 0, .int 0])), (q0, .inl (cI, 5, .inl (fun _ => 0))), (q1, .inl (cI, 520, .inl (fun _ => 0))), (q3, .inl (cZ, 4, .inl (fun _ => 0))), (q6, .inl (cI, 24, .inl (fun _ => 0))), (q7, .inl (cI, 24, .inl (fun _ => 0))), (q10, .inl (cI, 24, .inl (fun _ => 0))), (q12, .inl (cI, 8, .inl (fun _ => 0)))] := hD
  obtain ⟨q, hq⟩ : ∃ q : Nat → Nat, q = fun k => if k = 0 then q0 else if k = 1 then q1 else if k = 3 then q3 else if k = 6 then q6 else if k = 7 then q7 else if k = 10 then q10 else if k = 12 then q12 else 0 := ⟨_, rfl⟩
  have G : gx_ (dC, dI) A s.heap H locs (gw1_ cI cZ h q pm_zero) := by
    subst hq
    exact ⟨hP, hD, hS⟩
  have init : ∀ (n i : Nat), i ≤ 24 → 24 - i < n → ∀ (H : Heap) (locs : List Loc) (ls : Array Slot), gx_ (dC, dI) A s.heap H locs (gw1_ cI cZ h q (st_sf pm_zero 10 (pj_fill i (-9) (pm_zero.2 10)))) → lv_has ls 2 [(1, .int (nI i)), (0, .ref h)] → W p l e { frames := 1, cells := 7, slots := 609, locals := 23 } s m #[.ref h] below meth c H locs 7 609 (MQ below (va_Qv (fun _ : Unit => True) (fun (_ : Unit) t => ∃ (cI cZ : ClassId) (q : Nat → Nat), va_P (dC, dI) vwCl (gw1_ cI cZ h q pm_init) t.heap ∧ va_K (dC, dI) vwCl (ty_IZ cI cZ) t ∧ va_D A (gw1_ cI cZ h q pm_init)) A) #[.ref h] s 7 609 A) (F0 m 61 ls []) := by
    intro n
    induction n with
    | zero => intro i h1 h2; exact absurd h2 (Nat.not_lt_zero _)
    | succ n ih =>
      intro i hi1 hi2 H locs ls G hl
      refine lv_iload_n hx hb dX1_init_61 rfl (lv_at hl 0 rfl) ?_
      refine lv_bipush (v := 24) hx hb dX1_init_62 (by decide) ?_
      refine lv_icmp_ge (tgt := 81) hx hb dX1_init_64 (by decide) (fun c_64 => ?_) (fun c_64 => ?_)
      · have e : i = 24 := by
          rw [show (24 : Int32) = nI 24 from by decide, nI_leI (by decide) (by omega)] at c_64
          omega
        subst e
        exact W.vret hx hb hr (fun t ht hW => ⟨⟨(), rfl, trivial, cI, cZ, q, by rw [ht]; exact G.1, va_K.moved hW.alike hK, G.2.1⟩, G.2.2.F ht⟩) G.2.2.2.2 dX1_init_81
      · refine lv_aload_n hx hb dX1_init_67 rfl (lv_at hl 1 rfl) ?_
        refine gg1_get (v := .ref (q 10)) hx hb hts hin0 hown hK G 10 (by decide) (index := 26) (by decide +kernel) rfl dX1_init_68 ?_
        refine lv_iload_n hx hb dX1_init_71 rfl (lv_at hl 0 rfl) ?_
        refine lv_bipush (v := (-9)) hx hb dX1_init_72 (by decide) ?_
        refine gg1_st10 hx hb hK G (i := (nI i)) (x := (-9)) (vp_in_nI (by rw [show (24 : Int32) = nI 24 from by decide, nI_leI (by decide) (by omega)] at c_64; omega) (by decide)) dX1_init_74 (fun H locs G => ?_)
        refine lv_iinc (v := nI (i + 1)) (lv' := [(1, .int (nI (i + 1))), (0, .ref h)]) hx hb dX1_init_75 hl (k := 0) rfl (nI_1 i) (by decide) rfl (fun ls hl => ?_)
        refine lv_goto (tgt := 61) hx hb dX1_init_78 (by decide) ?_
        have e24 : i < 24 := by
          rw [show (24 : Int32) = nI 24 from by decide, nI_leI (by decide) (by omega)] at c_64
          omega
        rw [sf_s10 (by omega)] at G
        exact ih (i + 1) (by omega) (by omega) H locs ls G (lv_sub hl [0, 1] rfl)
  refine lv_iconst (v := 0) hx hb dX1_init_59 (by decide) ?_
  refine lv_istore_n (lv' := [(1, .int 0), (0, .ref h)]) hx hb dX1_init_60 rfl hl (by decide) rfl (fun ls hl => ?_)
  exact init 25 0 (by decide) (by decide) _ _ ls (by rw [sf_010]; exact G) (by rw [nI_0]; exact hl)
end
section
/-! numbers: the stack of open blocks before each step, the least handle, the count of holdings -/
theorem rs_1 (u : st_T) (k : Nat) (v : Int32) (j : Nat) : (st_si u k v).1 j = if j = k then v else u.1 j := rfl
theorem rs_2 (u : st_T) (k : Nat) (v : Int32) : (st_si u k v).2 = u.2 := rfl
theorem rs_3 (u : st_T) (k i : Nat) (v : Int32) : (st_sa u k i v).1 = u.1 := rfl
theorem rs_4 (u : st_T) (k i : Nat) (v : Int32) (j : Nat) : (st_sa u k i v).2 j = if j = k then upd (u.2 k) i v else u.2 j := rfl
theorem rs_5 (u : st_T) (k : Nat) (f : Nat → Int32) : (st_sf u k f).1 = u.1 := rfl
theorem rs_6 (u : st_T) (k : Nat) (f : Nat → Int32) (j : Nat) : (st_sf u k f).2 j = if j = k then f else u.2 j := rfl
theorem up_s (f : Nat → Int32) (i : Nat) (v : Int32) : upd f i v i = v := by simp [upd]
theorem up_n (f : Nat → Int32) {i j : Nat} (v : Int32) (h : j ≠ i) : upd f i v j = f j := by simp [upd, h]
theorem ix_n {n : Nat} (h : n < 2 ^ 31) : ix (nI n) = n := nI_clamp h
theorem in_n {x : Int32} {n : Nat} (h : vp_in x n) (hn : n < 2 ^ 31) : x = nI (ix x) ∧ ix x < n := by
  obtain ⟨j, hj, rfl⟩ := vp_in_of h hn
  rw [ix_n (by omega)]
  exact ⟨rfl, hj⟩
theorem nI_inj {a b : Nat} (ha : a < 2 ^ 31) (hb : b < 2 ^ 31) (h : nI a = nI b) : a = b := (nI_eq ha hb).mp h
theorem nI_m1 {n : Nat} (h : n < 2 ^ 31) : ¬ nI n = -1 := fun z => by
  have := nI_toInt h
  rw [z, show (-1 : Int32).toInt = -1 by decide] at this
  omega
theorem nI_sub1 (n : Nat) : nI (n + 1) - 1 = nI n := nI_pred n
theorem nI_subm (n : Nat) : nI (n + 1) + (-1) = nI n := by
  rw [← nI_pred n, Int32.sub_eq_add_neg]
theorem nI_le0 {n : Nat} (h : n < 2 ^ 31) : nI n ≤ 0 ↔ n = 0 := by
  rw [← nI_0, nI_leI h (by decide)]
  omega
theorem nI_eq0 {n : Nat} (h : n < 2 ^ 31) : nI n = 0 ↔ n = 0 := by
  rw [← nI_0, nI_eq h (by decide)]
/-- the openers that are open before step j, the latest first -/
def sk_ (op : Nat → Int32) : Nat → List Nat
  | 0 => []
  | j + 1 => if op j = 1 ∨ op j = 2 then j :: sk_ op j else if op j = 0 then (sk_ op j).tail else sk_ op j
theorem sk_s (op : Nat → Int32) (j : Nat) : sk_ op (j + 1) = if op j = 1 ∨ op j = 2 then j :: sk_ op j else if op j = 0 then (sk_ op j).tail else sk_ op j := rfl
theorem sk_mem {op : Nat → Int32} : ∀ (j b : Nat), b ∈ sk_ op j → b < j ∧ (op b = 1 ∨ op b = 2) := by
  intro j
  induction j with
  | zero => intro b h; cases h
  | succ j ih =>
    intro b h
    rw [sk_s] at h
    by_cases h1 : op j = 1 ∨ op j = 2
    · rw [if_pos h1] at h
      rcases List.mem_cons.mp h with rfl | h
      · exact ⟨by omega, h1⟩
      · have := ih b h
        exact ⟨by omega, this.2⟩
    · rw [if_neg h1] at h
      by_cases h2 : op j = 0
      · rw [if_pos h2] at h
        have := ih b (List.mem_of_mem_tail h)
        exact ⟨by omega, this.2⟩
      · rw [if_neg h2] at h
        have := ih b h
        exact ⟨by omega, this.2⟩
theorem sk_tail {op : Nat → Int32} : ∀ (N j : Nat), j < N → ∀ (b : Nat) (r : List Nat), sk_ op j = b :: r → r = sk_ op b := by
  intro N
  induction N with
  | zero => intro j h; omega
  | succ N ih =>
    intro j hj b r h
    cases j with
    | zero => cases h
    | succ j =>
      rw [sk_s] at h
      by_cases h1 : op j = 1 ∨ op j = 2
      · rw [if_pos h1] at h
        cases h
        rfl
      · rw [if_neg h1] at h
        by_cases h2 : op j = 0
        · rw [if_pos h2] at h
          cases hs : sk_ op j with
          | nil => rw [hs] at h; cases h
          | cons c l =>
            rw [hs] at h
            have e1 := ih j (by omega) c l hs
            have hc := (sk_mem j c (by rw [hs]; exact List.mem_cons_self)).1
            have h' : sk_ op c = b :: r := by rw [← e1]; exact h
            exact ih c (by omega) b r h'
        · rw [if_neg h2] at h
          exact ih j (by omega) b r h
theorem sk_rest {op : Nat → Int32} {j b : Nat} {r : List Nat} (h : sk_ op j = b :: r) : r = sk_ op b := sk_tail (j + 1) j (Nat.lt_succ_self j) b r h
/-- a closed block is not open later -/
theorem sk_gone {op : Nat → Int32} {j b : Nat} {r : List Nat} (h0 : op j = 0) (h : sk_ op j = b :: r) : ∀ m, j < m → b ∉ sk_ op m := by
  intro m
  induction m with
  | zero => intro hm; omega
  | succ m ih =>
    intro hm
    have hb := (sk_mem j b (by rw [h]; exact List.mem_cons_self)).1
    rw [sk_s]
    by_cases hj : j = m
    · subst hj
      rw [if_neg (by rw [h0]; decide), if_pos h0, h]
      intro hx
      have e := sk_rest h
      rw [List.tail_cons, e] at hx
      have := (sk_mem b b hx).1
      omega
    · have hi := ih (by omega)
      by_cases h1 : op m = 1 ∨ op m = 2
      · rw [if_pos h1]
        intro hx
        rcases List.mem_cons.mp hx with e | hx
        · omega
        · exact hi hx
      · rw [if_neg h1]
        by_cases h2 : op m = 0
        · rw [if_pos h2]
          exact fun hx => hi (List.mem_of_mem_tail hx)
        · rw [if_neg h2]
          exact hi
/-- the latest open block's number, or -1 -/
def tp_ : List Nat → Int32
  | [] => -1
  | b :: _ => nI b
/-- the least handle with handle h's lock -/
def lf_ (lk : Nat → Int32) (x : Int32) : Nat → Nat → Nat
  | 0, i => i
  | k + 1, i => if lk i = x then i else lf_ lk x k (i + 1)
def le_ (lk : Nat → Int32) (h : Nat) : Nat := lf_ lk (lk h) h 0
theorem lf_ok (lk : Nat → Int32) (x : Int32) : ∀ (k i : Nat), lk (i + k) = x → (∀ j, j < i → lk j ≠ x) → lf_ lk x k i ≤ i + k ∧ lk (lf_ lk x k i) = x ∧ ∀ j, j < lf_ lk x k i → lk j ≠ x := by
  intro k
  induction k with
  | zero => intro i h1 h2; exact ⟨Nat.le_refl _, h1, h2⟩
  | succ k ih =>
    intro i h1 h2
    unfold lf_
    by_cases h : lk i = x
    · rw [if_pos h]; exact ⟨by omega, h, h2⟩
    · rw [if_neg h]
      have := ih (i + 1) (by rw [show i + 1 + k = i + (k + 1) by omega]; exact h1) (fun j hj => by
        rcases Nat.lt_or_ge j i with z | z
        · exact h2 j z
        · rw [show j = i by omega]; exact h)
      exact ⟨by omega, this.2.1, this.2.2⟩
theorem le_ok (lk : Nat → Int32) (h : Nat) : le_ lk h ≤ h ∧ lk (le_ lk h) = lk h ∧ ∀ j, j < le_ lk h → lk j ≠ lk h := by
  have := lf_ok lk (lk h) h 0 (by rw [Nat.zero_add]) (fun j hj => absurd hj (Nat.not_lt_zero j))
  exact ⟨by have := this.1; unfold le_; omega, this.2.1, this.2.2⟩
theorem le_iff {lk : Nat → Int32} {a b : Nat} : le_ lk a = le_ lk b ↔ lk a = lk b := by
  have h1 := le_ok lk a
  have h2 := le_ok lk b
  constructor
  · intro e
    rw [← h1.2.1, e, h2.2.1]
  · intro e
    rcases Nat.lt_trichotomy (le_ lk a) (le_ lk b) with z | z | z
    · exact absurd (h1.2.1.trans e) (h2.2.2 _ z)
    · exact z
    · exact absurd (h2.2.1.trans e.symm) (h1.2.2 _ z)
theorem lh_le (u : st_T) (h : Nat) (hh : h < 5) : ∀ (n i : Nat), i ≤ h → h - i < n → pd_lh u (nI h) n (nI i) = nI (lf_ (u.2 0) (u.2 0 h) (h - i) i) := by
  intro n
  induction n with
  | zero => intro i h1 h2; omega
  | succ n ih =>
    intro i h1 h2
    unfold pd_lh
    by_cases hi : h = i
    · subst hi
      rw [if_pos (by rw [nI_leI (by omega) (by omega)]; omega), Nat.sub_self]
      rfl
    · rw [if_neg (by rw [nI_leI (by omega) (by omega)]; omega), ix_n (by omega), ix_n (by omega)]
      obtain ⟨k, hk⟩ : ∃ k, h - i = k + 1 := ⟨h - i - 1, by omega⟩
      rw [hk]
      unfold lf_
      by_cases h3 : u.2 0 i = u.2 0 h
      · rw [if_pos h3, if_pos h3]
      · rw [if_neg h3, if_neg h3, nI_1, ih (i + 1) (by omega) (by omega), show h - (i + 1) = k by omega]
theorem least_le (u : st_T) {h : Nat} (hh : h < 5) : pd_leastHandle u (nI h) = nI (le_ (u.2 0) h) := by
  unfold pd_leastHandle le_
  rw [← nI_0, lh_le u h hh 6 0 (Nat.zero_le _) (by omega), Nat.sub_zero]
theorem sl_le (u : st_T) (h : Nat) (hh : h < 5) (h0 : ¬ u.2 0 h = 0) : ∀ (n i : Nat), i ≤ h → h - i < n → pm_sl u (u.2 0 h) n (nI i) = nI (lf_ (u.2 0) (u.2 0 h) (h - i) i) := by
  intro n
  induction n with
  | zero => intro i h1 h2; omega
  | succ n ih =>
    intro i h1 h2
    rw [pm_sl_s, if_neg h0, ix_n (by omega)]
    by_cases hi : h = i
    · subst hi
      rw [if_pos rfl, Nat.sub_self]
      rfl
    · obtain ⟨k, hk⟩ : ∃ k, h - i = k + 1 := ⟨h - i - 1, by omega⟩
      rw [hk]
      unfold lf_
      by_cases h3 : u.2 0 i = u.2 0 h
      · rw [if_pos h3, if_pos h3]
      · rw [if_neg h3, if_neg h3, nI_1, ih (i + 1) (by omega) (by omega), show h - (i + 1) = k by omega]
/-- the handle that a step names -/
def hd_ (ar : Nat → Int32) (b : Nat) : Nat := ix (pm_modulo (ar b) 5)
theorem hd_lt (ar : Nat → Int32) (b : Nat) : hd_ ar b < 5 := ix_lt (mo_in5 _)
theorem hd_nI (ar : Nat → Int32) (b : Nat) : pm_modulo (ar b) 5 = nI (hd_ ar b) := (in_n (mo_in5 _) (by decide)).1
theorem hd_fm (ar : Nat → Int32) (b : Nat) : pj_floorMod_7cf53 (ar b) 5 = nI (hd_ ar b) := by rw [fm_mo (by decide) (by decide)]; exact hd_nI ar b
/-- how often a run holds the lock l, by the open blocks -/
def cn_ (lk op ar : Nat → Int32) (l : Nat) : List Nat → Nat
  | [] => 0
  | b :: r => (if op b = 1 ∧ ix (lk (hd_ ar b)) = l then 1 else 0) + cn_ lk op ar l r
theorem cn_le (lk op ar : Nat → Int32) (l : Nat) : ∀ L : List Nat, cn_ lk op ar l L ≤ L.length := by
  intro L
  induction L with
  | nil => exact Nat.le_refl _
  | cons b r ih =>
    unfold cn_
    rw [List.length_cons]
    split <;> omega
/-- the reference's stack holds the open blocks -/
def bk_ (f : Nat → Int32) : List Nat → Prop
  | [] => True
  | b :: r => f r.length = nI b ∧ bk_ f r
theorem bk_up {f : Nat → Int32} {k : Nat} {x : Int32} : ∀ {L : List Nat}, bk_ f L → L.length ≤ k → bk_ (upd f k x) L := by
  intro L
  induction L with
  | nil => intro _ _; trivial
  | cons b r ih =>
    intro h hk
    rw [List.length_cons] at hk
    exact ⟨by rw [up_n _ _ (by omega)]; exact h.1, ih h.2 (by omega)⟩
end
section
/-! within a run: the class's state u and the reference's v, over the state g at its start, with the open blocks L -/
def rs_ (g u v : st_T) : Prop :=
  (u.2 0 = g.2 0 ∧ u.2 5 = g.2 5 ∧ u.2 6 = g.2 6 ∧ u.2 7 = g.2 7 ∧ u.2 8 = g.2 8 ∧ u.1 9 = g.1 9 ∧ u.1 10 = g.1 10 ∧ u.1 11 = g.1 11 ∧ u.1 1 = g.1 1) ∧ v.2 0 = g.2 0 ∧ v.2 6 = g.2 5 ∧ v.2 7 = g.2 6 ∧ v.1 8 = g.1 9 ∧ v.1 9 = g.1 10 ∧ v.1 2 = g.1 1
def rd_ (u v : st_T) : Prop := u.2 2 = v.2 3 ∧ u.1 3 = v.1 4 ∧ u.1 4 = v.1 5 ∧ (u.1 4 = 0 ∨ u.1 4 = 1) ∧ u.2 12 = v.2 10 ∧ u.1 13 = v.1 11
def rh_ (g u v : st_T) (L : List Nat) : Prop := v.1 13 = nI L.length ∧ bk_ (v.2 12) L ∧ (∀ j, j < 8 → vp_in (v.2 12 j) 24) ∧ (∀ l, v.2 1 l = nI (cn_ (g.2 0) (g.2 5) (g.2 6) l L)) ∧ (∀ h, h < 5 → ¬ g.2 0 h = 0 → u.2 14 (le_ (g.2 0) h) = v.2 1 (ix (g.2 0 h))) ∧ ∀ b, b ∈ L → g.2 5 b = 1 → ¬ g.2 0 (hd_ (g.2 6) b) = 0
def rm_ (g u v : st_T) (L : List Nat) (ra : Int32) : Prop := rs_ g u v ∧ rd_ u v ∧ rh_ g u v L ∧ u.1 16 = ra
/-- the locks are numbers in range -/
def lr_ (g : st_T) : Prop := ∀ j, j < 5 → vp_in (g.2 0 j) 520
theorem lr_inj {g : st_T} (h : lr_ g) {a b : Nat} (ha : a < 5) (hb : b < 5) (e : ix (g.2 0 a) = ix (g.2 0 b)) : g.2 0 a = g.2 0 b := by
  rw [(in_n (h a ha) (by decide)).1, (in_n (h b hb) (by decide)).1, e]
theorem rm_code {g u v : st_T} {L : List Nat} {ra : Int32} (a b : Int32) (h : rm_ g u v L ra) : rm_ g (st_si u 15 a) (st_si v 14 b) L ra := h
theorem rm_code1 {g u v : st_T} {L : List Nat} {ra : Int32} (a : Int32) (h : rm_ g u v L ra) : rm_ g (st_si u 15 a) v L ra := h
theorem rm_code2 {g u v : st_T} {L : List Nat} {ra : Int32} (b : Int32) (h : rm_ g u v L ra) : rm_ g u (st_si v 14 b) L ra := h
theorem rm_flag {g u v : st_T} {L : List Nat} {ra : Int32} {x : Int32} (hx : x = 0 ∨ x = 1) (h : rm_ g u v L ra) : rm_ g (st_si u 4 x) (st_si v 5 x) L ra := by
  obtain ⟨hs, ⟨d2, d3, d4, d5, d12, d13⟩, hh, hr⟩ := h
  exact ⟨hs, ⟨d2, d3, rfl, hx, d12, d13⟩, hh, hr⟩
theorem rm_tot {g u v : st_T} {L : List Nat} {ra : Int32} (x : Int32) (h : rm_ g u v L ra) : rm_ g (st_si u 3 x) (st_si v 4 x) L ra := by
  obtain ⟨hs, ⟨d2, d3, d4, d5, d12, d13⟩, hh, hr⟩ := h
  exact ⟨hs, ⟨d2, rfl, d4, d5, d12, d13⟩, hh, hr⟩
theorem rm_fail {g u v : st_T} {L : List Nat} {ra : Int32} (x : Int32) (h : rm_ g u v L ra) : rm_ g (st_si u 13 x) (st_si v 11 x) L ra := by
  obtain ⟨hs, ⟨d2, d3, d4, d5, d12, d13⟩, hh, hr⟩ := h
  exact ⟨hs, ⟨d2, d3, d4, d5, d12, rfl⟩, hh, hr⟩
theorem rm_ra {g u v : st_T} {L : List Nat} {ra : Int32} (x : Int32) (h : rm_ g u v L ra) : rm_ g (st_si u 16 x) v L x := by
  obtain ⟨hs, hd, hh, hr⟩ := h
  exact ⟨hs, hd, hh, rfl⟩
theorem rm_end {g u v : st_T} {L : List Nat} {ra : Int32} (j : Nat) (x : Int32) (h : rm_ g u v L ra) : rm_ g (st_sa u 2 j x) (st_sa v 3 j x) L ra := by
  obtain ⟨hs, ⟨d2, d3, d4, d5, d12, d13⟩, hh, hr⟩ := h
  exact ⟨hs, ⟨by rw [rs_4, rs_4, if_pos rfl, if_pos rfl, d2], d3, d4, d5, d12, d13⟩, hh, hr⟩
theorem rm_res {g u v : st_T} {L : List Nat} {ra : Int32} (j : Nat) (x : Int32) (h : rm_ g u v L ra) : rm_ g (st_sa u 12 j x) (st_sa v 10 j x) L ra := by
  obtain ⟨hs, ⟨d2, d3, d4, d5, d12, d13⟩, hh, hr⟩ := h
  exact ⟨hs, ⟨d2, d3, d4, d5, by rw [rs_4, rs_4, if_pos rfl, if_pos rfl, d12], d13⟩, hh, hr⟩
theorem bl_up {f : Nat → Int32} {k i : Nat} (hi : i < 24) (h : ∀ j, j < 8 → vp_in (f j) 24) : ∀ j, j < 8 → vp_in (upd f k (nI i) j) 24 := by
  intro j hj
  by_cases e : j = k
  · subst e
    rw [up_s]
    exact vp_in_nI hi (by decide)
  · rw [up_n _ _ e]
    exact h j hj
theorem rm_push2 {g u v : st_T} {L : List Nat} {ra : Int32} {i : Nat} (hi : i < 24) (hL : L.length ≤ 8) (ho : ¬ g.2 5 i = 1) (h : rm_ g u v L ra) : rm_ g u (st_si (st_sa v 12 (ix (v.1 13)) (nI i)) 13 (v.1 13 + 1)) (i :: L) ra := by
  obtain ⟨hs, hd, ⟨k1, k2, k3, k4, k5, k6⟩, hr⟩ := h
  have e : ix (v.1 13) = L.length := by rw [k1]; exact ix_n (by omega)
  refine ⟨hs, hd, ⟨?_, ?_, ?_, ?_, k5, ?_⟩, hr⟩
  · rw [rs_1, if_pos rfl, k1, nI_1, List.length_cons]
  · rw [rs_2, rs_4, if_pos rfl, e]
    exact ⟨up_s _ _ _, bk_up k2 (Nat.le_refl _)⟩
  · rw [rs_2, rs_4, if_pos rfl]
    exact bl_up hi k3
  · intro l
    unfold cn_
    rw [if_neg (fun z => ho z.1), Nat.zero_add]
    exact k4 l
  · intro b hb
    rcases List.mem_cons.mp hb with rfl | hb
    · exact fun z => absurd z ho
    · exact k6 b hb
theorem rm_push1 {g u v : st_T} {L : List Nat} {ra : Int32} {i : Nat} (hg : lr_ g) (hi : i < 24) (hL : L.length ≤ 8) (ho : g.2 5 i = 1) (hl : ¬ g.2 0 (hd_ (g.2 6) i) = 0) (h : rm_ g u v L ra) :
    rm_ g (st_sa u 14 (le_ (g.2 0) (hd_ (g.2 6) i)) (u.2 14 (le_ (g.2 0) (hd_ (g.2 6) i)) + 1)) (st_si (st_sa (st_sa v 1 (ix (g.2 0 (hd_ (g.2 6) i))) (v.2 1 (ix (g.2 0 (hd_ (g.2 6) i))) + 1)) 12 (ix (v.1 13)) (nI i)) 13 (v.1 13 + 1)) (i :: L) ra := by
  obtain ⟨hs, hd, ⟨k1, k2, k3, k4, k5, k6⟩, hr⟩ := h
  have e : ix (v.1 13) = L.length := by rw [k1]; exact ix_n (by omega)
  have hh := hd_lt (g.2 6) i
  refine ⟨hs, hd, ⟨?_, ?_, ?_, ?_, ?_, ?_⟩, hr⟩
  · rw [rs_1, if_pos rfl, k1, nI_1, List.length_cons]
  · rw [rs_2, rs_4, if_pos rfl, e]
    exact ⟨up_s _ _ _, bk_up k2 (Nat.le_refl _)⟩
  · rw [rs_2, rs_4, if_pos rfl]
    exact bl_up hi k3
  · intro l
    rw [rs_2, rs_4, if_neg (by decide), rs_4, if_pos rfl]
    unfold cn_
    by_cases hl2 : ix (g.2 0 (hd_ (g.2 6) i)) = l
    · rw [if_pos ⟨ho, hl2⟩, hl2, up_s, k4 l, nI_1, Nat.add_comm]
    · rw [if_neg (fun z => hl2 z.2), up_n _ _ (fun z => hl2 z.symm), Nat.zero_add]
      exact k4 l
  · intro x hx hx0
    rw [rs_2, rs_4, if_pos rfl, rs_4, if_neg (by decide), rs_4, if_pos rfl]
    by_cases hq : g.2 0 x = g.2 0 (hd_ (g.2 6) i)
    · rw [le_iff.mpr hq, hq, up_s, up_s, k5 _ hh hl]
    · rw [up_n _ _ (fun z => hq (le_iff.mp z)), up_n _ _ (fun z => hq (lr_inj hg hx hh z))]
      exact k5 x hx hx0
  · intro b hb
    rcases List.mem_cons.mp hb with rfl | hb
    · exact fun _ => hl
    · exact k6 b hb
theorem gb_eq {g u : st_T} {b : Nat} (h0 : u.2 0 = g.2 0) (h6 : u.2 6 = g.2 6) (hb : b < 24) : pd_giveBack u (nI b) = (u.2 14 (le_ (g.2 0) (hd_ (g.2 6) b)) - 1, st_sa u 14 (le_ (g.2 0) (hd_ (g.2 6) b)) (u.2 14 (le_ (g.2 0) (hd_ (g.2 6) b)) - 1)) := by
  have hh := hd_lt (g.2 6) b
  have h1 := (le_ok (g.2 0) (hd_ (g.2 6) b)).1
  unfold pd_giveBack
  rw [h6, ix_n (by omega), hd_fm, least_le u hh, h0, ix_n (by omega), rs_4, if_pos rfl, up_s]
theorem lo_eq {g v : st_T} {b : Nat} (h0 : v.2 0 = g.2 0) (h7 : v.2 7 = g.2 6) (hb : b < 24) : pm_lockOf v (nI b) = g.2 0 (hd_ (g.2 6) b) := by
  unfold pm_lockOf
  rw [h0, h7, ix_n (by omega)]
  rfl
theorem cl_eq {g v : st_T} {b : Nat} {r : List Nat} (h0 : v.2 0 = g.2 0) (h6 : v.2 6 = g.2 5) (h7 : v.2 7 = g.2 6) (hb : b < 24) (k1 : v.1 13 = nI (r.length + 1)) (hr : r.length < 1000) (k2 : v.2 12 r.length = nI b) :
    pm_close v = if g.2 5 b = 2 then (0, st_si v 13 (nI r.length)) else (v.2 1 (ix (g.2 0 (hd_ (g.2 6) b))) - 1, st_sa (st_si v 13 (nI r.length)) 1 (ix (g.2 0 (hd_ (g.2 6) b))) (v.2 1 (ix (g.2 0 (hd_ (g.2 6) b))) - 1)) := by
  unfold pm_close
  rw [k1, nI_sub1, ix_n (by omega), k2, h6, ix_n (by omega), lo_eq (g := g) (v := st_si v 13 (nI r.length)) h0 h7 hb, rs_4, if_pos rfl, up_s]
theorem rm_pop2 {g u v : st_T} {b : Nat} {r : List Nat} {ra : Int32} (ho : ¬ g.2 5 b = 1) (h : rm_ g u v (b :: r) ra) : rm_ g u (st_si v 13 (nI r.length)) r ra := by
  obtain ⟨hs, hd, ⟨k1, k2, k3, k4, k5, k6⟩, hr⟩ := h
  refine ⟨hs, hd, ⟨rfl, k2.2, k3, ?_, k5, fun b hb => k6 b (List.mem_cons_of_mem _ hb)⟩, hr⟩
  intro l
  have := k4 l
  unfold cn_ at this
  rw [if_neg (fun z => ho z.1), Nat.zero_add] at this
  exact this
theorem rm_pop1 {g u v : st_T} {b : Nat} {r : List Nat} {ra : Int32} (hg : lr_ g) (ho : g.2 5 b = 1) (h : rm_ g u v (b :: r) ra) :
    u.2 14 (le_ (g.2 0) (hd_ (g.2 6) b)) = v.2 1 (ix (g.2 0 (hd_ (g.2 6) b))) ∧ rm_ g (st_sa u 14 (le_ (g.2 0) (hd_ (g.2 6) b)) (u.2 14 (le_ (g.2 0) (hd_ (g.2 6) b)) - 1)) (st_sa (st_si v 13 (nI r.length)) 1 (ix (g.2 0 (hd_ (g.2 6) b))) (v.2 1 (ix (g.2 0 (hd_ (g.2 6) b))) - 1)) r ra := by
  obtain ⟨hs, hd, ⟨k1, k2, k3, k4, k5, k6⟩, hr⟩ := h
  have hh := hd_lt (g.2 6) b
  have hl := k6 b List.mem_cons_self ho
  refine ⟨k5 _ hh hl, hs, hd, ⟨rfl, k2.2, k3, ?_, ?_, fun b hb => k6 b (List.mem_cons_of_mem _ hb)⟩, hr⟩
  · intro l
    have := k4 l
    unfold cn_ at this
    rw [rs_4, if_pos rfl, rs_2]
    by_cases hl2 : ix (g.2 0 (hd_ (g.2 6) b)) = l
    · rw [if_pos ⟨ho, hl2⟩, Nat.add_comm] at this
      rw [hl2, up_s, this, nI_sub1]
    · rw [if_neg (fun z => hl2 z.2), Nat.zero_add] at this
      rw [up_n _ _ (fun z => hl2 z.symm)]
      exact this
  · intro x hx hx0
    rw [rs_4, if_pos rfl, rs_4, if_pos rfl, rs_2]
    by_cases hq : g.2 0 x = g.2 0 (hd_ (g.2 6) b)
    · rw [le_iff.mpr hq, hq, up_s, up_s, k5 _ hh hl]
    · rw [up_n _ _ (fun z => hq (le_iff.mp z)), up_n _ _ (fun z => hq (lr_inj hg hx hh z))]
      exact k5 x hx hx0
end
section
/-! one step: perform and work answer alike -/
def ow_ (g : st_T) (i : Nat) (ra : Int32) (P W : Int32 × st_T) : Prop := (P.2.1 15 = 0 ∧ W.2.1 14 = 0 ∧ P.1 = W.1 ∧ rm_ g P.2 W.2 (sk_ (g.2 5) (i + 1)) ra) ∨ ∃ c : Int32, ¬ c = 0 ∧ P.2.1 15 = c ∧ W.2.1 14 = c ∧ ¬ g.2 5 i = 0 ∧ rm_ g P.2 W.2 (sk_ (g.2 5) i) ra
def pv_ (g : st_T) (n : Nat) : Prop := g.1 9 = nI n ∧ n ≤ 24 ∧ (∀ j, j ≤ n → (sk_ (g.2 5) j).length ≤ 8) ∧ (∀ j, j < n → g.2 5 j = 0 → ¬ sk_ (g.2 5) j = []) ∧ (∀ j, j < n → g.2 7 j = tp_ (sk_ (g.2 5) j)) ∧ (∀ j, j < n → g.2 5 j = 0 → ∀ b r, sk_ (g.2 5) j = b :: r → g.2 8 b = nI j) ∧ ∀ j, j < n → vp_in (g.2 5 j) 16
theorem pp_0 {u : st_T} {p0 : Int32} (h : u.2 5 (ix p0) = 0) : pd_perform u p0 = ((pd_endBlock u (u.2 7 (ix p0))).1, (pd_endBlock u (u.2 7 (ix p0))).2) := by
  unfold pd_perform
  rw [if_pos h]
theorem pp_1 {u : st_T} {p0 : Int32} (h : u.2 5 (ix p0) = 1) : pd_perform u p0 = ((pd_enter u (pj_floorMod_7cf53 (u.2 6 (ix p0)) 5)).1, (pd_enter u (pj_floorMod_7cf53 (u.2 6 (ix p0)) 5)).2) := by
  unfold pd_perform
  rw [if_neg (by rw [h]; decide), if_pos h]
theorem pp_2 {u : st_T} {p0 : Int32} (h : u.2 5 (ix p0) = 2) : pd_perform u p0 = (0, u) := by
  unfold pd_perform
  rw [if_neg (by rw [h]; decide), if_neg (by rw [h]; decide), if_pos h]
theorem pp_3 {u : st_T} {p0 : Int32} (h : u.2 5 (ix p0) = 3) : pd_perform u p0 = ((pd_notifyWaiting u (pj_floorMod_7cf53 (u.2 6 (ix p0)) 5)).1, (pd_notifyWaiting u (pj_floorMod_7cf53 (u.2 6 (ix p0)) 5)).2) := by
  unfold pd_perform
  rw [if_neg (by rw [h]; decide), if_neg (by rw [h]; decide), if_neg (by rw [h]; decide), if_pos h]
theorem pp_4 {u : st_T} {p0 : Int32} (h : u.2 5 (ix p0) = 4) : pd_perform u p0 = ((pd_notifyWaiting u (pj_floorMod_7cf53 (u.2 6 (ix p0)) 5)).1, (pd_notifyWaiting u (pj_floorMod_7cf53 (u.2 6 (ix p0)) 5)).2) := by
  unfold pd_perform
  rw [if_neg (by rw [h]; decide), if_neg (by rw [h]; decide), if_neg (by rw [h]; decide), if_neg (by rw [h]; decide), if_pos h]
theorem pp_5 {u : st_T} {p0 : Int32} (h : u.2 5 (ix p0) = 5) : pd_perform u p0 = ((pd_holdsLock u (pj_floorMod_7cf53 (u.2 6 (ix p0)) 5)).1, (pd_holdsLock u (pj_floorMod_7cf53 (u.2 6 (ix p0)) 5)).2) := by
  unfold pd_perform
  rw [if_neg (by rw [h]; decide), if_neg (by rw [h]; decide), if_neg (by rw [h]; decide), if_neg (by rw [h]; decide), if_neg (by rw [h]; decide), if_pos h]
theorem pp_6 {u : st_T} {p0 : Int32} (h : u.2 5 (ix p0) = 6) : pd_perform u p0 = ((pd_awaitNotice u (u.2 6 (ix p0))).1, (pd_awaitNotice u (u.2 6 (ix p0))).2) := by
  unfold pd_perform
  rw [if_neg (by rw [h]; decide), if_neg (by rw [h]; decide), if_neg (by rw [h]; decide), if_neg (by rw [h]; decide), if_neg (by rw [h]; decide), if_neg (by rw [h]; decide), if_pos h]
theorem pp_7 {u : st_T} {p0 : Int32} (h : u.2 5 (ix p0) = 7) : pd_perform u p0 = (0, st_si u 4 1) := by
  unfold pd_perform
  rw [if_neg (by rw [h]; decide), if_neg (by rw [h]; decide), if_neg (by rw [h]; decide), if_neg (by rw [h]; decide), if_neg (by rw [h]; decide), if_neg (by rw [h]; decide), if_neg (by rw [h]; decide), if_pos h]
theorem pp_8 {u : st_T} {p0 : Int32} (h : u.2 5 (ix p0) = 8) : pd_perform u p0 = (pd_asNumber ((pd_takeFlag u).1), (pd_takeFlag u).2) := by
  unfold pd_perform
  rw [if_neg (by rw [h]; decide), if_neg (by rw [h]; decide), if_neg (by rw [h]; decide), if_neg (by rw [h]; decide), if_neg (by rw [h]; decide), if_neg (by rw [h]; decide), if_neg (by rw [h]; decide), if_neg (by rw [h]; decide), if_pos h]
theorem pp_9 {u : st_T} {p0 : Int32} (h : u.2 5 (ix p0) = 9) : pd_perform u p0 = (pd_asNumber (u.1 4), u) := by
  unfold pd_perform
  rw [if_neg (by rw [h]; decide), if_neg (by rw [h]; decide), if_neg (by rw [h]; decide), if_neg (by rw [h]; decide), if_neg (by rw [h]; decide), if_neg (by rw [h]; decide), if_neg (by rw [h]; decide), if_neg (by rw [h]; decide), if_neg (by rw [h]; decide), if_pos h]
theorem pp_10 {u : st_T} {p0 : Int32} (h : u.2 5 (ix p0) = 10) : pd_perform u p0 = ((pd_sleep u (u.2 6 (ix p0))).1, (pd_sleep u (u.2 6 (ix p0))).2) := by
  unfold pd_perform
  rw [if_neg (by rw [h]; decide), if_neg (by rw [h]; decide), if_neg (by rw [h]; decide), if_neg (by rw [h]; decide), if_neg (by rw [h]; decide), if_neg (by rw [h]; decide), if_neg (by rw [h]; decide), if_neg (by rw [h]; decide), if_neg (by rw [h]; decide), if_neg (by rw [h]; decide), if_pos h]
theorem pp_11 {u : st_T} {p0 : Int32} (h : u.2 5 (ix p0) = 11) : pd_perform u p0 = ((pd_raise u (100 + (pj_floorMod_7cf53 (u.2 6 (ix p0)) 100))).1, (pd_raise u (100 + (pj_floorMod_7cf53 (u.2 6 (ix p0)) 100))).2) := by
  unfold pd_perform
  rw [if_neg (by rw [h]; decide), if_neg (by rw [h]; decide), if_neg (by rw [h]; decide), if_neg (by rw [h]; decide), if_neg (by rw [h]; decide), if_neg (by rw [h]; decide), if_neg (by rw [h]; decide), if_neg (by rw [h]; decide), if_neg (by rw [h]; decide), if_neg (by rw [h]; decide), if_neg (by rw [h]; decide), if_pos h]
theorem pp_12 {u : st_T} {p0 : Int32} (h : u.2 5 (ix p0) = 12) : pd_perform u p0 = ((pd_start u (pj_floorMod_7cf53 (u.2 6 (ix p0)) 4)).1, (pd_start u (pj_floorMod_7cf53 (u.2 6 (ix p0)) 4)).2) := by
  unfold pd_perform
  rw [if_neg (by rw [h]; decide), if_neg (by rw [h]; decide), if_neg (by rw [h]; decide), if_neg (by rw [h]; decide), if_neg (by rw [h]; decide), if_neg (by rw [h]; decide), if_neg (by rw [h]; decide), if_neg (by rw [h]; decide), if_neg (by rw [h]; decide), if_neg (by rw [h]; decide), if_neg (by rw [h]; decide), if_neg (by rw [h]; decide), if_pos h]
theorem pp_13 {u : st_T} {p0 : Int32} (h : u.2 5 (ix p0) = 13) : pd_perform u p0 = (pd_asNumber (u.2 2 (ix (pj_floorMod_7cf53 (u.2 6 (ix p0)) 4))), u) := by
  unfold pd_perform
  rw [if_neg (by rw [h]; decide), if_neg (by rw [h]; decide), if_neg (by rw [h]; decide), if_neg (by rw [h]; decide), if_neg (by rw [h]; decide), if_neg (by rw [h]; decide), if_neg (by rw [h]; decide), if_neg (by rw [h]; decide), if_neg (by rw [h]; decide), if_neg (by rw [h]; decide), if_neg (by rw [h]; decide), if_neg (by rw [h]; decide), if_neg (by rw [h]; decide), if_pos h]
theorem pp_14 {u : st_T} {p0 : Int32} (h : u.2 5 (ix p0) = 14) : pd_perform u p0 = (pd_asNumber (u.2 2 (ix (pj_floorMod_7cf53 (u.2 6 (ix p0)) 4))), u) := by
  unfold pd_perform
  rw [if_neg (by rw [h]; decide), if_neg (by rw [h]; decide), if_neg (by rw [h]; decide), if_neg (by rw [h]; decide), if_neg (by rw [h]; decide), if_neg (by rw [h]; decide), if_neg (by rw [h]; decide), if_neg (by rw [h]; decide), if_neg (by rw [h]; decide), if_neg (by rw [h]; decide), if_neg (by rw [h]; decide), if_neg (by rw [h]; decide), if_neg (by rw [h]; decide), if_neg (by rw [h]; decide), if_pos h]
theorem pp_15 {u : st_T} {p0 : Int32} (h : u.2 5 (ix p0) = 15) : pd_perform u p0 = ((u.1 3) + (u.2 6 (ix p0)), st_si u 3 ((u.1 3) + (u.2 6 (ix p0)))) := by
  unfold pd_perform
  rw [if_neg (by rw [h]; decide), if_neg (by rw [h]; decide), if_neg (by rw [h]; decide), if_neg (by rw [h]; decide), if_neg (by rw [h]; decide), if_neg (by rw [h]; decide), if_neg (by rw [h]; decide), if_neg (by rw [h]; decide), if_neg (by rw [h]; decide), if_neg (by rw [h]; decide), if_neg (by rw [h]; decide), if_neg (by rw [h]; decide), if_neg (by rw [h]; decide), if_neg (by rw [h]; decide), if_neg (by rw [h]; decide), if_pos h]
theorem pw_0 {u : st_T} {p0 : Int32} (h : u.2 6 (ix p0) = 0) : pm_work u p0 = ((pm_close u).1, (pm_close u).2) := by
  unfold pm_work
  rw [if_pos h]
theorem pw_1 {u : st_T} {p0 : Int32} (h : u.2 6 (ix p0) = 1) : pm_work u p0 = ((pm_enter u p0).1, (pm_enter u p0).2) := by
  unfold pm_work
  rw [if_neg (by rw [h]; decide), if_pos h]
theorem pw_2 {u : st_T} {p0 : Int32} (h : u.2 6 (ix p0) = 2) : pm_work u p0 = (0, st_si (st_sa u 12 (ix (u.1 13)) p0) 13 ((u.1 13) + 1)) := by
  unfold pm_work
  rw [if_neg (by rw [h]; decide), if_neg (by rw [h]; decide), if_pos h]
theorem pw_3 {u : st_T} {p0 : Int32} (h : u.2 6 (ix p0) = 3) : pm_work u p0 = (0, (pm_monitor u p0 0).2) := by
  unfold pm_work
  rw [if_neg (by rw [h]; decide), if_neg (by rw [h]; decide), if_neg (by rw [h]; decide), if_pos h]
theorem pw_4 {u : st_T} {p0 : Int32} (h : u.2 6 (ix p0) = 4) : pm_work u p0 = (0, (pm_monitor u p0 0).2) := by
  unfold pm_work
  rw [if_neg (by rw [h]; decide), if_neg (by rw [h]; decide), if_neg (by rw [h]; decide), if_neg (by rw [h]; decide), if_pos h]
theorem pw_5 {u : st_T} {p0 : Int32} (h : u.2 6 (ix p0) = 5) : pm_work u p0 = if ((pm_monitor u p0 1).2).2 1 (ix ((pm_monitor u p0 1).1)) ≤ 0 then (0, (pm_monitor u p0 1).2) else (1, (pm_monitor u p0 1).2) := by
  unfold pm_work
  rw [if_neg (by rw [h]; decide), if_neg (by rw [h]; decide), if_neg (by rw [h]; decide), if_neg (by rw [h]; decide), if_neg (by rw [h]; decide), if_pos h]
theorem pw_6 {u : st_T} {p0 : Int32} (h : u.2 6 (ix p0) = 6) : pm_work u p0 = ((pm_pause u p0).1, (pm_pause u p0).2) := by
  unfold pm_work
  rw [if_neg (by rw [h]; decide), if_neg (by rw [h]; decide), if_neg (by rw [h]; decide), if_neg (by rw [h]; decide), if_neg (by rw [h]; decide), if_neg (by rw [h]; decide), if_pos h]
theorem pw_7 {u : st_T} {p0 : Int32} (h : u.2 6 (ix p0) = 7) : pm_work u p0 = ((pm_others u p0).1, (pm_others u p0).2) := by
  unfold pm_work
  rw [if_neg (by rw [h]; decide), if_neg (by rw [h]; decide), if_neg (by rw [h]; decide), if_neg (by rw [h]; decide), if_neg (by rw [h]; decide), if_neg (by rw [h]; decide), if_neg (by rw [h]; decide), if_pos (by rw [h]; decide)]
theorem pw_8 {u : st_T} {p0 : Int32} (h : u.2 6 (ix p0) = 8) : pm_work u p0 = ((pm_others u p0).1, (pm_others u p0).2) := by
  unfold pm_work
  rw [if_neg (by rw [h]; decide), if_neg (by rw [h]; decide), if_neg (by rw [h]; decide), if_neg (by rw [h]; decide), if_neg (by rw [h]; decide), if_neg (by rw [h]; decide), if_neg (by rw [h]; decide), if_pos (by rw [h]; decide)]
theorem pw_9 {u : st_T} {p0 : Int32} (h : u.2 6 (ix p0) = 9) : pm_work u p0 = ((pm_others u p0).1, (pm_others u p0).2) := by
  unfold pm_work
  rw [if_neg (by rw [h]; decide), if_neg (by rw [h]; decide), if_neg (by rw [h]; decide), if_neg (by rw [h]; decide), if_neg (by rw [h]; decide), if_neg (by rw [h]; decide), if_neg (by rw [h]; decide), if_pos (by rw [h]; decide)]
theorem pw_10 {u : st_T} {p0 : Int32} (h : u.2 6 (ix p0) = 10) : pm_work u p0 = ((pm_others u p0).1, (pm_others u p0).2) := by
  unfold pm_work
  rw [if_neg (by rw [h]; decide), if_neg (by rw [h]; decide), if_neg (by rw [h]; decide), if_neg (by rw [h]; decide), if_neg (by rw [h]; decide), if_neg (by rw [h]; decide), if_neg (by rw [h]; decide), if_pos (by rw [h]; decide)]
theorem pw_11 {u : st_T} {p0 : Int32} (h : u.2 6 (ix p0) = 11) : pm_work u p0 = ((pm_others u p0).1, (pm_others u p0).2) := by
  unfold pm_work
  rw [if_neg (by rw [h]; decide), if_neg (by rw [h]; decide), if_neg (by rw [h]; decide), if_neg (by rw [h]; decide), if_neg (by rw [h]; decide), if_neg (by rw [h]; decide), if_neg (by rw [h]; decide), if_pos (by rw [h]; decide)]
theorem pw_12 {u : st_T} {p0 : Int32} (h : u.2 6 (ix p0) = 12) : pm_work u p0 = ((pm_thread u p0).1, (pm_thread u p0).2) := by
  unfold pm_work
  rw [if_neg (by rw [h]; decide), if_neg (by rw [h]; decide), if_neg (by rw [h]; decide), if_neg (by rw [h]; decide), if_neg (by rw [h]; decide), if_neg (by rw [h]; decide), if_neg (by rw [h]; decide), if_neg (by rw [h]; decide), if_neg (by rw [h]; decide)]
theorem pw_13 {u : st_T} {p0 : Int32} (h : u.2 6 (ix p0) = 13) : pm_work u p0 = ((pm_thread u p0).1, (pm_thread u p0).2) := by
  unfold pm_work
  rw [if_neg (by rw [h]; decide), if_neg (by rw [h]; decide), if_neg (by rw [h]; decide), if_neg (by rw [h]; decide), if_neg (by rw [h]; decide), if_neg (by rw [h]; decide), if_neg (by rw [h]; decide), if_neg (by rw [h]; decide), if_neg (by rw [h]; decide)]
theorem pw_14 {u : st_T} {p0 : Int32} (h : u.2 6 (ix p0) = 14) : pm_work u p0 = ((pm_thread u p0).1, (pm_thread u p0).2) := by
  unfold pm_work
  rw [if_neg (by rw [h]; decide), if_neg (by rw [h]; decide), if_neg (by rw [h]; decide), if_neg (by rw [h]; decide), if_neg (by rw [h]; decide), if_neg (by rw [h]; decide), if_neg (by rw [h]; decide), if_neg (by rw [h]; decide), if_neg (by rw [h]; decide)]
theorem pw_15 {u : st_T} {p0 : Int32} (h : u.2 6 (ix p0) = 15) : pm_work u p0 = ((pm_others u p0).1, (pm_others u p0).2) := by
  unfold pm_work
  rw [if_neg (by rw [h]; decide), if_neg (by rw [h]; decide), if_neg (by rw [h]; decide), if_neg (by rw [h]; decide), if_neg (by rw [h]; decide), if_neg (by rw [h]; decide), if_neg (by rw [h]; decide), if_neg (by rw [h]; decide), if_pos (by rw [h]; decide)]
theorem po_7 {u : st_T} {p0 : Int32} (h : u.2 6 (ix p0) = 7) : pm_others u p0 = (0, st_si u 5 1) := by
  unfold pm_others
  rw [if_pos h]
theorem po_8 {u : st_T} {p0 : Int32} (h : u.2 6 (ix p0) = 8) : pm_others u p0 = if u.1 5 = 0 then (0, st_si u 5 0) else (1, st_si u 5 0) := by
  unfold pm_others
  rw [if_neg (by rw [h]; decide), if_pos h]
theorem po_10 {u : st_T} {p0 : Int32} (h : u.2 6 (ix p0) = 10) : pm_others u p0 = if 0 ≤ u.2 7 (ix p0) then (0, pm_interrupted u) else (0, st_si u 14 3) := by
  unfold pm_others
  rw [if_neg (by rw [h]; decide), if_neg (by rw [h]; decide), if_pos h]
theorem po_11 {u : st_T} {p0 : Int32} (h : u.2 6 (ix p0) = 11) : pm_others u p0 = (0, st_si u 14 (100 + (pm_modulo (u.2 7 (ix p0)) 100))) := by
  unfold pm_others
  rw [if_neg (by rw [h]; decide), if_neg (by rw [h]; decide), if_neg (by rw [h]; decide), if_pos h]
theorem po_15 {u : st_T} {p0 : Int32} (h : u.2 6 (ix p0) = 15) : pm_others u p0 = ((u.1 4) + (u.2 7 (ix p0)), st_si u 4 ((u.1 4) + (u.2 7 (ix p0)))) := by
  unfold pm_others
  rw [if_neg (by rw [h]; decide), if_neg (by rw [h]; decide), if_neg (by rw [h]; decide), if_neg (by rw [h]; decide), if_pos h]
theorem po_9 {u : st_T} {p0 : Int32} (h : u.2 6 (ix p0) = 9) : pm_others u p0 = if u.1 5 = 0 then (0, u) else (1, u) := by
  unfold pm_others
  rw [if_neg (by rw [h]; decide), if_neg (by rw [h]; decide), if_neg (by rw [h]; decide), if_neg (by rw [h]; decide), if_neg (by rw [h]; decide), if_pos h]
theorem sk_st {op : Nat → Int32} {i : Nat} {x : Int32} (h : op i = x) (h0 : ¬ x = 0) (h1 : ¬ x = 1) (h2 : ¬ x = 2) : sk_ op (i + 1) = sk_ op i := by
  rw [sk_s, if_neg (by rw [h]; exact fun z => z.elim h1 h2), if_neg (by rw [h]; exact h0)]
theorem op_u {g u v : st_T} {L : List Nat} {ra : Int32} {i : Nat} (h : rm_ g u v L ra) (hi : i < 24) : u.2 5 (ix (nI i)) = g.2 5 i := by rw [h.1.1.2.1, ix_n (by omega)]
theorem op_v {g u v : st_T} {L : List Nat} {ra : Int32} {i : Nat} (h : rm_ g u v L ra) (hi : i < 24) : v.2 6 (ix (nI i)) = g.2 5 i := by rw [h.1.2.2.1, ix_n (by omega)]
theorem ar_u {g u v : st_T} {L : List Nat} {ra : Int32} {i : Nat} (h : rm_ g u v L ra) (hi : i < 24) : u.2 6 (ix (nI i)) = g.2 6 i := by rw [h.1.1.2.2.1, ix_n (by omega)]
theorem ar_v {g u v : st_T} {L : List Nat} {ra : Int32} {i : Nat} (h : rm_ g u v L ra) (hi : i < 24) : v.2 7 (ix (nI i)) = g.2 6 i := by rw [h.1.2.2.2.1, ix_n (by omega)]
theorem ie_eq {g u : st_T} {b : Nat} (h5 : u.2 5 = g.2 5) (hb : b < 24) : pd_isEnter u (nI b) = if g.2 5 b = 1 then 1 else 0 := by
  unfold pd_isEnter
  rw [if_neg (nI_m1 (by omega)), h5, ix_n (by omega)]
theorem me_eq {g u v : st_T} {L : List Nat} {ra : Int32} {i : Nat} (h : rm_ g u v L ra) (hi : i < 24) : pm_monitor v (nI i) 1 = (g.2 0 (hd_ (g.2 6) i), if g.2 0 (hd_ (g.2 6) i) = 0 then st_si v 14 1 else v) := by
  unfold pm_monitor
  rw [lo_eq h.1.2.1 h.1.2.2.2.1 hi, if_neg (by decide : ¬ (1 : Int32) = 0)]
  split <;> rfl
theorem mn_eq {g u v : st_T} {L : List Nat} {ra : Int32} {i : Nat} (h : rm_ g u v L ra) (hi : i < 24) : (pm_monitor v (nI i) 0).2 = if g.2 0 (hd_ (g.2 6) i) = 0 then st_si v 14 1 else if v.2 1 (ix (g.2 0 (hd_ (g.2 6) i))) = 0 then st_si v 14 2 else v := by
  unfold pm_monitor
  rw [lo_eq h.1.2.1 h.1.2.2.2.1 hi, if_pos (rfl : (0 : Int32) = 0)]
  split
  · rfl
  · split <;> rfl
theorem hl_eq {g u v : st_T} {L : List Nat} {ra : Int32} (h : rm_ g u v L ra) {x : Nat} (hx : x < 5) (h0 : ¬ g.2 0 x = 0) : u.2 14 (ix (pd_leastHandle u (nI x))) = v.2 1 (ix (g.2 0 x)) := by
  have := (le_ok (g.2 0) x).1
  rw [least_le u hx, h.1.1.1, ix_n (by omega)]
  exact h.2.2.1.2.2.2.2.1 x hx h0
theorem wk_0 {g u v : st_T} {n i : Nat} {ra : Int32} (hg : lr_ g) (hp : pv_ g n) (hi : i < n) (h : rm_ g u v (sk_ (g.2 5) i) ra) (hu : u.1 15 = 0) (hv : v.1 14 = 0) (ho : g.2 5 i = 0) : ow_ g i ra (pd_perform u (nI i)) (pm_work v (nI i)) := by
  have hi2 : i < 24 := by have := hp.2.1; omega
  have eu := (op_u h hi2).trans ho
  have ev := (op_v h hi2).trans ho
  have au := ar_u h hi2
  have av := ar_v h hi2
  rw [pp_0 eu, pw_0 ev]
  have hne := hp.2.2.2.1 i hi ho
  cases hs : sk_ (g.2 5) i with
  | nil => exact absurd hs hne
  | cons b r =>
    have hb := sk_mem i b (by rw [hs]; exact List.mem_cons_self)
    have hb2 : b < 24 := by omega
    have ea : u.2 7 (ix (nI i)) = nI b := by rw [h.1.1.2.2.2.1, ix_n (by omega), hp.2.2.2.2.1 i hi, hs]; rfl
    have hlen := hp.2.2.1 i (by omega)
    rw [hs] at h hlen
    rw [List.length_cons] at hlen
    have ec := cl_eq (g := g) (v := v) (b := b) (r := r) h.1.2.1 h.1.2.2.1 h.1.2.2.2.1 hb2 (by have := h.2.2.1.1; rw [List.length_cons] at this; exact this) (by omega) h.2.2.1.2.1.1
    have e1 : sk_ (g.2 5) (i + 1) = r := by rw [sk_s, if_neg (by rw [ho]; decide), if_pos ho, hs]; rfl
    left
    rw [e1, ea]
    unfold pd_endBlock
    rw [ie_eq h.1.1.2.1 hb2, ec]
    by_cases h1 : g.2 5 b = 1
    · rw [if_pos h1, if_neg (by decide : ¬ (1 : Int32) = 0), if_neg (by rw [h1]; decide : ¬ g.2 5 b = 2), gb_eq h.1.1.1 h.1.1.2.2.1 hb2]
      obtain ⟨q1, q2⟩ := rm_pop1 hg h1 h
      exact ⟨hu, hv, by rw [q1], q2⟩
    · rw [if_neg h1, if_pos rfl, if_pos (hb.2.resolve_left h1)]
      exact ⟨hu, hv, rfl, rm_pop2 h1 h⟩
theorem wk_1 {g u v : st_T} {n i : Nat} {ra : Int32} (hg : lr_ g) (hp : pv_ g n) (hi : i < n) (h : rm_ g u v (sk_ (g.2 5) i) ra) (hu : u.1 15 = 0) (hv : v.1 14 = 0) (ho : g.2 5 i = 1) : ow_ g i ra (pd_perform u (nI i)) (pm_work v (nI i)) := by
  have hi2 : i < 24 := by have := hp.2.1; omega
  have eu := (op_u h hi2).trans ho
  have ev := (op_v h hi2).trans ho
  have au := ar_u h hi2
  have av := ar_v h hi2
  rw [pp_1 eu, pw_1 ev]
  have hh := hd_lt (g.2 6) i
  have hlen := hp.2.2.1 i (by omega)
  have e1 : sk_ (g.2 5) (i + 1) = i :: sk_ (g.2 5) i := by rw [sk_s, if_pos (Or.inl ho)]
  have hle := (le_ok (g.2 0) (hd_ (g.2 6) i)).1
  rw [au, hd_fm]
  unfold pd_enter pm_enter
  rw [me_eq h hi2, h.1.1.1, ix_n (by omega), least_le u hh, h.1.1.1, ix_n (by omega)]
  by_cases hl : g.2 0 (hd_ (g.2 6) i) = 0
  · rw [if_pos hl, if_pos hl, if_neg (by rw [rs_1, if_pos rfl]; decide)]
    right
    exact ⟨1, by decide, rfl, rfl, by rw [ho]; decide, rm_code 1 1 h⟩
  · rw [if_neg hl, if_neg hl, if_pos hv]
    left
    refine ⟨hu, hv, ?_, by rw [e1]; exact rm_push1 hg hi2 hlen ho hl h⟩
    rw [rs_4, if_pos rfl, rs_4, if_pos rfl, up_s, up_s]
    have := h.2.2.1.2.2.2.2.1 _ hh hl
    rw [this]
theorem wk_2 {g u v : st_T} {n i : Nat} {ra : Int32} (hg : lr_ g) (hp : pv_ g n) (hi : i < n) (h : rm_ g u v (sk_ (g.2 5) i) ra) (hu : u.1 15 = 0) (hv : v.1 14 = 0) (ho : g.2 5 i = 2) : ow_ g i ra (pd_perform u (nI i)) (pm_work v (nI i)) := by
  have hi2 : i < 24 := by have := hp.2.1; omega
  have eu := (op_u h hi2).trans ho
  have ev := (op_v h hi2).trans ho
  have au := ar_u h hi2
  have av := ar_v h hi2
  rw [pp_2 eu, pw_2 ev]
  have hlen := hp.2.2.1 i (by omega)
  have e1 : sk_ (g.2 5) (i + 1) = i :: sk_ (g.2 5) i := by rw [sk_s, if_pos (Or.inr ho)]
  left
  exact ⟨hu, hv, rfl, by rw [e1]; exact rm_push2 hi2 hlen (by rw [ho]; decide) h⟩
theorem wk_3 {g u v : st_T} {n i : Nat} {ra : Int32} (hg : lr_ g) (hp : pv_ g n) (hi : i < n) (h : rm_ g u v (sk_ (g.2 5) i) ra) (hu : u.1 15 = 0) (hv : v.1 14 = 0) (ho : g.2 5 i = 3) : ow_ g i ra (pd_perform u (nI i)) (pm_work v (nI i)) := by
  have hi2 : i < 24 := by have := hp.2.1; omega
  have eu := (op_u h hi2).trans ho
  have ev := (op_v h hi2).trans ho
  have au := ar_u h hi2
  have av := ar_v h hi2
  rw [pp_3 eu, pw_3 ev]
  have hh := hd_lt (g.2 6) i
  have e1 := sk_st ho (by decide) (by decide) (by decide)
  rw [au, hd_fm, mn_eq h hi2]
  unfold pd_notifyWaiting
  rw [h.1.1.1, ix_n (by omega)]
  by_cases hl : g.2 0 (hd_ (g.2 6) i) = 0
  · rw [if_pos hl, if_pos hl]
    right
    exact ⟨1, by decide, rfl, rfl, by rw [ho]; decide, rm_code 1 1 h⟩
  · rw [if_neg hl, if_neg hl, hl_eq h hh hl]
    by_cases h2 : v.2 1 (ix (g.2 0 (hd_ (g.2 6) i))) = 0
    · rw [if_pos h2, if_pos h2]
      right
      exact ⟨2, by decide, rfl, rfl, by rw [ho]; decide, rm_code 2 2 h⟩
    · rw [if_neg h2, if_neg h2]
      left
      exact ⟨hu, hv, rfl, by rw [e1]; exact h⟩
theorem wk_4 {g u v : st_T} {n i : Nat} {ra : Int32} (hg : lr_ g) (hp : pv_ g n) (hi : i < n) (h : rm_ g u v (sk_ (g.2 5) i) ra) (hu : u.1 15 = 0) (hv : v.1 14 = 0) (ho : g.2 5 i = 4) : ow_ g i ra (pd_perform u (nI i)) (pm_work v (nI i)) := by
  have hi2 : i < 24 := by have := hp.2.1; omega
  have eu := (op_u h hi2).trans ho
  have ev := (op_v h hi2).trans ho
  have au := ar_u h hi2
  have av := ar_v h hi2
  rw [pp_4 eu, pw_4 ev]
  have hh := hd_lt (g.2 6) i
  have e1 := sk_st ho (by decide) (by decide) (by decide)
  rw [au, hd_fm, mn_eq h hi2]
  unfold pd_notifyWaiting
  rw [h.1.1.1, ix_n (by omega)]
  by_cases hl : g.2 0 (hd_ (g.2 6) i) = 0
  · rw [if_pos hl, if_pos hl]
    right
    exact ⟨1, by decide, rfl, rfl, by rw [ho]; decide, rm_code 1 1 h⟩
  · rw [if_neg hl, if_neg hl, hl_eq h hh hl]
    by_cases h2 : v.2 1 (ix (g.2 0 (hd_ (g.2 6) i))) = 0
    · rw [if_pos h2, if_pos h2]
      right
      exact ⟨2, by decide, rfl, rfl, by rw [ho]; decide, rm_code 2 2 h⟩
    · rw [if_neg h2, if_neg h2]
      left
      exact ⟨hu, hv, rfl, by rw [e1]; exact h⟩
theorem wk_5 {g u v : st_T} {n i : Nat} {ra : Int32} (hg : lr_ g) (hp : pv_ g n) (hi : i < n) (h : rm_ g u v (sk_ (g.2 5) i) ra) (hu : u.1 15 = 0) (hv : v.1 14 = 0) (ho : g.2 5 i = 5) : ow_ g i ra (pd_perform u (nI i)) (pm_work v (nI i)) := by
  have hi2 : i < 24 := by have := hp.2.1; omega
  have eu := (op_u h hi2).trans ho
  have ev := (op_v h hi2).trans ho
  have au := ar_u h hi2
  have av := ar_v h hi2
  rw [pp_5 eu, pw_5 ev]
  have hh := hd_lt (g.2 6) i
  have e1 := sk_st ho (by decide) (by decide) (by decide)
  rw [au, hd_fm, me_eq h hi2]
  unfold pd_holdsLock
  rw [h.1.1.1, ix_n (by omega)]
  by_cases hl : g.2 0 (hd_ (g.2 6) i) = 0
  · rw [if_pos hl]
    right
    refine ⟨1, by decide, rfl, ?_, by rw [ho]; decide, ?_⟩
    · rw [if_pos hl]
      split <;> rfl
    · rw [if_pos hl]
      split <;> exact rm_code 1 1 h
  · rw [if_neg hl, if_neg hl, hl_eq h hh hl]
    left
    by_cases h2 : v.2 1 (ix (g.2 0 (hd_ (g.2 6) i))) ≤ 0
    · rw [if_pos h2, if_pos h2]
      exact ⟨hu, hv, by unfold pd_asNumber; rw [if_pos rfl], by rw [e1]; exact h⟩
    · rw [if_neg h2, if_neg h2]
      exact ⟨hu, hv, by unfold pd_asNumber; rw [if_neg (by decide)], by rw [e1]; exact h⟩
theorem wk_6 {g u v : st_T} {n i : Nat} {ra : Int32} (hg : lr_ g) (hp : pv_ g n) (hi : i < n) (h : rm_ g u v (sk_ (g.2 5) i) ra) (hu : u.1 15 = 0) (hv : v.1 14 = 0) (ho : g.2 5 i = 6) : ow_ g i ra (pd_perform u (nI i)) (pm_work v (nI i)) := by
  have hi2 : i < 24 := by have := hp.2.1; omega
  have eu := (op_u h hi2).trans ho
  have ev := (op_v h hi2).trans ho
  have au := ar_u h hi2
  have av := ar_v h hi2
  rw [pp_6 eu, pw_6 ev]
  have e1 := sk_st ho (by decide) (by decide) (by decide)
  unfold pm_pause
  rw [au, av]
  generalize ha : g.2 6 i = a
  unfold pd_awaitNotice
  rw [h.1.1.1, h.1.2.1]
  by_cases hm : a = -2147483648
  · rw [if_pos hm, if_pos hm, show (0 : Int32) - 0 / 5 * 5 = 0 from by decide]
    by_cases hl : g.2 0 (ix 0) = 0
    · rw [if_pos hl, if_pos hl]
      right
      exact ⟨1, by decide, rfl, rfl, by rw [ho]; decide, rm_code 1 1 h⟩
    · rw [if_neg hl, if_neg hl]
      right
      exact ⟨3, by decide, rfl, rfl, by rw [ho]; decide, rm_code 3 3 h⟩
  · rw [if_neg hm, if_neg hm]
    have hin := wt_in hm
    by_cases h0 : 0 ≤ a
    · rw [if_pos h0] at hin
      rw [if_pos h0, if_pos h0, if_pos h0]
      obtain ⟨q1, q2⟩ := in_n hin (by decide)
      by_cases hl : g.2 0 (ix (a - a / 5 * 5)) = 0
      · rw [if_pos hl, if_pos hl]
        right
        exact ⟨1, by decide, rfl, rfl, by rw [ho]; decide, rm_code 1 1 h⟩
      · rw [if_neg hl, if_neg hl]
        have he := hl_eq h q2 hl
        rw [← q1] at he
        rw [he]
        by_cases h2 : v.2 1 (ix (g.2 0 (ix (a - a / 5 * 5)))) = 0
        · rw [if_pos h2, if_pos h2]
          right
          exact ⟨2, by decide, rfl, rfl, by rw [ho]; decide, rm_code 2 2 h⟩
        · rw [if_neg h2, if_neg h2]
          have e4 : u.1 4 = v.1 5 := h.2.1.2.2.1
          unfold pd_takeFlag pm_interrupted
          by_cases h4 : v.1 5 = 0
          · rw [if_pos (e4.trans h4), if_pos h4]
            left
            exact ⟨hu, hv, rfl, by rw [e1]; exact rm_flag (Or.inl rfl) h⟩
          · rw [if_neg (fun z => h4 (e4.symm.trans z)), if_neg h4]
            right
            exact ⟨4, by decide, rfl, rfl, by rw [ho]; decide, rm_code1 4 (rm_flag (Or.inl rfl) (rm_code2 4 h))⟩
    · rw [if_neg h0, if_neg h0, if_neg h0, Int32.zero_sub]
      by_cases hl : g.2 0 (ix (-a - -a / 5 * 5)) = 0
      · rw [if_pos hl, if_pos hl]
        right
        exact ⟨1, by decide, rfl, rfl, by rw [ho]; decide, rm_code 1 1 h⟩
      · rw [if_neg hl, if_neg hl]
        right
        exact ⟨3, by decide, rfl, rfl, by rw [ho]; decide, rm_code 3 3 h⟩
theorem wk_7 {g u v : st_T} {n i : Nat} {ra : Int32} (hg : lr_ g) (hp : pv_ g n) (hi : i < n) (h : rm_ g u v (sk_ (g.2 5) i) ra) (hu : u.1 15 = 0) (hv : v.1 14 = 0) (ho : g.2 5 i = 7) : ow_ g i ra (pd_perform u (nI i)) (pm_work v (nI i)) := by
  have hi2 : i < 24 := by have := hp.2.1; omega
  have eu := (op_u h hi2).trans ho
  have ev := (op_v h hi2).trans ho
  have au := ar_u h hi2
  have av := ar_v h hi2
  rw [pp_7 eu, pw_7 ev]
  have e1 := sk_st ho (by decide) (by decide) (by decide)
  rw [po_7 ev]
  left
  exact ⟨hu, hv, rfl, by rw [e1]; exact rm_flag (Or.inr rfl) h⟩
theorem wk_8 {g u v : st_T} {n i : Nat} {ra : Int32} (hg : lr_ g) (hp : pv_ g n) (hi : i < n) (h : rm_ g u v (sk_ (g.2 5) i) ra) (hu : u.1 15 = 0) (hv : v.1 14 = 0) (ho : g.2 5 i = 8) : ow_ g i ra (pd_perform u (nI i)) (pm_work v (nI i)) := by
  have hi2 : i < 24 := by have := hp.2.1; omega
  have eu := (op_u h hi2).trans ho
  have ev := (op_v h hi2).trans ho
  have au := ar_u h hi2
  have av := ar_v h hi2
  rw [pp_8 eu, pw_8 ev]
  have e1 := sk_st ho (by decide) (by decide) (by decide)
  have e4 : u.1 4 = v.1 5 := h.2.1.2.2.1
  rw [po_8 ev]
  left
  unfold pd_takeFlag pd_asNumber
  by_cases h4 : v.1 5 = 0
  · rw [if_pos (e4.trans h4), if_pos h4]
    exact ⟨hu, hv, rfl, by rw [e1]; exact rm_flag (Or.inl rfl) h⟩
  · rw [if_neg (fun z => h4 (e4.symm.trans z)), if_neg h4]
    exact ⟨hu, hv, rfl, by rw [e1]; exact rm_flag (Or.inl rfl) h⟩
theorem wk_9 {g u v : st_T} {n i : Nat} {ra : Int32} (hg : lr_ g) (hp : pv_ g n) (hi : i < n) (h : rm_ g u v (sk_ (g.2 5) i) ra) (hu : u.1 15 = 0) (hv : v.1 14 = 0) (ho : g.2 5 i = 9) : ow_ g i ra (pd_perform u (nI i)) (pm_work v (nI i)) := by
  have hi2 : i < 24 := by have := hp.2.1; omega
  have eu := (op_u h hi2).trans ho
  have ev := (op_v h hi2).trans ho
  have au := ar_u h hi2
  have av := ar_v h hi2
  rw [pp_9 eu, pw_9 ev]
  have e1 := sk_st ho (by decide) (by decide) (by decide)
  have e4 : u.1 4 = v.1 5 := h.2.1.2.2.1
  rw [po_9 ev]
  left
  unfold pd_asNumber
  by_cases h4 : v.1 5 = 0
  · rw [if_pos (e4.trans h4), if_pos h4]
    exact ⟨hu, hv, rfl, by rw [e1]; exact h⟩
  · rw [if_neg (fun z => h4 (e4.symm.trans z)), if_neg h4]
    exact ⟨hu, hv, rfl, by rw [e1]; exact h⟩
theorem wk_10 {g u v : st_T} {n i : Nat} {ra : Int32} (hg : lr_ g) (hp : pv_ g n) (hi : i < n) (h : rm_ g u v (sk_ (g.2 5) i) ra) (hu : u.1 15 = 0) (hv : v.1 14 = 0) (ho : g.2 5 i = 10) : ow_ g i ra (pd_perform u (nI i)) (pm_work v (nI i)) := by
  have hi2 : i < 24 := by have := hp.2.1; omega
  have eu := (op_u h hi2).trans ho
  have ev := (op_v h hi2).trans ho
  have au := ar_u h hi2
  have av := ar_v h hi2
  rw [pp_10 eu, pw_10 ev]
  have e1 := sk_st ho (by decide) (by decide) (by decide)
  have e4 : u.1 4 = v.1 5 := h.2.1.2.2.1
  rw [po_10 ev, au, av]
  unfold pd_sleep
  by_cases h0 : 0 ≤ g.2 6 i
  · rw [if_pos h0, if_pos h0]
    unfold pd_takeFlag pm_interrupted
    by_cases h4 : v.1 5 = 0
    · rw [if_pos (e4.trans h4), if_pos h4]
      left
      exact ⟨hu, hv, rfl, by rw [e1]; exact rm_flag (Or.inl rfl) h⟩
    · rw [if_neg (fun z => h4 (e4.symm.trans z)), if_neg h4]
      right
      exact ⟨4, by decide, rfl, rfl, by rw [ho]; decide, rm_code1 4 (rm_flag (Or.inl rfl) (rm_code2 4 h))⟩
  · rw [if_neg h0, if_neg h0]
    right
    exact ⟨3, by decide, rfl, rfl, by rw [ho]; decide, rm_code 3 3 h⟩
theorem wk_11 {g u v : st_T} {n i : Nat} {ra : Int32} (hg : lr_ g) (hp : pv_ g n) (hi : i < n) (h : rm_ g u v (sk_ (g.2 5) i) ra) (hu : u.1 15 = 0) (hv : v.1 14 = 0) (ho : g.2 5 i = 11) : ow_ g i ra (pd_perform u (nI i)) (pm_work v (nI i)) := by
  have hi2 : i < 24 := by have := hp.2.1; omega
  have eu := (op_u h hi2).trans ho
  have ev := (op_v h hi2).trans ho
  have au := ar_u h hi2
  have av := ar_v h hi2
  rw [pp_11 eu, pw_11 ev]
  rw [po_11 ev, au, av, fm_mo (by decide) (by decide)]
  right
  refine ⟨100 + pm_modulo (g.2 6 i) 100, ?_, rfl, rfl, by rw [ho]; decide, rm_code _ _ h⟩
  have q := vp_in_iff.mp (mo_in (a := g.2 6 i) (m := 100) (n := 100) (by decide) (by decide) (by decide))
  intro z
  have := congrArg Int32.toInt z
  rw [Jvm.Kit.i32_add (by rw [show (100 : Int32).toInt = 100 by decide]; omega) (by rw [show (100 : Int32).toInt = 100 by decide]; omega), show (100 : Int32).toInt = 100 by decide, Int32.toInt_zero] at this
  omega
theorem wk_12 {g u v : st_T} {n i : Nat} {ra : Int32} (hg : lr_ g) (hp : pv_ g n) (hi : i < n) (h : rm_ g u v (sk_ (g.2 5) i) ra) (hu : u.1 15 = 0) (hv : v.1 14 = 0) (ho : g.2 5 i = 12) : ow_ g i ra (pd_perform u (nI i)) (pm_work v (nI i)) := by
  have hi2 : i < 24 := by have := hp.2.1; omega
  have eu := (op_u h hi2).trans ho
  have ev := (op_v h hi2).trans ho
  have au := ar_u h hi2
  have av := ar_v h hi2
  rw [pp_12 eu, pw_12 ev]
  have e1 := sk_st ho (by decide) (by decide) (by decide)
  have e2 : u.2 2 = v.2 3 := h.2.1.1
  have e3 : u.1 3 = v.1 4 := h.2.1.2.1
  unfold pd_start pm_thread
  rw [au, av, fm_mo (by decide) (by decide), if_pos (by rw [ev]; decide : v.2 6 (ix (nI i)) ≤ 12), e2]
  by_cases h0 : v.2 3 (ix (pm_modulo (g.2 6 i) 4)) = 0
  · rw [if_pos h0, if_pos h0]
    left
    refine ⟨hu, hv, rfl, ?_⟩
    rw [e1, e3]
    exact rm_tot _ (rm_end _ _ h)
  · rw [if_neg h0, if_neg h0]
    right
    exact ⟨5, by decide, rfl, rfl, by rw [ho]; decide, rm_code 5 5 h⟩
theorem wk_13 {g u v : st_T} {n i : Nat} {ra : Int32} (hg : lr_ g) (hp : pv_ g n) (hi : i < n) (h : rm_ g u v (sk_ (g.2 5) i) ra) (hu : u.1 15 = 0) (hv : v.1 14 = 0) (ho : g.2 5 i = 13) : ow_ g i ra (pd_perform u (nI i)) (pm_work v (nI i)) := by
  have hi2 : i < 24 := by have := hp.2.1; omega
  have eu := (op_u h hi2).trans ho
  have ev := (op_v h hi2).trans ho
  have au := ar_u h hi2
  have av := ar_v h hi2
  rw [pp_13 eu, pw_13 ev]
  have e1 := sk_st ho (by decide) (by decide) (by decide)
  have e2 : u.2 2 = v.2 3 := h.2.1.1
  unfold pm_thread pd_asNumber
  rw [au, av, fm_mo (by decide) (by decide), if_neg (by rw [ev]; decide : ¬ v.2 6 (ix (nI i)) ≤ 12), e2]
  left
  by_cases h0 : v.2 3 (ix (pm_modulo (g.2 6 i) 4)) = 0
  · rw [if_pos h0, if_pos h0]
    exact ⟨hu, hv, rfl, by rw [e1]; exact h⟩
  · rw [if_neg h0, if_neg h0]
    exact ⟨hu, hv, rfl, by rw [e1]; exact h⟩
theorem wk_14 {g u v : st_T} {n i : Nat} {ra : Int32} (hg : lr_ g) (hp : pv_ g n) (hi : i < n) (h : rm_ g u v (sk_ (g.2 5) i) ra) (hu : u.1 15 = 0) (hv : v.1 14 = 0) (ho : g.2 5 i = 14) : ow_ g i ra (pd_perform u (nI i)) (pm_work v (nI i)) := by
  have hi2 : i < 24 := by have := hp.2.1; omega
  have eu := (op_u h hi2).trans ho
  have ev := (op_v h hi2).trans ho
  have au := ar_u h hi2
  have av := ar_v h hi2
  rw [pp_14 eu, pw_14 ev]
  have e1 := sk_st ho (by decide) (by decide) (by decide)
  have e2 : u.2 2 = v.2 3 := h.2.1.1
  unfold pm_thread pd_asNumber
  rw [au, av, fm_mo (by decide) (by decide), if_neg (by rw [ev]; decide : ¬ v.2 6 (ix (nI i)) ≤ 12), e2]
  left
  by_cases h0 : v.2 3 (ix (pm_modulo (g.2 6 i) 4)) = 0
  · rw [if_pos h0, if_pos h0]
    exact ⟨hu, hv, rfl, by rw [e1]; exact h⟩
  · rw [if_neg h0, if_neg h0]
    exact ⟨hu, hv, rfl, by rw [e1]; exact h⟩
theorem wk_15 {g u v : st_T} {n i : Nat} {ra : Int32} (hg : lr_ g) (hp : pv_ g n) (hi : i < n) (h : rm_ g u v (sk_ (g.2 5) i) ra) (hu : u.1 15 = 0) (hv : v.1 14 = 0) (ho : g.2 5 i = 15) : ow_ g i ra (pd_perform u (nI i)) (pm_work v (nI i)) := by
  have hi2 : i < 24 := by have := hp.2.1; omega
  have eu := (op_u h hi2).trans ho
  have ev := (op_v h hi2).trans ho
  have au := ar_u h hi2
  have av := ar_v h hi2
  rw [pp_15 eu, pw_15 ev]
  have e1 := sk_st ho (by decide) (by decide) (by decide)
  have e3 : u.1 3 = v.1 4 := h.2.1.2.1
  rw [po_15 ev, au, av]
  left
  rw [e3]
  exact ⟨hu, hv, rfl, by rw [e1]; exact rm_tot _ h⟩
theorem wk_all {g u v : st_T} {n i : Nat} {ra : Int32} (hg : lr_ g) (hp : pv_ g n) (hi : i < n) (h : rm_ g u v (sk_ (g.2 5) i) ra) (hu : u.1 15 = 0) (hv : v.1 14 = 0) : ow_ g i ra (pd_perform u (nI i)) (pm_work v (nI i)) := by
  obtain ⟨k, hk, ho⟩ := vp_in_of (hp.2.2.2.2.2.2 i hi) (by decide)
  match k, hk, ho with
  | 0, _, ho => exact wk_0 hg hp hi h hu hv (ho.trans (by decide))
  | 1, _, ho => exact wk_1 hg hp hi h hu hv (ho.trans (by decide))
  | 2, _, ho => exact wk_2 hg hp hi h hu hv (ho.trans (by decide))
  | 3, _, ho => exact wk_3 hg hp hi h hu hv (ho.trans (by decide))
  | 4, _, ho => exact wk_4 hg hp hi h hu hv (ho.trans (by decide))
  | 5, _, ho => exact wk_5 hg hp hi h hu hv (ho.trans (by decide))
  | 6, _, ho => exact wk_6 hg hp hi h hu hv (ho.trans (by decide))
  | 7, _, ho => exact wk_7 hg hp hi h hu hv (ho.trans (by decide))
  | 8, _, ho => exact wk_8 hg hp hi h hu hv (ho.trans (by decide))
  | 9, _, ho => exact wk_9 hg hp hi h hu hv (ho.trans (by decide))
  | 10, _, ho => exact wk_10 hg hp hi h hu hv (ho.trans (by decide))
  | 11, _, ho => exact wk_11 hg hp hi h hu hv (ho.trans (by decide))
  | 12, _, ho => exact wk_12 hg hp hi h hu hv (ho.trans (by decide))
  | 13, _, ho => exact wk_13 hg hp hi h hu hv (ho.trans (by decide))
  | 14, _, ho => exact wk_14 hg hp hi h hu hv (ho.trans (by decide))
  | 15, _, ho => exact wk_15 hg hp hi h hu hv (ho.trans (by decide))
  | k + 16, hk, _ => exact absurd hk (by omega)
end
section
/-! throwing, and the whole run -/
theorem bh_ok {g v : st_T} {n : Nat} (h8 : v.1 8 = nI n) (h6 : v.2 6 = g.2 5) (hn : n ≤ 24) (hw : sk_ (g.2 5) n = []) (b : Nat) : ∀ (f i : Nat) (l : List Nat), i ≤ n → n - i < f → sk_ (g.2 5) i = l ++ b :: sk_ (g.2 5) b → ∃ e, i ≤ e ∧ e < n ∧ g.2 5 e = 0 ∧ sk_ (g.2 5) e = b :: sk_ (g.2 5) b ∧ pm_bh v f (nI (l.length + 1)) (nI i) = nI (e + 1) := by
  intro f
  induction f with
  | zero => intro i l h1 h2; omega
  | succ f ih =>
    intro i l h1 h2 hs
    have hin : i < n := by
      rcases Nat.lt_or_ge i n with z | z
      · exact z
      · have e : i = n := by omega
        subst e
        rw [hw] at hs
        cases l <;> cases hs
    have hlen : l.length ≤ i := by
      have hx : ∀ (m : Nat), (sk_ (g.2 5) m).length ≤ m := by
        intro m
        induction m with
        | zero => exact Nat.le_refl _
        | succ m im =>
          rw [sk_s]
          split
          · rw [List.length_cons]; omega
          · split
            · rw [List.length_tail]; omega
            · omega
      have := hx i
      rw [hs, List.length_append] at this
      omega
    rw [pm_bh_s, h8, if_neg (by rw [nI_leI (by omega) (by omega)]; omega), h6, ix_n (by omega)]
    by_cases h3 : g.2 5 i = 1 ∨ g.2 5 i = 2
    · have e1 : sk_ (g.2 5) (i + 1) = (i :: l) ++ b :: sk_ (g.2 5) b := by rw [sk_s, if_pos h3, hs]; rfl
      obtain ⟨e, q1, q2, q3, q4, q5⟩ := ih (i + 1) (i :: l) (by omega) (by omega) e1
      refine ⟨e, by omega, q2, q3, q4, ?_⟩
      rw [List.length_cons] at q5
      by_cases h4 : g.2 5 i = 1
      · rw [if_pos h4, nI_1, nI_1]; exact q5
      · rw [if_neg h4, if_pos (h3.resolve_left h4), nI_1, nI_1]; exact q5
    · rw [if_neg (fun z => h3 (Or.inl z)), if_neg (fun z => h3 (Or.inr z))]
      by_cases h0 : g.2 5 i = 0
      · rw [if_pos h0, nI_subm]
        cases l with
        | nil =>
          rw [if_pos (by decide)]
          exact ⟨i, Nat.le_refl _, hin, h0, hs, nI_1 i⟩
        | cons c l =>
          have e1 : sk_ (g.2 5) (i + 1) = l ++ b :: sk_ (g.2 5) b := by rw [sk_s, if_neg h3, if_pos h0, hs]; rfl
          rw [List.length_cons] at hlen ⊢
          rw [if_neg (fun z => by have := (nI_eq0 (by omega)).mp z; omega), nI_1]
          obtain ⟨e, q1, q2, q3, q4, q5⟩ := ih (i + 1) l (by omega) (by omega) e1
          exact ⟨e, by omega, q2, q3, q4, q5⟩
      · rw [if_neg h0, nI_1]
        have e1 : sk_ (g.2 5) (i + 1) = l ++ b :: sk_ (g.2 5) b := by rw [sk_s, if_neg h3, if_neg h0, hs]
        obtain ⟨e, q1, q2, q3, q4, q5⟩ := ih (i + 1) l (by omega) (by omega) e1
        exact ⟨e, by omega, q2, q3, q4, q5⟩
theorem be_ok {g v : st_T} {n b : Nat} (h8 : v.1 8 = nI n) (h6 : v.2 6 = g.2 5) (hn : n ≤ 24) (hw : sk_ (g.2 5) n = []) (hb : b < n) (ho : g.2 5 b = 1 ∨ g.2 5 b = 2) : ∃ e, b < e ∧ e < n ∧ g.2 5 e = 0 ∧ sk_ (g.2 5) e = b :: sk_ (g.2 5) b ∧ pm_behind v (nI b) = nI (e + 1) := by
  have e1 : sk_ (g.2 5) (b + 1) = [] ++ b :: sk_ (g.2 5) b := by rw [sk_s, if_pos ho]; rfl
  obtain ⟨e, q1, q2, q3, q4, q5⟩ := bh_ok h8 h6 hn hw b 24 (b + 1) [] (by omega) (by omega) e1
  refine ⟨e, by omega, q2, q3, q4, ?_⟩
  unfold pm_behind
  rw [pm_bh_s, h8, if_neg (by rw [nI_leI (by omega) (by omega)]; omega), h6, ix_n (by omega)]
  have q5 : pm_bh v 24 (0 + 1) (nI b + 1) = nI (e + 1) := by rw [nI_1]; exact q5
  by_cases h4 : g.2 5 b = 1
  · rw [if_pos h4]; exact q5
  · rw [if_neg h4, if_pos (ho.resolve_left h4)]; exact q5
theorem lb_ok {g : st_T} {n : Nat} (hg : lr_ g) (hp : pv_ g n) (hw : sk_ (g.2 5) n = []) {i : Nat} (hi : i < n) (ho : ¬ g.2 5 i = 0) : ∀ (L : List Nat) (K fu fv : Nat) (u v : st_T) (ra c : Int32), rm_ g u v L ra → (∃ j, L = sk_ (g.2 5) j) → (∀ x, x ∈ L → x ∈ sk_ (g.2 5) i) → u.1 15 = c → v.1 14 = c → L.length ≤ K → K ≤ 8 → K < fu → L.length < fv →
    ∃ t, i < t ∧ t ≤ n ∧ rm_ g (pd_lt (pd_lb fu u (tp_ L) (nI K)).2 (pd_lb fu u (tp_ L) (nI K)).1) (pm_uw fv v).2 (sk_ (g.2 5) t) (nI t) ∧ (pm_uw fv v).1 = nI t ∧ pm_uok fv v := by
  have hn := hp.2.1
  intro L
  induction L with
  | nil =>
    intro K fu fv u v ra c h hj hx hu hv hK hK8 hfu hfv
    obtain ⟨fu, rfl⟩ : ∃ k, fu = k + 1 := ⟨fu - 1, by omega⟩
    obtain ⟨fv, rfl⟩ : ∃ k, fv = k + 1 := ⟨fv - 1, by rw [List.length_nil] at hfv; omega⟩
    have e1 : pd_lb (fu + 1) u (tp_ []) (nI K) = (-1, u) := by
      rw [pd_lb_s]
      have : pd_isEnter u (tp_ []) = 0 := by unfold pd_isEnter; exact if_pos rfl
      rw [if_pos this]
      split <;> rfl
    have e2 : v.1 13 ≤ 0 := by rw [h.2.2.1.1]; decide
    have e3 : v.1 8 = nI n := h.1.2.2.2.2.1.trans hp.1
    have e4 : u.1 9 = nI n := h.1.1.2.2.2.2.2.1.trans hp.1
    refine ⟨n, hi, Nat.le_refl _, ?_, ?_, ?_⟩
    · rw [e1, pm_uw_s, if_pos e2, hw]
      unfold pd_lt
      rw [if_pos rfl, hu, hv, e4]
      exact rm_ra _ (rm_fail _ h)
    · rw [pm_uw_s, if_pos e2]
      exact e3
    · rw [pm_uok, if_pos e2]
      trivial
  | cons b r ih =>
    intro K fu fv u v ra c h hj hx hu hv hK hK8 hfu hfv
    obtain ⟨j, hj⟩ := hj
    rw [List.length_cons] at hK hfv
    obtain ⟨fu, rfl⟩ : ∃ k, fu = k + 1 := ⟨fu - 1, by omega⟩
    obtain ⟨fv, rfl⟩ : ∃ k, fv = k + 1 := ⟨fv - 1, by omega⟩
    obtain ⟨K, rfl⟩ : ∃ k, K = k + 1 := ⟨K - 1, by omega⟩
    have hbi := sk_mem i b (hx b List.mem_cons_self)
    have hb24 : b < 24 := by omega
    have hr : r = sk_ (g.2 5) b := sk_rest hj.symm
    have k1 : v.1 13 = nI (r.length + 1) := h.2.2.1.1
    have k2 : v.2 12 r.length = nI b := h.2.2.1.2.1.1
    have hc := cl_eq (g := g) (v := v) (b := b) (r := r) h.1.2.1 h.1.2.2.1 h.1.2.2.2.1 hb24 k1 (by omega) k2
    have e2 : ¬ v.1 13 ≤ 0 := by rw [k1, nI_le0 (by omega)]; omega
    have eb : v.2 12 (ix (v.1 13 - 1)) = nI b := by rw [k1, nI_sub1, ix_n (by omega), k2]
    have e8 : v.1 8 = nI n := h.1.2.2.2.2.1.trans hp.1
    have e6 : v.2 6 = g.2 5 := h.1.2.2.1
    have n24 : (nI n).toInt ≤ 24 := by rw [nI_toInt (by omega)]; omega
    have base : vp_in (v.1 13 - 1) 8 ∧ (∀ j : Nat, j < 8 → vp_in (v.2 12 j) 24) ∧ (∀ j : Nat, j < 5 → vp_in (v.2 0 j) 520) := ⟨by rw [k1, nI_sub1]; exact vp_in_nI (by omega) (by decide), h.2.2.1.2.2.1, by rw [h.1.2.1]; exact hg⟩
    by_cases h1 : g.2 5 b = 1
    · rw [if_neg (by rw [h1]; decide : ¬ g.2 5 b = 2)] at hc
      obtain ⟨q1, q2⟩ := rm_pop1 hg h1 h
      have e1 : pd_lb (fu + 1) u (tp_ (b :: r)) (nI (K + 1)) = pd_lb fu (st_sa u 14 (le_ (g.2 0) (hd_ (g.2 6) b)) (u.2 14 (le_ (g.2 0) (hd_ (g.2 6) b)) - 1)) (tp_ r) (nI K) := by
        rw [pd_lb_s, if_neg (by rw [nI_le0 (by omega)]; omega)]
        show (if pd_isEnter u (nI b) = 0 then _ else _) = _
        rw [ie_eq h.1.1.2.1 hb24, if_pos h1, if_neg (by decide), nI_subm]
        have eg := gb_eq (g := g) (u := u) h.1.1.1 h.1.1.2.2.1 hb24
        have e7 : (pd_giveBack u (nI b)).2.2 7 (ix (nI b)) = tp_ r := by
          rw [eg]
          show u.2 7 (ix (nI b)) = tp_ r
          rw [h.1.1.2.2.2.1, ix_n (by omega), hp.2.2.2.2.1 b (by omega), hr]
        show pd_lb fu (pd_giveBack u (nI b)).2 ((pd_giveBack u (nI b)).2.2 7 (ix (nI b))) (nI K) = _
        rw [e7, eg]
      have e3 : ¬ (pm_close v).2.2 6 (ix (v.2 12 (ix (v.1 13 - 1)))) = 2 := by
        rw [hc, eb, ix_n (by omega)]
        show ¬ v.2 6 b = 2
        rw [e6, h1]; decide
      have e4 : pm_uw (fv + 1) v = pm_uw fv (pm_close v).2 := by rw [pm_uw_s, if_neg e2, if_neg e3]
      obtain ⟨t, t1, t2, t3, t4, t5⟩ := ih K fu fv _ _ ra c q2 ⟨b, hr⟩ (fun x hx2 => hx x (List.mem_cons_of_mem _ hx2)) hu hv (by omega) (by omega) (by omega) (by omega)
      rw [hc] at e4
      refine ⟨t, t1, t2, ?_, ?_, ?_⟩
      · rw [e1, e4]; exact t3
      · rw [e4]; exact t4
      · rw [pm_uok, if_neg e2]
        refine ⟨⟨base.1, base.2.1, base.2.2, ?_⟩, fun _ => ?_⟩
        · rw [hc]
          show (v.1 8).toInt ≤ 24
          rw [e8]; exact n24
        · rw [hc]; exact t5
    · have h2 := hbi.2.resolve_left h1
      rw [if_pos h2] at hc
      have q2 := rm_pop2 h1 h
      have e1 : pd_lb (fu + 1) u (tp_ (b :: r)) (nI (K + 1)) = (nI b, u) := by
        rw [pd_lb_s, if_neg (by rw [nI_le0 (by omega)]; omega)]
        show (if pd_isEnter u (nI b) = 0 then (nI b, u) else _) = _
        rw [ie_eq h.1.1.2.1 hb24, if_neg h1, if_pos rfl]
      obtain ⟨e, f1, f2, f3, f4, f5⟩ := be_ok (v := st_sa (st_si v 13 (nI r.length)) 10 b c) (g := g) e8 e6 hn hw (by omega : b < n) hbi.2
      have hie : i ≤ e := by
        rcases Nat.lt_or_ge e i with z | z
        · exact absurd (hx b List.mem_cons_self) (sk_gone f3 f4 i z)
        · exact z
      have hne : i ≠ e := fun z => ho (z ▸ f3)
      have e3 : (pm_close v).2.2 6 (ix (v.2 12 (ix (v.1 13 - 1)))) = 2 := by
        rw [hc, eb, ix_n (by omega)]
        show v.2 6 b = 2
        rw [e6, h2]
      have e4 : pm_uw (fv + 1) v = (nI (e + 1), st_sa (st_si v 13 (nI r.length)) 10 b c) := by
        rw [pm_uw_s, if_neg e2, if_pos e3, hc, eb, ix_n (by omega)]
        show (pm_behind (st_sa (st_si v 13 (nI r.length)) 10 b (v.1 14)) (nI b), st_sa (st_si v 13 (nI r.length)) 10 b (v.1 14)) = _
        rw [hv, f5]
      have e5 : pd_lt u (nI b) = st_si (st_sa u 12 b c) 16 (nI (e + 1)) := by
        unfold pd_lt
        rw [if_neg (nI_m1 (by omega)), ix_n (by omega), hu, h.1.1.2.2.2.2.1, hp.2.2.2.2.2.1 e f2 f3 b _ f4, nI_1]
      have e9 : sk_ (g.2 5) (e + 1) = r := by
        rw [sk_s, if_neg (by rw [f3]; decide), if_pos f3, f4, hr]; rfl
      refine ⟨e + 1, by omega, by omega, ?_, ?_, ?_⟩
      · rw [e1, e4, e9]
        show rm_ g (pd_lt u (nI b)) _ r _
        rw [e5]
        exact rm_ra _ (rm_res _ _ q2)
      · rw [e4]
      · rw [pm_uok, if_neg e2]
        refine ⟨⟨base.1, base.2.1, base.2.2, ?_⟩, fun z => absurd e3 z⟩
        rw [hc]
        show (v.1 8).toInt ≤ 24
        rw [e8]; exact n24
theorem tp_in {op : Nat → Int32} {j : Nat} (hj : j ≤ 24) : tp_ (sk_ op j) = -1 ∨ vp_in (tp_ (sk_ op j)) 24 := by
  cases h : sk_ op j with
  | nil => exact Or.inl rfl
  | cons b r =>
    have := (sk_mem j b (by rw [h]; exact List.mem_cons_self)).1
    exact Or.inr (vp_in_nI (by omega) (by decide))
theorem run_ok {g : st_T} {n : Nat} (hg : lr_ g) (hp : pv_ g n) (hw : sk_ (g.2 5) n = []) (har : ∀ j, j < 24 → g.2 7 j = -1 ∨ vp_in (g.2 7 j) 24) : ∀ (fu i j fv ra : Nat) (u v : st_T) (d : Int32), rm_ g u v (sk_ (g.2 5) j) (nI ra) → i ≤ j → j ≤ n → (i = j ∧ ra ≤ i ∨ i < j ∧ ra = j) → n - i < fu → n - j < fv →
    pd_rok fu u (nI i) ∧ pm_rok fv v (nI j) ∧ (pd_rl fu u d (nI i)).1 = (pm_rl fv v d (nI j)).1 ∧ ∃ ra2, rm_ g (pd_rl fu u d (nI i)).2 (pm_rl fv v d (nI j)).2 [] ra2 := by
  have hn := hp.2.1
  intro fu
  induction fu with
  | zero => intro i j fv ra u v d h1 h2 h3 h4 h5; omega
  | succ fu ih =>
    intro i j fv ra u v d h hij hjn hra hfu hfv
    have e9 : u.1 9 = nI n := h.1.1.2.2.2.2.2.1.trans hp.1
    have e8 : v.1 8 = nI n := h.1.2.2.2.2.1.trans hp.1
    have e16 : u.1 16 = nI ra := h.2.2.2
    rcases hra with ⟨rfl, hra⟩ | ⟨hlt, rfl⟩
    · obtain ⟨fv, rfl⟩ : ∃ k, fv = k + 1 := ⟨fv - 1, by omega⟩
      rcases Nat.lt_or_ge i n with hin | hin
      · have a1 : ¬ u.1 9 ≤ nI i := by rw [e9, nI_leI (by omega) (by omega)]; omega
        have a2 : ¬ v.1 8 ≤ nI i := by rw [e8, nI_leI (by omega) (by omega)]; omega
        have a3 : ¬ nI i < u.1 16 := by rw [e16, nI_ltI (by omega) (by omega)]; omega
        have hi24 : i < 24 := by omega
        have hk := wk_all hg hp hin (rm_code 0 0 h) (by rw [rs_1, if_pos rfl]) (by rw [rs_1, if_pos rfl])
        have hlen := hp.2.2.1 i (by omega)
        have k1 : v.1 13 = nI (sk_ (g.2 5) i).length := h.2.2.1.1
        have ev : (st_si v 14 0).2 6 (ix (nI i)) = g.2 5 i := op_v (rm_code 0 0 h) hi24
        have f7 : u.2 7 (ix (nI i)) = tp_ (sk_ (g.2 5) i) := by rw [h.1.1.2.2.2.1, ix_n (by omega), hp.2.2.2.2.1 i hin]
        have hwok : pm_wok (st_si v 14 0) (nI i) := by
          refine ⟨vp_in_nI hi24 (by decide), ?_, h.2.2.1.2.2.1, ?_, ?_⟩
          · show ∀ j : Nat, j < 5 → vp_in (v.2 0 j) 520
            rw [h.1.2.1]; exact hg
          · rw [ev]
            intro z
            have hne := hp.2.2.2.1 i hin z
            show vp_in (v.1 13 - 1) 8
            rw [k1]
            cases hs : sk_ (g.2 5) i with
            | nil => exact absurd hs hne
            | cons b r =>
              rw [hs, List.length_cons] at hlen
              rw [List.length_cons, nI_sub1]
              exact vp_in_nI (by omega) (by decide)
          · rw [ev]
            intro z
            show vp_in (v.1 13) 8
            rw [k1]
            have := hp.2.2.1 (i + 1) (by omega)
            rw [sk_s, if_pos z, List.length_cons] at this
            exact vp_in_nI (by omega) (by decide)
        have hP7 : (pd_perform (st_si u 15 0) (nI i)).2.2 7 = g.2 7 := by
          rcases hk with ⟨-, -, -, q⟩ | ⟨c, -, -, -, -, q⟩ <;> exact q.1.1.2.2.2.1
        have hsok : pd_sok u (nI i) := by
          refine ⟨vp_in_nI hi24 (by decide), h.2.1.2.2.2.1, by rw [f7]; exact tp_in (by omega), ?_⟩
          rw [hP7]; exact har
        rw [pd_rl_s, if_neg a1, if_neg a3, pm_rl_s, if_neg a2, pd_rok, if_neg a1, if_neg a3, pm_rok, if_neg a2]
        rcases hk with ⟨q1, q2, q3, q4⟩ | ⟨c, c0, q1, q2, q3, q4⟩
        · rw [if_pos q2, if_pos q2]
          have ed : pd_doStep u (nI i) = st_sa (pd_perform (st_si u 15 0) (nI i)).2 12 (ix (nI i)) (pm_work (st_si v 14 0) (nI i)).1 := by
            unfold pd_doStep
            rw [if_pos q1, q3]
          rw [ed, nI_1]
          obtain ⟨r1, r2, r3, r4⟩ := ih (i + 1) (i + 1) fv ra _ _ (d + 1) (rm_res (ix (nI i)) (pm_work (st_si v 14 0) (nI i)).1 q4) (Nat.le_refl _) (by omega) (Or.inl ⟨rfl, by omega⟩) (by omega) (by omega)
          exact ⟨⟨hsok, r1⟩, ⟨hwok, r2⟩, r3, r4⟩
        · have c2 : ¬ (pm_work (st_si v 14 0) (nI i)).2.1 14 = 0 := by rw [q2]; exact c0
          have c1 : ¬ (pd_perform (st_si u 15 0) (nI i)).2.1 15 = 0 := by rw [q1]; exact c0
          rw [if_neg c2, if_neg c2]
          have hm : rm_ g (st_sa (pd_perform (st_si u 15 0) (nI i)).2 12 (ix (nI i)) ((pd_perform (st_si u 15 0) (nI i)).2.1 15 + -1000)) (st_sa (pm_work (st_si v 14 0) (nI i)).2 10 (ix (nI i)) ((pm_work (st_si v 14 0) (nI i)).2.1 14 - 1000)) (sk_ (g.2 5) i) (nI ra) := by
            rw [q1, q2, Int32.sub_eq_add_neg]
            exact rm_res _ _ q4
          obtain ⟨t, t1, t2, t3, t4, t5⟩ := lb_ok hg hp hw hin q3 (sk_ (g.2 5) i) 8 9 9 _ _ _ c hm ⟨i, rfl⟩ (fun x hx => hx) q1 q2 (by omega) (by omega) (by omega) (by omega)
          have ed : pd_doStep u (nI i) = pd_lt (pd_lb 9 (st_sa (pd_perform (st_si u 15 0) (nI i)).2 12 (ix (nI i)) ((pd_perform (st_si u 15 0) (nI i)).2.1 15 + -1000)) (tp_ (sk_ (g.2 5) i)) (nI 8)).2 (pd_lb 9 (st_sa (pd_perform (st_si u 15 0) (nI i)).2 12 (ix (nI i)) ((pd_perform (st_si u 15 0) (nI i)).2.1 15 + -1000)) (tp_ (sk_ (g.2 5) i)) (nI 8)).1 := by
            unfold pd_doStep
            rw [if_neg c1]
            unfold pd_leaveBlocks
            have e7 : (st_sa (pd_perform (st_si u 15 0) (nI i)).2 12 (ix (nI i)) ((pd_perform (st_si u 15 0) (nI i)).2.1 15 + -1000)).2 7 (ix (nI i)) = tp_ (sk_ (g.2 5) i) := by
              show (pd_perform (st_si u 15 0) (nI i)).2.2 7 (ix (nI i)) = _
              rw [hP7, ix_n (by omega), hp.2.2.2.2.1 i hin]
            rw [e7]
            rfl
          rw [← ed] at t3
          have t3' : rm_ g (pd_doStep u (nI i)) (pm_unwind (st_sa (pm_work (st_si v 14 0) (nI i)).2 10 (ix (nI i)) ((pm_work (st_si v 14 0) (nI i)).2.1 14 - 1000))).2 (sk_ (g.2 5) t) (nI t) := t3
          have t4' : (pm_unwind (st_sa (pm_work (st_si v 14 0) (nI i)).2 10 (ix (nI i)) ((pm_work (st_si v 14 0) (nI i)).2.1 14 - 1000))).1 = nI t := t4
          rw [t4', nI_1 i]
          obtain ⟨r1, r2, r3, r4⟩ := ih (i + 1) t fv t _ _ (d + 1) t3' (by omega) t2 (by omega) (by omega) (by omega)
          exact ⟨⟨hsok, r1⟩, ⟨hwok, t5, r2⟩, r3, r4⟩
      · have e : i = n := by omega
        subst e
        have a1 : u.1 9 ≤ nI i := by rw [e9, nI_leI (by omega) (by omega)]; omega
        have a2 : v.1 8 ≤ nI i := by rw [e8, nI_leI (by omega) (by omega)]; omega
        rw [pd_rl_s, if_pos a1, pm_rl_s, if_pos a2, pd_rok, if_pos a1, pm_rok, if_pos a2]
        rw [hw] at h
        exact ⟨trivial, trivial, rfl, nI ra, h⟩
    · have a1 : ¬ u.1 9 ≤ nI i := by rw [e9, nI_leI (by omega) (by omega)]; omega
      have a3 : nI i < u.1 16 := by rw [e16, nI_ltI (by omega) (by omega)]; omega
      rw [pd_rl_s, if_neg a1, if_pos a3, pd_rok, if_neg a1, if_pos a3, nI_1]
      exact ih (i + 1) ra fv ra u v d h (by omega) hjn (by omega) (by omega) hfv
end
section
/-! between calls: k calls have been made; every call answers alike -/
def ri_ (u v : st_T) (k : Nat) : Prop := ∃ n m : Nat, m ≤ k ∧ k ≤ 512 ∧ pv_ u n ∧ u.1 10 = nI (sk_ (u.2 5) n).length ∧ u.1 11 = tp_ (sk_ (u.2 5) n) ∧ u.1 1 = nI m ∧ (∀ j, j < 5 → ∃ x, x ≤ m ∧ u.2 0 j = nI x) ∧ (∀ j, j < 24 → u.2 7 j = -1 ∨ vp_in (u.2 7 j) 24) ∧ rs_ u u v ∧ rd_ u v ∧ (∀ l, v.2 1 l = 0) ∧ ∀ j, j < 8 → vp_in (v.2 12 j) 24
theorem pin_0 {x M : Int32} : pm_in x M = 0 ↔ x < 0 ∨ M ≤ x := by
  unfold pm_in
  by_cases h1 : x < 0
  · rw [if_pos h1]; exact ⟨fun _ => Or.inl h1, fun _ => rfl⟩
  · rw [if_neg h1]
    by_cases h2 : M ≤ x
    · rw [if_pos h2]; exact ⟨fun _ => Or.inr h2, fun _ => rfl⟩
    · rw [if_neg h2]
      exact ⟨fun z => absurd z (by decide), fun z => z.elim (fun a => absurd a h1) (fun a => absurd a h2)⟩
theorem i_lt5 {x : Int32} : x < 5 ↔ x ≤ 4 := by
  rw [Int32.lt_iff_toInt_lt, Int32.le_iff_toInt_le, show (5 : Int32).toInt = 5 by decide, show (4 : Int32).toInt = 4 by decide]
  omega
theorem i_lt {x M N : Int32} (h : M.toInt + 1 = N.toInt) : M < x ↔ N ≤ x := by
  rw [Int32.lt_iff_toInt_lt, Int32.le_iff_toInt_le]
  omega
theorem i_nle {x M : Int32} : ¬ M ≤ x ↔ x < M := by
  rw [Int32.lt_iff_toInt_lt, Int32.le_iff_toInt_le]
  omega
theorem pv_of {a b : st_T} {n : Nat} (h : pv_ a n) (e9 : b.1 9 = a.1 9) (e5 : b.2 5 = a.2 5) (e7 : b.2 7 = a.2 7) (e8 : b.2 8 = a.2 8) : pv_ b n := by
  unfold pv_ at h ⊢
  rw [e9, e5, e7, e8]
  exact h
theorem ri_init : ri_ pd_init pm_init 0 := by
  refine ⟨0, 0, Nat.le_refl _, by omega, ⟨rfl, by omega, ?_, ?_, ?_, ?_, ?_⟩, rfl, rfl, rfl, fun j _ => ⟨0, Nat.le_refl _, rfl⟩, fun j _ => Or.inr (in_z (by decide)), ⟨⟨rfl, rfl, rfl, rfl, rfl, rfl, rfl, rfl, rfl⟩, rfl, rfl, rfl, rfl, rfl, rfl⟩, ⟨rfl, rfl, rfl, Or.inl rfl, rfl, rfl⟩, fun l => rfl, fun j _ => in_z (by decide)⟩
  · intro j hj
    rw [show j = 0 by omega]
    exact Nat.zero_le _
  all_goals intro j hj; exact absurd hj (Nat.not_lt_zero j)
/-- one more call that changes nothing -/
theorem ri_next {u v : st_T} {k : Nat} (h : ri_ u v k) (hk : k < 512) : ri_ u v (k + 1) := by
  obtain ⟨n, m, hm, -, hr⟩ := h
  exact ⟨n, m, by omega, by omega, hr⟩
theorem ri_lock {u v : st_T} {k : Nat} (h : ri_ u v k) (hk : k < 512) {j : Nat} {x : Int32} (hx : x = 0 ∨ ∃ i, i < 5 ∧ x = u.2 0 i) : ri_ (st_sa u 0 j x) (st_sa v 0 j x) (k + 1) := by
  obtain ⟨n, m, hm, -, hp, h10, h11, h1, hl, ha, ⟨⟨s0, s5, s6, s7, s8, s9, s10, s11, s1⟩, t0, t6, t7, t8, t9, t2⟩, hd, hz, hb⟩ := h
  refine ⟨n, m, by omega, by omega, hp, h10, h11, h1, ?_, ha, ⟨⟨rfl, rfl, rfl, rfl, rfl, rfl, rfl, rfl, rfl⟩, ?_, t6, t7, t8, t9, t2⟩, hd, hz, hb⟩
  · intro i hi
    rw [rs_4, if_pos rfl]
    by_cases e : i = j
    · subst e
      rw [up_s]
      rcases hx with rfl | ⟨i2, hi2, rfl⟩
      · exact ⟨0, Nat.zero_le _, rfl⟩
      · exact hl i2 hi2
    · rw [up_n _ _ e]
      exact hl i hi
  · rw [rs_4, rs_4, if_pos rfl, if_pos rfl, t0]
theorem ri_new {u v : st_T} {k : Nat} (h : ri_ u v k) (hk : k < 512) {j : Nat} : ri_ (st_sa (st_si u 1 (u.1 1 + 1)) 0 j (u.1 1 + 1)) (st_sa (st_si v 2 (v.1 2 + 1)) 0 j (v.1 2 + 1)) (k + 1) := by
  obtain ⟨n, m, hm, -, hp, h10, h11, h1, hl, ha, ⟨⟨s0, s5, s6, s7, s8, s9, s10, s11, s1⟩, t0, t6, t7, t8, t9, t2⟩, hd, hz, hb⟩ := h
  refine ⟨n, m + 1, by omega, by omega, hp, h10, h11, ?_, ?_, ha, ⟨⟨rfl, rfl, rfl, rfl, rfl, rfl, rfl, rfl, rfl⟩, ?_, t6, t7, t8, t9, ?_⟩, hd, hz, hb⟩
  · rw [rs_3, rs_1, if_pos rfl, h1, nI_1]
  · intro i hi
    rw [rs_4, if_pos rfl]
    by_cases e : i = j
    · subst e
      rw [up_s, h1, nI_1]
      exact ⟨m + 1, Nat.le_refl _, rfl⟩
    · rw [up_n _ _ e]
      obtain ⟨x, q1, q2⟩ := hl i hi
      exact ⟨x, by omega, q2⟩
  · rw [rs_4, rs_4, if_pos rfl, if_pos rfl, rs_2, rs_2, t0, t2]
  · rw [rs_3, rs_3, rs_1, rs_1, if_pos rfl, if_pos rfl, t2]
theorem ca_hold {u v : st_T} {k : Nat} (h : ri_ u v k) (hk : k < 512) (a b : Int32) : (pd_hold u a b).1 = (pm_hold v a b).1 ∧ ri_ (pd_hold u a b).2 (pm_hold v a b).2 (k + 1) := by
  have hn := ri_next h hk
  unfold pd_hold pm_hold
  by_cases h1 : a < 0
  · rw [if_pos h1, if_pos (pin_0.mpr (Or.inl h1))]; exact ⟨rfl, hn⟩
  · by_cases h2 : 5 ≤ a
    · rw [if_neg h1, if_pos h2, if_pos (pin_0.mpr (Or.inr h2))]; exact ⟨rfl, hn⟩
    · rw [if_neg h1, if_neg h2, if_neg (fun z => (pin_0.mp z).elim h1 h2)]
      by_cases h3 : b < -2
      · rw [if_pos h3, if_pos h3]; exact ⟨rfl, hn⟩
      · rw [if_neg h3, if_neg h3]
        by_cases h4 : b < 5
        · rw [if_pos h4, if_pos (i_lt5.mp h4)]
          by_cases h5 : b = -2
          · rw [if_pos h5, if_pos h5]; exact ⟨rfl, ri_new h hk⟩
          · rw [if_neg h5, if_neg h5]
            by_cases h6 : b = -1
            · rw [if_pos h6, if_pos h6]; exact ⟨rfl, ri_lock h hk (Or.inl rfl)⟩
            · rw [if_neg h6, if_neg h6]
              obtain ⟨n, m, _, _, _, _, _, _, _, _, ⟨_, t0, _⟩, _⟩ := id h
              rw [t0]
              exact ⟨rfl, ri_lock h hk (Or.inr ⟨ix b, ix_lt (in_3 h3 h4 h5 h6), rfl⟩)⟩
        · rw [if_neg h4, if_neg (fun z => h4 (i_lt5.mpr z))]; exact ⟨rfl, hn⟩
theorem ca_clear {u v : st_T} {k : Nat} (h : ri_ u v k) (hk : k < 512) : (pd_clear u).1 = (pm_clear v).1 ∧ ri_ (pd_clear u).2 (pm_clear v).2 (k + 1) := by
  obtain ⟨n, m, hm, -, hp, h10, h11, h1, hl, ha, ⟨⟨s0, s5, s6, s7, s8, s9, s10, s11, s1⟩, t0, t6, t7, t8, t9, t2⟩, hd, hz, hb⟩ := h
  unfold pd_clear pm_clear
  refine ⟨t8.symm, 0, m, by omega, by omega, ⟨rfl, by omega, ?_, ?_, ?_, ?_, ?_⟩, rfl, rfl, h1, hl, ha, ⟨⟨rfl, rfl, rfl, rfl, rfl, rfl, rfl, rfl, rfl⟩, t0, t6, t7, rfl, rfl, t2⟩, hd, hz, hb⟩
  · intro j hj
    rw [show j = 0 by omega]
    exact Nat.zero_le _
  all_goals intro j hj; exact absurd hj (Nat.not_lt_zero j)
theorem ca_result {u v : st_T} {k : Nat} (h : ri_ u v k) (a : Int32) : pd_result u a = pm_result v a := by
  obtain ⟨n, m, _, _, _, _, _, _, _, _, _, ⟨_, _, _, _, d12, _⟩, _⟩ := h
  unfold pd_result pm_result
  by_cases h1 : a < 0
  · rw [if_pos h1, if_pos (pin_0.mpr (Or.inl h1))]
  · by_cases h2 : a < 24
    · rw [if_neg h1, if_pos h2, if_neg (fun z => (pin_0.mp z).elim h1 (fun q => i_nle.mpr h2 q)), d12]
    · rw [if_neg h1, if_neg h2, if_pos (pin_0.mpr (Or.inr (Decidable.byContradiction fun q => h2 (i_nle.mp q))))]
theorem ca_failure {u v : st_T} {k : Nat} (h : ri_ u v k) : pd_failure u = pm_failure v := by
  obtain ⟨n, m, _, _, _, _, _, _, _, _, _, ⟨_, _, _, _, _, d13⟩, _⟩ := h
  exact d13
theorem ce_se {u v : st_T} (h : u.2 2 = v.2 3) : ∀ (n : Nat) (c i : Int32), pd_ce u n c i = pm_se v n c i := by
  intro n
  induction n with
  | zero => intro c i; rfl
  | succ n ih =>
    intro c i
    rw [pm_se_s]
    unfold pd_ce
    by_cases h4 : 4 ≤ i
    · rw [if_pos h4, if_pos h4]
    · rw [if_neg h4, if_neg h4, h, ih]
      unfold pd_asNumber
      by_cases h0 : v.2 3 (ix i) = 0
      · rw [if_pos h0, if_pos h0, Int32.add_zero]
      · rw [if_neg h0, if_neg h0]
theorem ca_state {u v : st_T} {k : Nat} (h : ri_ u v k) (a : Int32) : pd_state u a = pm_state v a := by
  obtain ⟨n, m, _, _, _, _, _, _, _, _, ⟨_, t0, _, _, t8, t9, _⟩, ⟨d2, d3, d4, d5, d12, d13⟩, _⟩ := h
  unfold pd_state pm_state
  by_cases h0 : a = 0
  · rw [if_pos h0, if_pos h0, t8]
  · rw [if_neg h0, if_neg h0]
    by_cases h1 : a = 1
    · rw [if_pos h1, if_pos h1, t9]
    · rw [if_neg h1, if_neg h1]
      by_cases h2 : a = 2
      · rw [if_pos h2, if_pos h2, d3]
      · rw [if_neg h2, if_neg h2]
        by_cases h3 : a = 3
        · rw [if_pos h3, if_pos h3, d4]
          rfl
        · rw [if_neg h3, if_neg h3]
          by_cases h4 : a = 4
          · rw [if_pos h4, if_pos h4, if_neg (by rw [h4]; decide)]
            exact ce_se d2 5 0 0
          · rw [if_neg h4, if_neg h4]
            unfold pd_handleState
            by_cases hin : pm_in a 10 = 0
            · rw [if_pos hin]
              rcases pin_0.mp hin with z | z
              · rw [if_pos (Int32.lt_trans z (by decide))]
              · by_cases h5 : a < 5
                · rw [if_pos h5]
                · rw [if_neg h5, if_neg (fun q => i_nle.mpr q z)]
            · have hso := so_in h0 h1 h2 h3 h4 hin
              have hp := vp_in_iff.mp (pi_in (M := 10) (n := 10) (by decide) hin)
              obtain ⟨q1, q2⟩ := in_n hso (by decide)
              have h5 : ¬ a < 5 := by
                have z0 := lv_neT h0 (a := 0) (by decide)
                have z1 := lv_neT h1 (a := 1) (by decide)
                have z2 := lv_neT h2 (a := 2) (by decide)
                have z3 := lv_neT h3 (a := 3) (by decide)
                have z4 := lv_neT h4 (a := 4) (by decide)
                rw [Int32.lt_iff_toInt_lt, show (5 : Int32).toInt = 5 by decide]
                omega
              have h10 : a < 10 := by
                rw [Int32.lt_iff_toInt_lt, show (10 : Int32).toInt = 10 by decide]
                omega
              rw [if_neg hin, if_neg h5, if_pos h10]
              generalize a - 5 = y at hso q1 q2 ⊢
              rw [q1, ix_n (by omega)]
              generalize ix y = x at q2 ⊢
              have e0 : u.2 0 x = v.2 0 x := by rw [t0]
              by_cases hz : u.2 0 x = 0
              · rw [if_pos hz, pm_sl_s, if_pos (e0.symm.trans hz)]
              · have hz2 : ¬ v.2 0 x = 0 := fun z => hz (e0.trans z)
                rw [if_neg hz, least_le u q2, ← nI_0, sl_le v x q2 hz2 6 0 (Nat.zero_le _) (by omega), Nat.sub_zero, t0]
                rfl
theorem ca_run {u v : st_T} {k : Nat} (h : ri_ u v k) (hk : k < 512) : (u.1 10 = 0 → pd_rok 25 (pd_r0 u) 0) ∧ (v.1 9 ≤ 0 → pm_rok 25 (pm_r0 v) 0) ∧ (pd_run u).1 = (pm_run v).1 ∧ ri_ (pd_run u).2 (pm_run v).2 (k + 1) := by
  have hnx := ri_next h hk
  obtain ⟨n, m, hm, -, hp, h10, h11, h1, hl, ha, ⟨⟨s0, s5, s6, s7, s8, s9, s10, s11, s1⟩, t0, t6, t7, t8, t9, t2⟩, ⟨d2, d3, d4, d5, d12, d13⟩, hz, hb⟩ := h
  have hlen := hp.2.2.1 n (Nat.le_refl _)
  have hg : lr_ u := fun j hj => by
    obtain ⟨x, q1, q2⟩ := hl j hj
    rw [q2]
    exact vp_in_nI (by omega) (by decide)
  have b1 : u.1 10 = 0 ↔ sk_ (u.2 5) n = [] := by
    rw [h10, nI_eq0 (by omega)]
    exact List.length_eq_zero_iff
  have b2 : v.1 9 ≤ 0 ↔ sk_ (u.2 5) n = [] := by
    rw [t9, h10, nI_le0 (by omega)]
    exact List.length_eq_zero_iff
  by_cases hw : sk_ (u.2 5) n = []
  · have hrm : rm_ u (pd_r0 u) (pm_r0 v) (sk_ (u.2 5) 0) (nI 0) := by
      refine ⟨⟨⟨rfl, rfl, rfl, rfl, rfl, rfl, rfl, rfl, rfl⟩, t0, t6, t7, t8, t9, t2⟩, ⟨d2, d3, d4, d5, ?_, rfl⟩, ⟨rfl, trivial, hb, hz, ?_, fun b hb => by cases hb⟩, rfl⟩
      · show pj_fill 24 (-9) (u.2 12) = pj_fill 24 (-9) (v.2 10)
        rw [d12]
      · intro x hx _
        have := (le_ok (u.2 0) x).1
        show pj_fill 5 0 _ (le_ (u.2 0) x) = v.2 1 _
        rw [hz]
        exact if_pos (by omega)
    obtain ⟨r1, r2, r3, ra2, r4⟩ := run_ok hg hp hw ha 25 0 0 25 0 _ _ 0 hrm (Nat.le_refl _) (Nat.zero_le _) (Or.inl ⟨rfl, Nat.le_refl _⟩) (by have := hp.2.1; omega) (by have := hp.2.1; omega)
    have e1 : pd_run u = pd_rl 25 (pd_r0 u) 0 (nI 0) := by unfold pd_run; rw [if_pos (b1.mpr hw)]; rfl
    have e2 : pm_run v = pm_rl 25 (pm_r0 v) 0 (nI 0) := by unfold pm_run; rw [if_pos (b2.mpr hw)]; rfl
    refine ⟨fun _ => r1, fun _ => r2, by rw [e1, e2]; exact r3, ?_⟩
    rw [← e1, ← e2] at r4
    generalize (pd_run u).2 = u1 at r4 ⊢
    generalize (pm_run v).2 = v1 at r4 ⊢
    obtain ⟨⟨⟨a0, a5, a6, a7, a8, a9, a10, a11, a1⟩, c0, c6, c7, c8, c9, c2⟩, hd, ⟨k1, k2, k3, k4, k5, k6⟩, -⟩ := r4
    refine ⟨n, m, by omega, by omega, pv_of hp a9 a5 a7 a8, by rw [a10, a5, h10], by rw [a11, a5, h11], a1.trans h1, by rw [a0]; exact hl, by rw [a7]; exact ha, ⟨⟨rfl, rfl, rfl, rfl, rfl, rfl, rfl, rfl, rfl⟩, c0.trans a0.symm, c6.trans a5.symm, c7.trans a6.symm, c8.trans a9.symm, c9.trans a10.symm, c2.trans a1.symm⟩, hd, fun l => (k4 l).trans rfl, k3⟩
  · have n1 : ¬ u.1 10 = 0 := fun z => hw (b1.mp z)
    have n2 : ¬ v.1 9 ≤ 0 := fun z => hw (b2.mp z)
    refine ⟨fun z => absurd z n1, fun z => absurd z n2, ?_, ?_⟩
    · unfold pd_run pm_run
      rw [if_neg n1, if_neg n2]
    · unfold pd_run pm_run
      rw [if_neg n1, if_neg n2]
      exact hnx
end
section
/-! step answers alike -/
theorem sk_congr {op op2 : Nat → Int32} : ∀ j, (∀ i, i < j → op2 i = op i) → sk_ op2 j = sk_ op j := by
  intro j
  induction j with
  | zero => intro _; rfl
  | succ j ih =>
    intro h
    rw [sk_s, sk_s, h j (Nat.lt_succ_self j), ih (fun i hi => h i (Nat.lt_succ_of_lt hi))]
theorem pv_step {u w : st_T} {n : Nat} {a : Int32} (hp : pv_ u n) (hn : n < 24) (ha : vp_in a 16) (w5 : w.2 5 = upd (u.2 5) n a) (w7 : w.2 7 = upd (u.2 7) n (tp_ (sk_ (u.2 5) n))) (w9 : w.1 9 = nI (n + 1)) (h0 : a = 0 → ¬ sk_ (u.2 5) n = []) (h1 : a = 1 ∨ a = 2 → (sk_ (u.2 5) n).length < 8)
    (w8 : (¬ a = 0 ∧ w.2 8 = u.2 8) ∨ (a = 0 ∧ ∃ b r, sk_ (u.2 5) n = b :: r ∧ w.2 8 = upd (u.2 8) b (nI n))) : pv_ w (n + 1) ∧ sk_ (w.2 5) (n + 1) = if a = 1 ∨ a = 2 then n :: sk_ (u.2 5) n else if a = 0 then (sk_ (u.2 5) n).tail else sk_ (u.2 5) n := by
  obtain ⟨-, -, p3, p4, p5, p6, p7⟩ := hp
  have hs : ∀ j, j ≤ n → sk_ (w.2 5) j = sk_ (u.2 5) j := fun j hj => sk_congr j (fun i hi => by rw [w5, up_n _ _ (by omega)])
  have ho : ∀ j, j < n → w.2 5 j = u.2 5 j := fun j hj => by rw [w5, up_n _ _ (by omega)]
  have hon : w.2 5 n = a := by rw [w5, up_s]
  have hsn : sk_ (w.2 5) (n + 1) = if a = 1 ∨ a = 2 then n :: sk_ (u.2 5) n else if a = 0 then (sk_ (u.2 5) n).tail else sk_ (u.2 5) n := by
    rw [sk_s, hon, hs n (Nat.le_refl _)]
  refine ⟨⟨w9, by omega, ?_, ?_, ?_, ?_, ?_⟩, hsn⟩
  · intro j hj
    rcases Nat.lt_or_ge n j with z | z
    · rw [show j = n + 1 by omega, hsn]
      have := p3 n (Nat.le_refl _)
      by_cases h2 : a = 1 ∨ a = 2
      · rw [if_pos h2, List.length_cons]
        have := h1 h2
        omega
      · rw [if_neg h2]
        split
        · rw [List.length_tail]; omega
        · exact this
    · rw [hs j z]; exact p3 j z
  · intro j hj hj0
    rcases Nat.lt_or_ge j n with z | z
    · rw [ho j z] at hj0
      rw [hs j (by omega)]
      exact p4 j z hj0
    · have e : j = n := by omega
      subst e
      rw [hon] at hj0
      rw [hs j (Nat.le_refl _)]
      exact h0 hj0
  · intro j hj
    rcases Nat.lt_or_ge j n with z | z
    · rw [w7, up_n _ _ (by omega), hs j (by omega)]
      exact p5 j z
    · have e : j = n := by omega
      subst e
      rw [w7, up_s, hs j (Nat.le_refl _)]
  · intro j hj hj0 b r hb
    rcases Nat.lt_or_ge j n with z | z
    · rw [ho j z] at hj0
      rw [hs j (by omega)] at hb
      have q := p6 j z hj0 b r hb
      rcases w8 with ⟨-, e⟩ | ⟨-, b2, r2, e2, e⟩
      · rw [e]; exact q
      · rw [e, up_n _ _ (fun x => sk_gone hj0 hb n z (by rw [e2, x]; exact List.mem_cons_self))]
        exact q
    · have e : j = n := by omega
      subst e
      rw [hon] at hj0
      rw [hs j (Nat.le_refl _)] at hb
      rcases w8 with ⟨e, -⟩ | ⟨-, b2, r2, e2, e⟩
      · exact absurd hj0 e
      · rw [hb] at e2
        cases e2
        rw [e, up_s]
  · intro j hj
    rcases Nat.lt_or_ge j n with z | z
    · rw [ho j z]; exact p7 j z
    · have e : j = n := by omega
      subst e
      rw [hon]; exact ha
theorem ob_1 {a : Int32} (h : a = 1 ∨ a = 2) : pd_opensBlock a = 1 := by rcases h with rfl | rfl <;> decide
theorem ob_0 {a : Int32} (h : ¬ (a = 1 ∨ a = 2)) : pd_opensBlock a = 0 := by
  unfold pd_opensBlock
  rw [if_neg (fun z => h (Or.inl z)), if_neg (fun z => h (Or.inr z))]
theorem ca_step {u v : st_T} {k : Nat} (h : ri_ u v k) (hk : k < 512) (a c : Int32) : ¬ u.1 9 < 0 ∧ (u.1 11 = -1 ∨ vp_in (u.1 11) 24) ∧ (v.1 8 = 24 ∨ vp_in (v.1 8) 24) ∧ (pd_step u a c).1 = (pm_step v a c).1 ∧ ri_ (pd_step u a c).2 (pm_step v a c).2 (k + 1) := by
  have hnx := ri_next h hk
  obtain ⟨n, m, hm, -, hp, h10, h11, h1, hl, har, ⟨⟨s0, s5, s6, s7, s8, s9, s10, s11, s1⟩, t0, t6, t7, t8, t9, t2⟩, ⟨d2, d3, d4, d5, d12, d13⟩, hz, hb⟩ := h
  have hn := hp.2.1
  have hlen := hp.2.2.1 n (Nat.le_refl _)
  have e9 : u.1 9 = nI n := hp.1
  have e8 : v.1 8 = nI n := t8.trans e9
  have ev9 : v.1 9 = nI (sk_ (u.2 5) n).length := t9.trans h10
  refine ⟨by rw [e9]; exact nI_pos (by omega), by rw [h11]; exact tp_in (by omega), ?_, ?_⟩
  · rw [e8]
    by_cases e : n = 24
    · exact Or.inl (by rw [e]; decide)
    · exact Or.inr (vp_in_nI (by omega) (by decide))
  · by_cases a1 : a < 0
    · unfold pd_step pm_step
      rw [if_pos a1, if_pos (pin_0.mpr (Or.inl a1))]
      exact ⟨rfl, hnx⟩
    · by_cases a2 : 15 < a
      · unfold pd_step pm_step
        rw [if_neg a1, if_pos a2, if_pos (pin_0.mpr (Or.inr ((i_lt (by decide)).mp a2)))]
        exact ⟨rfl, hnx⟩
      · have a3 : ¬ pm_in a 16 = 0 := fun z => (pin_0.mp z).elim a1 (fun q => a2 ((i_lt (by decide)).mpr q))
        have hin : vp_in a 16 := pi_in (by decide) a3
        by_cases hn24 : n = 24
        · unfold pd_step pm_step
          rw [if_neg a1, if_neg a2, if_neg (by rw [e9, hn24]; decide : ¬ u.1 9 < 24), if_neg a3, if_pos (by rw [e8, hn24]; decide : v.1 8 = 24)]
          exact ⟨rfl, hnx⟩
        · have hlt : u.1 9 < 24 := by
            rw [e9, show (24 : Int32) = nI 24 from by decide, nI_ltI (by omega) (by decide)]
            omega
          have hne : ¬ v.1 8 = 24 := by
            rw [e8, show (24 : Int32) = nI 24 from by decide, nI_eq (by omega) (by decide)]
            exact hn24
          have e97 : ix (u.1 9) = n := by rw [e9]; exact ix_n (by omega)
          have e87 : ix (v.1 8) = n := by rw [e8]; exact ix_n (by omega)
          have har2 : ∀ j, j < 24 → upd (u.2 7) n (u.1 11) j = -1 ∨ vp_in (upd (u.2 7) n (u.1 11) j) 24 := fun j hj => by
            by_cases e : j = n
            · rw [e, up_s, h11]; exact tp_in (by omega)
            · rw [up_n _ _ e]; exact har j hj
          unfold pd_step pm_step
          rw [if_neg a1, if_neg a2, if_pos hlt, if_neg a3, if_neg hne]
          by_cases a0 : a = 0
          · subst a0
            rw [if_pos rfl, if_neg (by decide : ¬ (0 : Int32) = 1), if_neg (by decide : ¬ (0 : Int32) = 2), if_pos rfl]
            cases hs : sk_ (u.2 5) n with
            | nil =>
              rw [if_pos (by rw [h11, hs]; rfl : u.1 11 = -1), if_pos (by rw [ev9, hs]; rfl : v.1 9 = 0)]
              exact ⟨rfl, hnx⟩
            | cons b r =>
              have hb24 := (sk_mem n b (by rw [hs]; exact List.mem_cons_self)).1
              have hr := sk_rest hs
              have e11 : u.1 11 = nI b := by rw [h11, hs]; rfl
              have lb := hlen
              rw [hs, List.length_cons] at lb
              have e10 : u.1 10 = nI (r.length + 1) := by rw [h10, hs, List.length_cons]
              rw [if_neg (by rw [e11]; exact nI_m1 (by omega) : ¬ u.1 11 = -1), if_pos (by decide : pd_opensBlock 0 = 0), if_neg (by rw [t9, e10, nI_eq0 (by omega)]; omega : ¬ v.1 9 = 0)]
              unfold pd_step_86
              rw [if_pos (by decide : pd_opensBlock 0 = 0), if_pos rfl]
              have e117 : ix (u.1 11) = b := by rw [e11]; exact ix_n (by omega)
              have ear : (st_sa (st_sa (st_sa u 5 (ix (u.1 9)) 0) 6 (ix (u.1 9)) c) 7 (ix (u.1 9)) (u.1 11)).2 7 (ix (u.1 11)) = tp_ r := by
                show upd (u.2 7) (ix (u.1 9)) (u.1 11) (ix (u.1 11)) = tp_ r
                rw [e97, e117, up_n _ _ (by omega), hp.2.2.2.2.1 b hb24, hr]
              rw [ear, e97, e117, e87, t9]
              have hq := pv_step (w := st_si (st_si (st_si (st_sa (st_sa (st_sa (st_sa u 5 n 0) 6 n c) 7 n (u.1 11)) 8 b (u.1 9)) 11 (tp_ r)) 10 (u.1 10 - 1)) 9 (u.1 9 + 1)) hp (by omega) hin rfl (by rw [← h11]; rfl) (by rw [rs_1, if_pos rfl, e9, nI_1]) (fun _ z => by rw [hs] at z; cases z) (fun z => absurd z (by decide)) (Or.inr ⟨rfl, b, r, hs, by rw [← e9]; rfl⟩)
              rw [if_neg (by decide), if_pos rfl, hs, List.tail_cons] at hq
              obtain ⟨hq1, hq2⟩ := hq
              refine ⟨by rw [e9, e8], n + 1, m, by omega, by omega, hq1, ?_, ?_, h1, hl, har2, ⟨⟨rfl, rfl, rfl, rfl, rfl, rfl, rfl, rfl, rfl⟩, t0, ?_, ?_, ?_, rfl, t2⟩, ⟨d2, d3, d4, d5, d12, d13⟩, hz, hb⟩
              · rw [hq2]
                show u.1 10 - 1 = nI r.length
                rw [e10, nI_sub1]
              · rw [hq2]; rfl
              · show upd (v.2 6) n 0 = upd (u.2 5) n 0
                rw [t6]
              · show upd (v.2 7) n c = upd (u.2 6) n c
                rw [t7]
              · show v.1 8 + 1 = u.1 9 + 1
                rw [t8]
          · rw [if_neg a0]
            by_cases a12 : a = 1 ∨ a = 2
            · have ob : ¬ pd_opensBlock a = 0 := by rw [ob_1 a12]; decide
              rw [if_neg ob]
              have hm2 : (if a = 1 then if v.1 9 = 8 then ((-1 : Int32), v) else (v.1 8 + 1, st_si (st_si (st_sa (st_sa v 6 (ix (v.1 8)) a) 7 (ix (v.1 8)) c) 8 (v.1 8 + 1)) 9 (v.1 9 + 1)) else if a = 2 then if v.1 9 = 8 then ((-1 : Int32), v) else (v.1 8 + 1, st_si (st_si (st_sa (st_sa v 6 (ix (v.1 8)) a) 7 (ix (v.1 8)) c) 8 (v.1 8 + 1)) 9 (v.1 9 + 1)) else if a = 0 then if v.1 9 = 0 then ((-1 : Int32), v) else (v.1 8 + 1, st_si (st_si (st_sa (st_sa v 6 (ix (v.1 8)) a) 7 (ix (v.1 8)) c) 8 (v.1 8 + 1)) 9 (v.1 9 - 1)) else (v.1 8 + 1, st_si (st_sa (st_sa v 6 (ix (v.1 8)) a) 7 (ix (v.1 8)) c) 8 (v.1 8 + 1))) = if v.1 9 = 8 then ((-1 : Int32), v) else (v.1 8 + 1, st_si (st_si (st_sa (st_sa v 6 (ix (v.1 8)) a) 7 (ix (v.1 8)) c) 8 (v.1 8 + 1)) 9 (v.1 9 + 1)) := by
                rcases a12 with e | e
                · rw [if_pos e]
                · rw [if_neg (by rw [e]; decide : ¬ a = 1), if_pos e]
              rw [hm2]
              by_cases h8 : (sk_ (u.2 5) n).length = 8
              · rw [if_neg (by rw [h10, h8]; decide : ¬ u.1 10 < 8), if_pos (by rw [ev9, h8]; decide : v.1 9 = 8)]
                exact ⟨rfl, hnx⟩
              · have l8 : u.1 10 < 8 := by
                  rw [h10, show (8 : Int32) = nI 8 from by decide, nI_ltI (by omega) (by decide)]
                  omega
                have n8 : ¬ v.1 9 = 8 := by
                  rw [ev9, show (8 : Int32) = nI 8 from by decide, nI_eq (by omega) (by decide)]
                  exact h8
                rw [if_pos l8, if_neg n8]
                unfold pd_step_86
                rw [if_neg ob, e97, e87, t9]
                have hq := pv_step (w := st_si (st_si (st_si (st_sa (st_sa (st_sa u 5 n a) 6 n c) 7 n (u.1 11)) 11 (u.1 9)) 10 (u.1 10 + 1)) 9 (u.1 9 + 1)) hp (by omega) hin rfl (by rw [← h11]; rfl) (by rw [rs_1, if_pos rfl, e9, nI_1]) (fun z => absurd z a0) (fun _ => by omega) (Or.inl ⟨a0, rfl⟩)
                rw [if_pos a12] at hq
                obtain ⟨hq1, hq2⟩ := hq
                refine ⟨by rw [e9, e8], n + 1, m, by omega, by omega, hq1, ?_, ?_, h1, hl, har2, ⟨⟨rfl, rfl, rfl, rfl, rfl, rfl, rfl, rfl, rfl⟩, t0, ?_, ?_, ?_, rfl, t2⟩, ⟨d2, d3, d4, d5, d12, d13⟩, hz, hb⟩
                · rw [hq2, List.length_cons]
                  show u.1 10 + 1 = _
                  rw [h10, nI_1]
                · rw [hq2]
                  exact e9
                · show upd (v.2 6) n a = upd (u.2 5) n a
                  rw [t6]
                · show upd (v.2 7) n c = upd (u.2 6) n c
                  rw [t7]
                · show v.1 8 + 1 = u.1 9 + 1
                  rw [t8]
            · have ob : pd_opensBlock a = 0 := ob_0 a12
              rw [if_pos ob, if_neg (fun z => a12 (Or.inl z)), if_neg (fun z => a12 (Or.inr z)), if_neg a0]
              unfold pd_step_86
              rw [if_pos ob, if_neg a0, e97, e87]
              have hq := pv_step (w := st_si (st_sa (st_sa (st_sa u 5 n a) 6 n c) 7 n (u.1 11)) 9 (u.1 9 + 1)) hp (by omega) hin rfl (by rw [← h11]; rfl) (by rw [rs_1, if_pos rfl, e9, nI_1]) (fun z => absurd z a0) (fun z => absurd z a12) (Or.inl ⟨a0, rfl⟩)
              rw [if_neg a12, if_neg a0] at hq
              obtain ⟨hq1, hq2⟩ := hq
              refine ⟨by rw [e9, e8], n + 1, m, by omega, by omega, hq1, ?_, ?_, h1, hl, har2, ⟨⟨rfl, rfl, rfl, rfl, rfl, rfl, rfl, rfl, rfl⟩, t0, ?_, ?_, ?_, t9, t2⟩, ⟨d2, d3, d4, d5, d12, d13⟩, hz, hb⟩
              · rw [hq2]
                exact h10
              · rw [hq2]
                exact h11
              · show upd (v.2 6) n a = upd (u.2 5) n a
                rw [t6]
              · show upd (v.2 7) n c = upd (u.2 6) n c
                rw [t7]
              · show v.1 8 + 1 = u.1 9 + 1
                rw [t8]
end
section
/-! THE CLAIM OUT OF ONE WALK OF THE LAW'S BODY. Your part is whole_start (and what it stands on); all else here is the same for every law, but numbers. -/
def R_law : String := "MonitorDeskLaw"
def lw_P (b : Addr) (xs : List Int32) (args : Array Value) (s : State) : Prop := args = #[.ref b] ∧ s.IntsAt b xs ∧ xs.length ≤ 1536 ∧ (Jvm.Cond.and given_1 narrow_1).before args s = true
def lw_Q (_ : Array Value) (s : State) (o : Outcome) (t : State) : Prop := o = .returned (some (.int 1)) ∧ Framed s o t [] 17 775
def lw_Z (below : List Frame) (a : Array Value) (s : State) : State → Prop := fun t => ∃ o, t.status = .running ∧ Ended t below o ∧ lw_Q a s o t
/-- the law's own end, with 1 on the stack, nothing written that was there before, its room as the claim has it -/
theorem lw_ret {p : Program} {l : Launch} {e : Env} {s : State} {m : MethodId} {below : List Frame} {meth : Method} {c : Code} {b : Nat} (hx : p.tables.exec = Jvm.exec) (hb : c.code = code) (hr : meth.sig.returnType = ret) (hlocks : meth.locks = false) {pc : Nat} {H : Heap} {ls : Array Slot} (hdg : decode code pc = .ok (.ireturn, 1)) : W p l e room_1 s m #[Value.ref b] below meth c H [] 17 775 (lw_Z below #[Value.ref b] s) (F0 m pc ls [.int 1]) := by
  intro T hT X
  obtain ⟨fs, hret, hrun, hended, hW, hframe⟩ := X.leave (v := some (.int 1)) (hlocks := hlocks) (fun h => by rw [hr] at h; cases h)
  have hmeth' : T.vm.method? m = some meth := X.method'
  refine ⟨T.setFrames fs, ?_, .returned (some (.int 1)), hrun, hended, rfl, ⟨_, rfl⟩, hW, hframe⟩
  jvm_step X.here [X.here.top, hx, hb, hdg, hmeth', hr, ret, narrow_b1]
  (try refine ⟨rfl, ?_⟩); (try refine ⟨rfl, ?_⟩)
  first | (intro acts; rw [hret _ acts rfl rfl rfl]) | rw [hret _ _ rfl rfl rfl]
  exact Steps.refl _
/-- what holds at the law's entry: the machine, the code, the tables' words (any of lw_tbl by 'hts w (by decide +kernel)'), the script of L ints xs at the cell b, what the Statement gives of the start (any of its parts by flat_of_before) -/
def lw_At (p : Program) (s : State) (m : MethodId) (meth : Method) (c : Code) (b L : Nat) (xs : Nat → Int32) : Prop :=
  p.tables.exec = Jvm.exec ∧ c.code = code ∧ meth.sig.returnType = ret ∧ c.maxLocals = 4 ∧ s.vm.findClass R_law = some m.cls ∧ (∀ w ∈ lw_tbl, w.before #[Value.ref b] s = true) ∧ va_X b L xs s s.heap ∧ b < s.heap.size ∧ meth.locks = false ∧ (Jvm.Cond.and given_1 narrow_1).before #[Value.ref b] s = true
section GL
variable {p : Program} {l : Launch} {e : Env} {R : Room} {s : State} {m : MethodId} {args : Array Value} {below : List Frame} {meth : Method} {c : Code} {H : Heap} {locs : List Loc} {cells slots : Nat} {Q : State → Prop}
variable {cc : ByteArray} {pc : Nat} {ls : Array Slot} {rest : List Value} {dC : Nat → ClassId} {dI : Nat → Nat → Nat} {A : Nat → Prop} {H0 : Heap} {cI cZ : ClassId} {h h2 : Nat} {q q2 : Nat → Nat} {u v : st_T} {Ts : List Cond} {own : String}
theorem gl_0 {f : Int32 × st_T} {index maxL nL : Nat} {y : MethodName} {bytes : ByteArray} {ret : Option FieldType} {wsy ws' : List Cond} {rm : Room} {As st0 : List Value} (n : Nat)
    (hx : p.tables.exec = Jvm.exec) (hb : c.code = cc) (hml : c.maxLocals = nL) (hown : s.vm.findClass own = some m.cls) (hts : ∀ w ∈ Ts, w.before args s = true) (hK : va_K (dC, dI) vwCl (ty_IZ cI cZ) s) (hA : ∀ x, H0.size ≤ x → A x) (G : gx_ (dC, dI) A H0 H locs (gw0_ cI cZ h q u ++ gw1_ cI cZ h2 q2 v))
    (hM : gx_Mi l y wsy rm (.ref h :: As) (dC, dI) cI cZ (gw0_ cI cZ h q) u H.size f) (gin : GoodIn Ts (wsV own index RX0 y wsy)) (hw : wsy = Cond.code y bytes maxL ret :: ws') (hr0 : rm.cells = 0) (hr1 : rm.slots = 0)
    (hd : y.cls = RX0 ∧ y.cls ≠ "java/lang/invoke/MethodHandle" ∧ y.cls ≠ "java/lang/invoke/VarHandle" ∧ (parseMethodDescriptor y.desc).map (fun d => d.parameters.length) = some n) (hR : rm.frames + 1 ≤ R.frames ∧ 8 + (maxL + 11) + rm.locals ≤ R.locals)
    (hn : As.length = n) (hls : ls.size = nL) (hst : st0 = As.reverse ++ .ref h :: rest) (hroom : (rest.map fun v => v.category).sum ≤ 8) (hdg : decode cc pc = .ok (.invokevirtual index, 3)) (hcl : cells ≤ R.cells) (hsl : slots ≤ R.slots)
    (kk : ∀ (H1 : Heap) (locs1 : List Loc), gx_ (dC, dI) A H0 H1 locs1 (gw0_ cI cZ h q f.2 ++ gw1_ cI cZ h2 q2 v) → W p l e R s m args below meth c H1 locs1 cells slots Q (F0 m (pc + 3) ls (.int f.1 :: rest))) : W p l e R s m args below meth c H locs cells slots Q (F0 m pc ls st0) := by
  obtain ⟨hP, hD, hS⟩ := G
  have hPc := hP.sub (ws' := gw0_ cI cZ h q u) [0, 1, 2, 3, 4, 5, 6, 7, 8] rfl
  have hDc := hD.sub (ws' := gw0_ cI cZ h q u) [0, 1, 2, 3, 4, 5, 6, 7, 8] (by decide) rfl
  have hFc := va_free (wc := gw0_ cI cZ h q u) hD hS hA [0, 1, 2, 3, 4, 5, 6, 7, 8] rfl
  refine va_calli (va_runV (As := As) (rest := rest) ⟨hx, hb, hml, hown, hts⟩ hM (cwV n hts gin hw hr0 hr1 hd hR) ⟨gx_blind, va_recv hK hPc (ci := 0) (q0 := 0) rfl rfl, fun U hU hW => ⟨rfl, by rw [hU], by rw [hU]; exact hPc, va_K.moved hW.alike hK, hDc.weaken (fun _ _ _ _ => trivial)⟩⟩ rfl hn hls hst (lv_room hroom) hdg ⟨hcl, hsl⟩) hS (fun x _ h => hFc x h) hFc (fun r u1 t H1 locs1 ht hvm hw hB hz1 hk1 hS1 => ?_)
  obtain ⟨hP1, hK1, hD1⟩ := hB
  obtain ⟨rfl, rfl⟩ := hw
  rw [ht] at hP1
  obtain ⟨hP2, hD2⟩ := va_join (wr := gw1_ cI cZ h2 q2 v) (w1 := gw0_ cI cZ h q f.2) hP hD [0, 1, 2, 3, 4, 5, 6, 7, 8] [9, 10, 11, 12, 13, 14, 15, 16] rfl rfl (by decide) (by decide) hk1 hFc hP1 hD1
  exact kk H1 locs1 ⟨hP2.sub [8, 9, 10, 11, 12, 13, 14, 15, 16, 0, 1, 2, 3, 4, 5, 6, 7] rfl, hD2.sub [8, 9, 10, 11, 12, 13, 14, 15, 16, 0, 1, 2, 3, 4, 5, 6, 7] (by decide) rfl, hS1⟩
theorem gl_1 {f : Int32 × st_T} {index maxL nL : Nat} {y : MethodName} {bytes : ByteArray} {ret : Option FieldType} {wsy ws' : List Cond} {rm : Room} {As st0 : List Value} (n : Nat)
    (hx : p.tables.exec = Jvm.exec) (hb : c.code = cc) (hml : c.maxLocals = nL) (hown : s.vm.findClass own = some m.cls) (hts : ∀ w ∈ Ts, w.before args s = true) (hK : va_K (dC, dI) vwCl (ty_IZ cI cZ) s) (hA : ∀ x, H0.size ≤ x → A x) (G : gx_ (dC, dI) A H0 H locs (gw0_ cI cZ h q u ++ gw1_ cI cZ h2 q2 v))
    (hM : gx_Mi l y wsy rm (.ref h2 :: As) (dC, dI) cI cZ (gw1_ cI cZ h2 q2) v H.size f) (gin : GoodIn Ts (wsV own index RX1 y wsy)) (hw : wsy = Cond.code y bytes maxL ret :: ws') (hr0 : rm.cells = 0) (hr1 : rm.slots = 0)
    (hd : y.cls = RX1 ∧ y.cls ≠ "java/lang/invoke/MethodHandle" ∧ y.cls ≠ "java/lang/invoke/VarHandle" ∧ (parseMethodDescriptor y.desc).map (fun d => d.parameters.length) = some n) (hR : rm.frames + 1 ≤ R.frames ∧ 8 + (maxL + 11) + rm.locals ≤ R.locals)
    (hn : As.length = n) (hls : ls.size = nL) (hst : st0 = As.reverse ++ .ref h2 :: rest) (hroom : (rest.map fun v => v.category).sum ≤ 8) (hdg : decode cc pc = .ok (.invokevirtual index, 3)) (hcl : cells ≤ R.cells) (hsl : slots ≤ R.slots)
    (kk : ∀ (H1 : Heap) (locs1 : List Loc), gx_ (dC, dI) A H0 H1 locs1 (gw0_ cI cZ h q u ++ gw1_ cI cZ h2 q2 f.2) → W p l e R s m args below meth c H1 locs1 cells slots Q (F0 m (pc + 3) ls (.int f.1 :: rest))) : W p l e R s m args below meth c H locs cells slots Q (F0 m pc ls st0) := by
  obtain ⟨hP, hD, hS⟩ := G
  have hPc := hP.sub (ws' := gw1_ cI cZ h2 q2 v) [9, 10, 11, 12, 13, 14, 15, 16] rfl
  have hDc := hD.sub (ws' := gw1_ cI cZ h2 q2 v) [9, 10, 11, 12, 13, 14, 15, 16] (by decide) rfl
  have hFc := va_free (wc := gw1_ cI cZ h2 q2 v) hD hS hA [9, 10, 11, 12, 13, 14, 15, 16] rfl
  refine va_calli (va_runV (As := As) (rest := rest) ⟨hx, hb, hml, hown, hts⟩ hM (cwV n hts gin hw hr0 hr1 hd hR) ⟨gx_blind, va_recv hK hPc (ci := 1) (q0 := 0) rfl rfl, fun U hU hW => ⟨rfl, by rw [hU], by rw [hU]; exact hPc, va_K.moved hW.alike hK, hDc.weaken (fun _ _ _ _ => trivial)⟩⟩ rfl hn hls hst (lv_room hroom) hdg ⟨hcl, hsl⟩) hS (fun x _ h => hFc x h) hFc (fun r u1 t H1 locs1 ht hvm hw hB hz1 hk1 hS1 => ?_)
  obtain ⟨hP1, hK1, hD1⟩ := hB
  obtain ⟨rfl, rfl⟩ := hw
  rw [ht] at hP1
  obtain ⟨hP2, hD2⟩ := va_join (wr := gw0_ cI cZ h q u) (w1 := gw1_ cI cZ h2 q2 f.2) hP hD [9, 10, 11, 12, 13, 14, 15, 16] [0, 1, 2, 3, 4, 5, 6, 7, 8] rfl rfl (by decide) (by decide) hk1 hFc hP1 hD1
  exact kk H1 locs1 ⟨hP2, hD2, hS1⟩
end GL
theorem sx_0 {i : Nat} (h : i < 2 ^ 31) (xs : Nat → Int32) : xs (nI i).toNatClampNeg = xs i := congrArg xs (nI_clamp h)
theorem sx_k {i j : Nat} (h : i + j < 2 ^ 31) (xs : Nat → Int32) : xs (nI i + nI j).toNatClampNeg = xs (i + j) := congrArg xs (by rw [nI_add]; exact nI_clamp h)
theorem sm_3 {L : Nat} (h : L ≤ 1536) : (Int32.ofNat L - 3).toInt = (L : Int) - 3 := by
  have h1 : (Int32.ofNat L).toInt = (L : Int) := nI_toInt (n := L) (by omega)
  rw [Int32.toInt_sub, h1, show (3 : Int32).toInt = 3 by decide]
  exact Int.bmod_eq_of_le_mul_two (by omega) (by omega)
set_option maxHeartbeats 4000000 in
set_option maxRecDepth 100000 in
theorem law_loop {p : Program} {l : Launch} {e : Env} {s : State} {m : MethodId} {below : List Frame} {meth : Method} {c : Code} {dC : Nat → ClassId} {dI : Nat → Nat → Nat} {cI cZ : ClassId} {b L : Nat} {xs : Nat → Int32} {h h2 : Nat} {q q2 : Nat → Nat} (hL : L ≤ 1536) (C0 : lw_At p s m meth c b L xs) (hK : va_K (dC, dI) vwCl (ty_IZ cI cZ) s) :
    ∀ (n k : Nat), 3 * k ≤ L → 513 ≤ k + n → ∀ (u v : st_T), ri_ u v k → ∀ (H : Heap) (locs : List Loc), gx_ (dC, dI) (fun q : Nat => s.heap.size ≤ q) s.heap H locs (gw0_ cI cZ h q u ++ gw1_ cI cZ h2 q2 v) → ∀ (ls : Array Slot), lv_has ls 4 [(3, .int (nI (3 * k))), (2, .ref h2), (1, .ref h), (0, .ref b)] → W p l e room_1 s m #[Value.ref b] below meth c H locs 17 775 (lw_Z below #[Value.ref b] s) (F0 m 18 ls []) := by
  obtain ⟨hx, hb, hr, hml, hown, hts, hX, hbl, hlocks, hgv⟩ := C0
  have hown : s.vm.findClass RL = some m.cls := hown
  have hts := fun w h => hts w (wsL_law_in w h)
  have hA : ∀ q : Nat, s.heap.size ≤ q → (fun q : Nat => s.heap.size ≤ q) q := fun _ h => h
  have hbA : ¬ (fun q : Nat => s.heap.size ≤ q) b := Nat.not_le.mpr hbl
  intro n
  induction n with
  | zero =>
    intro k h1 h2
    exact absurd h2 (by omega)
  | succ n ih =>
    intro k hk hn u v hri H locs G ls hl
    refine lv_iload_n hx hb dL_law_18 rfl (lv_at hl 0 rfl) ?_
    refine lv_aload_n hx hb dL_law_19 rfl (lv_at hl 3 rfl) ?_
    refine va_slen hx hb hX hbl hbA G.2.2 dL_law_20 ?_
    refine lv_iconst (v := 3) hx hb dL_law_21 (by decide) ?_
    refine lv_isub hx hb dL_law_22 ?_
    refine lv_icmp_gt (tgt := 233) hx hb dL_law_23 (by decide) (fun c_23 => ?_) (fun c_23 => ?_)
    · refine lv_iconst (v := 1) hx hb dL_law_233 (by decide) ?_
      refine va_forget (fun q hq => G.2.2.2.2 q hq) ?_
      exact lw_ret hx hb hr hlocks dL_law_234
    · have hk3 : 3 * k + 3 ≤ L := by
        rw [Int32.lt_iff_toInt_lt, sm_3 hL, nI_toInt (by omega)] at c_23
        omega
      have hk5 : k < 512 := by omega
      have next : ∀ (u v : st_T), ri_ u v (k + 1) → ∀ (H : Heap) (locs : List Loc), gx_ (dC, dI) (fun q : Nat => s.heap.size ≤ q) s.heap H locs (gw0_ cI cZ h q u ++ gw1_ cI cZ h2 q2 v) → ∀ (ls : Array Slot), lv_has ls 4 [(3, .int (nI (3 * k))), (2, .ref h2), (1, .ref h), (0, .ref b)] → W p l e room_1 s m #[Value.ref b] below meth c H locs 17 775 (lw_Z below #[Value.ref b] s) (F0 m 227 ls []) := by
        intro u v hri H locs G ls hl
        refine lv_iinc (v := nI (3 * (k + 1))) (lv' := [(3, .int (nI (3 * (k + 1)))), (2, .ref h2), (1, .ref h), (0, .ref b)]) hx hb dL_law_227 hl (k := 0) rfl (by show nI (3 * k) + nI 3 = nI (3 * (k + 1)); rw [nI_add]; rfl) (by decide) rfl (fun ls hl => ?_)
        refine lv_goto (tgt := 18) hx hb dL_law_230 (by decide) ?_
        exact ih (k + 1) (by omega) (by omega) u v hri H locs G ls hl
      have i0 : vp_in (nI (3 * k)) L := vp_in_nI (by omega) (by omega)
      have i1 : vp_in (nI (3 * k) + nI 1) L := by rw [nI_add]; exact vp_in_nI (by omega) (by omega)
      have i2 : vp_in (nI (3 * k) + nI 2) L := by rw [nI_add]; exact vp_in_nI (by omega) (by omega)
      refine lv_aload_n hx hb dL_law_26 rfl (lv_at hl 3 rfl) ?_
      refine lv_iload_n hx hb dL_law_27 rfl (lv_at hl 0 rfl) ?_
      refine va_sld hx hb hX hbl hbA G.2.2 i0 dL_law_28 ?_
      refine gx_is (y := xs (3 * k)) (sx_0 (by omega) xs) ?_
      refine lv_bipush (v := 7) hx hb dL_law_29 (by decide) ?_
      refine lv_iand hx hb dL_law_31 ?_
      obtain ⟨a, ea⟩ : ∃ a, a = xs (3 * k) &&& 7 := ⟨_, rfl⟩
      refine gx_is (y := a) ea.symm ?_
      obtain ⟨x1, ex1⟩ : ∃ a, a = xs (3 * k + 1) := ⟨_, rfl⟩
      obtain ⟨x2, ex2⟩ : ∃ a, a = xs (3 * k + 2) := ⟨_, rfl⟩
      by_cases c_0 : a = 0
      · refine lv_tableIn (tgt := 76) hx hb dL_law_32 (by rw [c_0]; decide) (by rw [c_0]; decide) (by rw [c_0]; rfl) (by decide) ?_
        have hca := ca_hold hri hk5 x1 x2
        refine lv_aload_n hx hb dL_law_76 rfl (lv_at hl 2 rfl) ?_
        refine lv_aload_n hx hb dL_law_77 rfl (lv_at hl 3 rfl) ?_
        refine lv_iload_n hx hb dL_law_78 rfl (lv_at hl 0 rfl) ?_
        refine lv_iconst (v := nI 1) hx hb dL_law_79 (by decide) ?_
        refine lv_iadd hx hb dL_law_80 ?_
        refine va_sld hx hb hX hbl hbA G.2.2 i1 dL_law_81 ?_
        refine gx_is (y := x1) ((sx_k (by omega) xs).trans ex1.symm) ?_
        refine lv_aload_n hx hb dL_law_82 rfl (lv_at hl 3 rfl) ?_
        refine lv_iload_n hx hb dL_law_83 rfl (lv_at hl 0 rfl) ?_
        refine lv_iconst (v := nI 2) hx hb dL_law_84 (by decide) ?_
        refine lv_iadd hx hb dL_law_85 ?_
        refine va_sld hx hb hX hbl hbA G.2.2 i2 dL_law_86 ?_
        refine gx_is (y := x2) ((sx_k (by omega) xs).trans ex2.symm) ?_
        refine gl_0 (f := (pd_hold u x1 x2)) (As := [.int x1, .int x2]) (rest := []) 2 hx hb hml hown hts hK hA G (kd_hold l dC dI cI cZ h q H.size u x1 x2 ) gL_law_X0_hold rfl rfl rfl hd_X0_hold ⟨Nat.le_of_ble_eq_true rfl, Nat.le_of_ble_eq_true rfl⟩ rfl hl.1 rfl (Nat.le_of_ble_eq_true rfl) dL_law_87 (Nat.le_of_ble_eq_true rfl) (Nat.le_of_ble_eq_true rfl) (fun H locs G => ?_)
        refine lv_aload_n hx hb dL_law_90 rfl (lv_at hl 1 rfl) ?_
        refine lv_aload_n hx hb dL_law_91 rfl (lv_at hl 3 rfl) ?_
        refine lv_iload_n hx hb dL_law_92 rfl (lv_at hl 0 rfl) ?_
        refine lv_iconst (v := nI 1) hx hb dL_law_93 (by decide) ?_
        refine lv_iadd hx hb dL_law_94 ?_
        refine va_sld hx hb hX hbl hbA G.2.2 i1 dL_law_95 ?_
        refine gx_is (y := x1) ((sx_k (by omega) xs).trans ex1.symm) ?_
        refine lv_aload_n hx hb dL_law_96 rfl (lv_at hl 3 rfl) ?_
        refine lv_iload_n hx hb dL_law_97 rfl (lv_at hl 0 rfl) ?_
        refine lv_iconst (v := nI 2) hx hb dL_law_98 (by decide) ?_
        refine lv_iadd hx hb dL_law_99 ?_
        refine va_sld hx hb hX hbl hbA G.2.2 i2 dL_law_100 ?_
        refine gx_is (y := x2) ((sx_k (by omega) xs).trans ex2.symm) ?_
        refine gl_1 (f := (pm_hold v x1 x2)) (As := [.int x1, .int x2]) (rest := [.int (pd_hold u x1 x2).1]) 2 hx hb hml hown hts hK hA G (km_hold l dC dI cI cZ h2 q2 H.size v x1 x2 ) gL_law_X1_hold rfl rfl rfl hd_X1_hold ⟨Nat.le_of_ble_eq_true rfl, Nat.le_of_ble_eq_true rfl⟩ rfl hl.1 rfl (Nat.le_of_ble_eq_true rfl) dL_law_101 (Nat.le_of_ble_eq_true rfl) (Nat.le_of_ble_eq_true rfl) (fun H locs G => ?_)
        refine lv_icmp_eq (tgt := 227) hx hb dL_law_104 (by decide) (fun _ => ?_) (fun z => absurd (hca.1) z)
        exact next _ _ (hca.2) H locs G ls hl
      by_cases c_1 : a = 1
      · refine lv_tableIn (tgt := 109) hx hb dL_law_32 (by rw [c_1]; decide) (by rw [c_1]; decide) (by rw [c_1]; rfl) (by decide) ?_
        have hca := ca_step hri hk5 x1 x2
        refine lv_aload_n hx hb dL_law_109 rfl (lv_at hl 2 rfl) ?_
        refine lv_aload_n hx hb dL_law_110 rfl (lv_at hl 3 rfl) ?_
        refine lv_iload_n hx hb dL_law_111 rfl (lv_at hl 0 rfl) ?_
        refine lv_iconst (v := nI 1) hx hb dL_law_112 (by decide) ?_
        refine lv_iadd hx hb dL_law_113 ?_
        refine va_sld hx hb hX hbl hbA G.2.2 i1 dL_law_114 ?_
        refine gx_is (y := x1) ((sx_k (by omega) xs).trans ex1.symm) ?_
        refine lv_aload_n hx hb dL_law_115 rfl (lv_at hl 3 rfl) ?_
        refine lv_iload_n hx hb dL_law_116 rfl (lv_at hl 0 rfl) ?_
        refine lv_iconst (v := nI 2) hx hb dL_law_117 (by decide) ?_
        refine lv_iadd hx hb dL_law_118 ?_
        refine va_sld hx hb hX hbl hbA G.2.2 i2 dL_law_119 ?_
        refine gx_is (y := x2) ((sx_k (by omega) xs).trans ex2.symm) ?_
        refine gl_0 (f := (pd_step u x1 x2)) (As := [.int x1, .int x2]) (rest := []) 2 hx hb hml hown hts hK hA G (kd_step l dC dI cI cZ h q H.size u x1 x2 hca.1 hca.2.1) gL_law_X0_step rfl rfl rfl hd_X0_step ⟨Nat.le_of_ble_eq_true rfl, Nat.le_of_ble_eq_true rfl⟩ rfl hl.1 rfl (Nat.le_of_ble_eq_true rfl) dL_law_120 (Nat.le_of_ble_eq_true rfl) (Nat.le_of_ble_eq_true rfl) (fun H locs G => ?_)
        refine lv_aload_n hx hb dL_law_123 rfl (lv_at hl 1 rfl) ?_
        refine lv_aload_n hx hb dL_law_124 rfl (lv_at hl 3 rfl) ?_
        refine lv_iload_n hx hb dL_law_125 rfl (lv_at hl 0 rfl) ?_
        refine lv_iconst (v := nI 1) hx hb dL_law_126 (by decide) ?_
        refine lv_iadd hx hb dL_law_127 ?_
        refine va_sld hx hb hX hbl hbA G.2.2 i1 dL_law_128 ?_
        refine gx_is (y := x1) ((sx_k (by omega) xs).trans ex1.symm) ?_
        refine lv_aload_n hx hb dL_law_129 rfl (lv_at hl 3 rfl) ?_
        refine lv_iload_n hx hb dL_law_130 rfl (lv_at hl 0 rfl) ?_
        refine lv_iconst (v := nI 2) hx hb dL_law_131 (by decide) ?_
        refine lv_iadd hx hb dL_law_132 ?_
        refine va_sld hx hb hX hbl hbA G.2.2 i2 dL_law_133 ?_
        refine gx_is (y := x2) ((sx_k (by omega) xs).trans ex2.symm) ?_
        refine gl_1 (f := (pm_step v x1 x2)) (As := [.int x1, .int x2]) (rest := [.int (pd_step u x1 x2).1]) 2 hx hb hml hown hts hK hA G (km_step l dC dI cI cZ h2 q2 H.size v x1 x2 hca.2.2.1) gL_law_X1_step rfl rfl rfl hd_X1_step ⟨Nat.le_of_ble_eq_true rfl, Nat.le_of_ble_eq_true rfl⟩ rfl hl.1 rfl (Nat.le_of_ble_eq_true rfl) dL_law_134 (Nat.le_of_ble_eq_true rfl) (Nat.le_of_ble_eq_true rfl) (fun H locs G => ?_)
        refine lv_icmp_eq (tgt := 227) hx hb dL_law_137 (by decide) (fun _ => ?_) (fun z => absurd (hca.2.2.2.1) z)
        exact next _ _ (hca.2.2.2.2) H locs G ls hl
      by_cases c_2 : a = 2
      · refine lv_tableIn (tgt := 142) hx hb dL_law_32 (by rw [c_2]; decide) (by rw [c_2]; decide) (by rw [c_2]; rfl) (by decide) ?_
        have hca := ca_clear hri hk5
        refine lv_aload_n hx hb dL_law_142 rfl (lv_at hl 2 rfl) ?_
        refine gl_0 (f := (pd_clear u)) (As := []) (rest := []) 0 hx hb hml hown hts hK hA G (kd_clear l dC dI cI cZ h q H.size u  ) gL_law_X0_clear rfl rfl rfl hd_X0_clear ⟨Nat.le_of_ble_eq_true rfl, Nat.le_of_ble_eq_true rfl⟩ rfl hl.1 rfl (Nat.le_of_ble_eq_true rfl) dL_law_143 (Nat.le_of_ble_eq_true rfl) (Nat.le_of_ble_eq_true rfl) (fun H locs G => ?_)
        refine lv_aload_n hx hb dL_law_146 rfl (lv_at hl 1 rfl) ?_
        refine gl_1 (f := (pm_clear v)) (As := []) (rest := [.int (pd_clear u).1]) 0 hx hb hml hown hts hK hA G (km_clear l dC dI cI cZ h2 q2 H.size v  ) gL_law_X1_clear rfl rfl rfl hd_X1_clear ⟨Nat.le_of_ble_eq_true rfl, Nat.le_of_ble_eq_true rfl⟩ rfl hl.1 rfl (Nat.le_of_ble_eq_true rfl) dL_law_147 (Nat.le_of_ble_eq_true rfl) (Nat.le_of_ble_eq_true rfl) (fun H locs G => ?_)
        refine lv_icmp_eq (tgt := 227) hx hb dL_law_150 (by decide) (fun _ => ?_) (fun z => absurd (hca.1) z)
        exact next _ _ (hca.2) H locs G ls hl
      by_cases c_3 : a = 3
      · refine lv_tableIn (tgt := 155) hx hb dL_law_32 (by rw [c_3]; decide) (by rw [c_3]; decide) (by rw [c_3]; rfl) (by decide) ?_
        have hca := ca_run hri hk5
        refine lv_aload_n hx hb dL_law_155 rfl (lv_at hl 2 rfl) ?_
        refine gl_0 (f := (pd_run u)) (As := []) (rest := []) 0 hx hb hml hown hts hK hA G (kd_run l dC dI cI cZ h q H.size u  hca.1) gL_law_X0_run rfl rfl rfl hd_X0_run ⟨Nat.le_of_ble_eq_true rfl, Nat.le_of_ble_eq_true rfl⟩ rfl hl.1 rfl (Nat.le_of_ble_eq_true rfl) dL_law_156 (Nat.le_of_ble_eq_true rfl) (Nat.le_of_ble_eq_true rfl) (fun H locs G => ?_)
        refine lv_aload_n hx hb dL_law_159 rfl (lv_at hl 1 rfl) ?_
        refine gl_1 (f := (pm_run v)) (As := []) (rest := [.int (pd_run u).1]) 0 hx hb hml hown hts hK hA G (km_run l dC dI cI cZ h2 q2 H.size v  hca.2.1) gL_law_X1_run rfl rfl rfl hd_X1_run ⟨Nat.le_of_ble_eq_true rfl, Nat.le_of_ble_eq_true rfl⟩ rfl hl.1 rfl (Nat.le_of_ble_eq_true rfl) dL_law_160 (Nat.le_of_ble_eq_true rfl) (Nat.le_of_ble_eq_true rfl) (fun H locs G => ?_)
        refine lv_icmp_eq (tgt := 227) hx hb dL_law_163 (by decide) (fun _ => ?_) (fun z => absurd (hca.2.2.1) z)
        exact next _ _ (hca.2.2.2) H locs G ls hl
      by_cases c_4 : a = 4
      · refine lv_tableIn (tgt := 168) hx hb dL_law_32 (by rw [c_4]; decide) (by rw [c_4]; decide) (by rw [c_4]; rfl) (by decide) ?_
        refine lv_aload_n hx hb dL_law_168 rfl (lv_at hl 2 rfl) ?_
        refine lv_aload_n hx hb dL_law_169 rfl (lv_at hl 3 rfl) ?_
        refine lv_iload_n hx hb dL_law_170 rfl (lv_at hl 0 rfl) ?_
        refine lv_iconst (v := nI 1) hx hb dL_law_171 (by decide) ?_
        refine lv_iadd hx hb dL_law_172 ?_
        refine va_sld hx hb hX hbl hbA G.2.2 i1 dL_law_173 ?_
        refine gx_is (y := x1) ((sx_k (by omega) xs).trans ex1.symm) ?_
        refine gl_0 (f := (pd_result u x1, u)) (As := [.int x1]) (rest := []) 1 hx hb hml hown hts hK hA G (kd_result l dC dI cI cZ h q H.size u x1 ) gL_law_X0_result rfl rfl rfl hd_X0_result ⟨Nat.le_of_ble_eq_true rfl, Nat.le_of_ble_eq_true rfl⟩ rfl hl.1 rfl (Nat.le_of_ble_eq_true rfl) dL_law_174 (Nat.le_of_ble_eq_true rfl) (Nat.le_of_ble_eq_true rfl) (fun H locs G => ?_)
        refine lv_aload_n hx hb dL_law_177 rfl (lv_at hl 1 rfl) ?_
        refine lv_aload_n hx hb dL_law_178 rfl (lv_at hl 3 rfl) ?_
        refine lv_iload_n hx hb dL_law_179 rfl (lv_at hl 0 rfl) ?_
        refine lv_iconst (v := nI 1) hx hb dL_law_180 (by decide) ?_
        refine lv_iadd hx hb dL_law_181 ?_
        refine va_sld hx hb hX hbl hbA G.2.2 i1 dL_law_182 ?_
        refine gx_is (y := x1) ((sx_k (by omega) xs).trans ex1.symm) ?_
        refine gl_1 (f := (pm_result v x1, v)) (As := [.int x1]) (rest := [.int (pd_result u x1)]) 1 hx hb hml hown hts hK hA G (km_result l dC dI cI cZ h2 q2 H.size v x1 ) gL_law_X1_result rfl rfl rfl hd_X1_result ⟨Nat.le_of_ble_eq_true rfl, Nat.le_of_ble_eq_true rfl⟩ rfl hl.1 rfl (Nat.le_of_ble_eq_true rfl) dL_law_183 (Nat.le_of_ble_eq_true rfl) (Nat.le_of_ble_eq_true rfl) (fun H locs G => ?_)
        refine lv_icmp_eq (tgt := 227) hx hb dL_law_186 (by decide) (fun _ => ?_) (fun z => absurd (ca_result hri x1) z)
        exact next _ _ (ri_next hri hk5) H locs G ls hl
      by_cases c_5 : a = 5
      · refine lv_tableIn (tgt := 191) hx hb dL_law_32 (by rw [c_5]; decide) (by rw [c_5]; decide) (by rw [c_5]; rfl) (by decide) ?_
        refine lv_aload_n hx hb dL_law_191 rfl (lv_at hl 2 rfl) ?_
        refine gl_0 (f := (pd_failure u, u)) (As := []) (rest := []) 0 hx hb hml hown hts hK hA G (kd_failure l dC dI cI cZ h q H.size u  ) gL_law_X0_failure rfl rfl rfl hd_X0_failure ⟨Nat.le_of_ble_eq_true rfl, Nat.le_of_ble_eq_true rfl⟩ rfl hl.1 rfl (Nat.le_of_ble_eq_true rfl) dL_law_192 (Nat.le_of_ble_eq_true rfl) (Nat.le_of_ble_eq_true rfl) (fun H locs G => ?_)
        refine lv_aload_n hx hb dL_law_195 rfl (lv_at hl 1 rfl) ?_
        refine gl_1 (f := (pm_failure v, v)) (As := []) (rest := [.int (pd_failure u)]) 0 hx hb hml hown hts hK hA G (km_failure l dC dI cI cZ h2 q2 H.size v  ) gL_law_X1_failure rfl rfl rfl hd_X1_failure ⟨Nat.le_of_ble_eq_true rfl, Nat.le_of_ble_eq_true rfl⟩ rfl hl.1 rfl (Nat.le_of_ble_eq_true rfl) dL_law_196 (Nat.le_of_ble_eq_true rfl) (Nat.le_of_ble_eq_true rfl) (fun H locs G => ?_)
        refine lv_icmp_eq (tgt := 227) hx hb dL_law_199 (by decide) (fun _ => ?_) (fun z => absurd (ca_failure hri) z)
        exact next _ _ (ri_next hri hk5) H locs G ls hl
      by_cases c_6 : a = 6
      · refine lv_tableIn (tgt := 204) hx hb dL_law_32 (by rw [c_6]; decide) (by rw [c_6]; decide) (by rw [c_6]; rfl) (by decide) ?_
        refine lv_aload_n hx hb dL_law_204 rfl (lv_at hl 2 rfl) ?_
        refine lv_aload_n hx hb dL_law_205 rfl (lv_at hl 3 rfl) ?_
        refine lv_iload_n hx hb dL_law_206 rfl (lv_at hl 0 rfl) ?_
        refine lv_iconst (v := nI 1) hx hb dL_law_207 (by decide) ?_
        refine lv_iadd hx hb dL_law_208 ?_
        refine va_sld hx hb hX hbl hbA G.2.2 i1 dL_law_209 ?_
        refine gx_is (y := x1) ((sx_k (by omega) xs).trans ex1.symm) ?_
        refine gl_0 (f := (pd_state u x1, u)) (As := [.int x1]) (rest := []) 1 hx hb hml hown hts hK hA G (kd_state l dC dI cI cZ h q H.size u x1 ) gL_law_X0_state rfl rfl rfl hd_X0_state ⟨Nat.le_of_ble_eq_true rfl, Nat.le_of_ble_eq_true rfl⟩ rfl hl.1 rfl (Nat.le_of_ble_eq_true rfl) dL_law_210 (Nat.le_of_ble_eq_true rfl) (Nat.le_of_ble_eq_true rfl) (fun H locs G => ?_)
        refine lv_aload_n hx hb dL_law_213 rfl (lv_at hl 1 rfl) ?_
        refine lv_aload_n hx hb dL_law_214 rfl (lv_at hl 3 rfl) ?_
        refine lv_iload_n hx hb dL_law_215 rfl (lv_at hl 0 rfl) ?_
        refine lv_iconst (v := nI 1) hx hb dL_law_216 (by decide) ?_
        refine lv_iadd hx hb dL_law_217 ?_
        refine va_sld hx hb hX hbl hbA G.2.2 i1 dL_law_218 ?_
        refine gx_is (y := x1) ((sx_k (by omega) xs).trans ex1.symm) ?_
        refine gl_1 (f := (pm_state v x1, v)) (As := [.int x1]) (rest := [.int (pd_state u x1)]) 1 hx hb hml hown hts hK hA G (km_state l dC dI cI cZ h2 q2 H.size v x1 ) gL_law_X1_state rfl rfl rfl hd_X1_state ⟨Nat.le_of_ble_eq_true rfl, Nat.le_of_ble_eq_true rfl⟩ rfl hl.1 rfl (Nat.le_of_ble_eq_true rfl) dL_law_219 (Nat.le_of_ble_eq_true rfl) (Nat.le_of_ble_eq_true rfl) (fun H locs G => ?_)
        refine lv_icmp_eq (tgt := 227) hx hb dL_law_222 (by decide) (fun _ => ?_) (fun z => absurd (ca_state hri x1) z)
        exact next _ _ (ri_next hri hk5) H locs G ls hl
      refine lv_tableOut (tgt := 227) hx hb dL_law_32 (by have z0 := lv_neT c_0 (a := 0) (by decide); have z1 := lv_neT c_1 (a := 1) (by decide); have z2 := lv_neT c_2 (a := 2) (by decide); have z3 := lv_neT c_3 (a := 3) (by decide); have z4 := lv_neT c_4 (a := 4) (by decide); have z5 := lv_neT c_5 (a := 5) (by decide); have z6 := lv_neT c_6 (a := 6) (by decide); omega) (by decide) ?_
      exact next _ _ (ri_next hri hk5) H locs G ls hl
set_option maxHeartbeats 4000000 in
set_option maxRecDepth 100000 in
/-- THE LAW, from its entry -/
theorem whole_start {p : Program} {e : Env} {s : State} {m : MethodId} {below : List Frame} {meth : Method} {c : Code} (l : Launch) (hflags : l.flags = flags0) {b L : Nat} {xs : Nat → Int32} (hL : L ≤ 1536) (C0 : lw_At p s m meth c b L xs) : W p l e room_1 s m #[Value.ref b] below meth c s.heap [] 0 0 (lw_Z below #[Value.ref b] s) (entryFrame m ([Value.ref b] : List Value).toArray 4) := by
  obtain ⟨hx, hb, hr, hml, hown, hts0, hX, hbl, hlocks, hgv⟩ := id C0
  have hown : s.vm.findClass RL = some m.cls := hown
  have hts := fun w h => hts0 w (wsL_law_in w h)
  have hA : ∀ q : Nat, s.heap.size ≤ q → (fun q : Nat => s.heap.size ≤ q) q := fun _ h => h
  obtain ⟨c0, iS0, hKn0⟩ := u_known (C := RX0) (T := TX0) (N := 17) (n := 17) hts inlX0 (hts (.instantiable RX0 17) (by decide +kernel))
  obtain ⟨c1, iS1, hKn1⟩ := u_known (C := RX1) (T := TX1) (N := 15) (n := 15) hts inlX1 (hts (.instantiable RX1 15) (by decide +kernel))
  obtain ⟨dC, dI, hKc⟩ : ∃ (dC : Nat → ClassId) (dI : Nat → Nat → Nat), ∀ (k : Nat) (q : vw_C), vwCl[k]? = some q → u_Kn s q.1 q.2.1 q.2.2 (dC k) (dI k) := by
    refine ⟨fun k => if k = 0 then c0 else c1, fun k => if k = 0 then iS0 else iS1, ?_⟩
    intro k q hq
    match k, hq with
    | 0, hq => cases hq; exact hKn0
    | 1, hq => cases hq; exact hKn1
    | k + 2, hq => simp [vwCl] at hq
  have hS : va_S (fun q : Nat => s.heap.size ≤ q) s.heap s.heap [] := va_S.rf
  have hK : va_K (dC, dI) vwCl [] s := ⟨hKc, fun k q h => by simp at h⟩
  have hP : va_P (dC, dI) vwCl [] s.heap := fun k q h => by simp at h
  have hD : va_D (fun q : Nat => s.heap.size ≤ q) [] := ⟨fun i j p q h => by simp at h, fun k q h => by simp at h⟩
  have hl := lv_entry ([.ref b]) (n := 4) (Nat.le_of_ble_eq_true rfl)
  rw [lg_entry_eq]
  generalize (lg_sl ([.ref b]) ++ List.replicate (4 - (lg_sl ([.ref b])).length) Slot.unset).toArray = ls at hl ⊢
  have hl : lv_has ls 4 [(0, .ref b)] := hl
  refine va_new (ci := 0) (fs := [.null, .int 0, .null, .int 0, .int 0, .null, .null, .null, .null, .int 0, .int 0, .int 0, .null, .int 0, .null, .int 0, .int 0]) (C := RX0) (T := TX0) (N := 17) hx hb hts inlX0 tyX0 tyX0_ok hown (hts (.classLink RL 7 RX0) (by decide +kernel)) (hts (.instantiable RX0 17) (by decide +kernel)) (hts (.initialized RX0) (by decide +kernel)) hK hP hD hS hA rfl (fun j hj => by
    match j, hj with
    | 0, _ => rfl
    | 1, _ => rfl
    | 2, _ => rfl
    | 3, _ => rfl
    | 4, _ => rfl
    | 5, _ => rfl
    | 6, _ => rfl
    | 7, _ => rfl
    | 8, _ => rfl
    | 9, _ => rfl
    | 10, _ => rfl
    | 11, _ => rfl
    | 12, _ => rfl
    | 13, _ => rfl
    | 14, _ => rfl
    | 15, _ => rfl
    | 16, _ => rfl
    | j + 17, hj => exact absurd hj (by omega)) (Nat.le_of_ble_eq_true rfl) (Nat.le_of_ble_eq_true rfl) dL_law_0 (fun h H hP hD hS => ?_)
  have hP : va_P (dC, dI) vwCl (gn0_ h) H := hP
  have hD : va_D (fun q : Nat => s.heap.size ≤ q) (gn0_ h) := hD
  refine W.widen (k := 1) (n := 17) (Nat.le_of_ble_eq_true rfl) (Nat.le_of_ble_eq_true rfl) ?_
  refine lv_dup hx hb dL_law_3 rfl ?_
  have hPc := hP.sub (ws' := gn0_ h) [0] rfl
  have hDc := hD.sub (ws' := gn0_ h) [0] (by decide) rfl
  have hKc0 := hK.sub (tys' := []) [] rfl
  have hFc := va_free (wc := gn0_ h) hD hS hA [0] rfl
  refine va_callv (va_runI (As := []) (rest := [.ref h]) ⟨hx, hb, hml, hown, hts⟩ (kd_init l dC dI h H.size) (cwI 0 hts gL_law_X0_init rfl rfl rfl (hts (.initialized RX0) (by decide +kernel)) (hts (.methodLink RL 9 yX0_init) (by decide +kernel)) (hts (.instanceMethod yX0_init) (by decide +kernel)) rfl (by decide +kernel) ⟨Nat.le_of_ble_eq_true rfl, Nat.le_of_ble_eq_true rfl⟩) ⟨fun a U g mk q => by obtain ⟨q0, q1, qP, qK, qD⟩ := q; exact ⟨q0, q1, qP, va_K.moved (u := U) (U := U.calling g mk a) (Vm.Alike.refl U.vm) qK, qD⟩, fun U hU hW => ⟨rfl, by rw [hU], by rw [hU]; exact hPc, va_K.moved hW.alike hKc0, hDc.weaken (fun _ _ _ _ => trivial)⟩⟩ rfl rfl hl.1 rfl (lv_room (Nat.le_of_ble_eq_true rfl)) dL_law_4 ⟨Nat.le_of_ble_eq_true rfl, Nat.le_of_ble_eq_true rfl⟩) hS (fun q _ h => hFc q h) hFc (fun un t H1 locs ht hvm hw hB hz1 hk1 hS => ?_)
  obtain ⟨cI, cZ, q, hP1, hK1, hD1⟩ := hB
  rw [ht] at hP1
  have hK1 := va_K.moved hvm.symm hK1
  obtain ⟨hP, hD⟩ := va_join (wr := []) (w1 := gw0_ cI cZ h q pd_init) hP hD [0] [] rfl rfl (by decide) (by decide) hk1 hFc hP1 hD1
  have hK : va_K (dC, dI) vwCl (ty_IZ cI cZ) s := hK1
  generalize H1 = H at hP hS ⊢
  have hP : va_P (dC, dI) vwCl (gw0_ cI cZ h q pd_init) H := hP
  have hD : va_D (fun q : Nat => s.heap.size ≤ q) (gw0_ cI cZ h q pd_init) := hD
  refine W.widen (k := 9) (n := 151) (Nat.le_of_ble_eq_true rfl) (Nat.le_of_ble_eq_true rfl) ?_
  refine lv_astore_n (lv' := [(1, .ref h), (0, .ref b)]) hx hb dL_law_7 rfl hl (by decide) rfl (fun ls hl => ?_)
  refine va_new (ci := 1) (fs := [.null, .null, .int 0, .null, .int 0, .int 0, .null, .null, .int 0, .int 0, .null, .int 0, .null, .int 0, .int 0]) (C := RX1) (T := TX1) (N := 15) hx hb hts inlX1 tyX1 tyX1_ok hown (hts (.classLink RL 10 RX1) (by decide +kernel)) (hts (.instantiable RX1 15) (by decide +kernel)) (hts (.initialized RX1) (by decide +kernel)) hK hP hD hS hA rfl (fun j hj => by
    match j, hj with
    | 0, _ => rfl
    | 1, _ => rfl
    | 2, _ => rfl
    | 3, _ => rfl
    | 4, _ => rfl
    | 5, _ => rfl
    | 6, _ => rfl
    | 7, _ => rfl
    | 8, _ => rfl
    | 9, _ => rfl
    | 10, _ => rfl
    | 11, _ => rfl
    | 12, _ => rfl
    | 13, _ => rfl
    | 14, _ => rfl
    | j + 15, hj => exact absurd hj (by omega)) (Nat.le_of_ble_eq_true rfl) (Nat.le_of_ble_eq_true rfl) dL_law_8 (fun h2 H hP hD hS => ?_)
  have hP : va_P (dC, dI) vwCl (gw0_ cI cZ h q pd_init ++ gn1_ h2) H := hP
  have hD : va_D (fun q : Nat => s.heap.size ≤ q) (gw0_ cI cZ h q pd_init ++ gn1_ h2) := hD
  refine W.widen (k := 10) (n := 166) (Nat.le_of_ble_eq_true rfl) (Nat.le_of_ble_eq_true rfl) ?_
  refine lv_dup hx hb dL_law_11 rfl ?_
  have hPc := hP.sub (ws' := gn1_ h2) [9] rfl
  have hDc := hD.sub (ws' := gn1_ h2) [9] (by decide) rfl
  have hKc1 := hK.sub (tys' := []) [] rfl
  have hFc := va_free (wc := gn1_ h2) hD hS hA [9] rfl
  refine va_callv (va_runI (As := []) (rest := [.ref h2]) ⟨hx, hb, hml, hown, hts⟩ (km_init l dC dI h2 H.size) (cwI 0 hts gL_law_X1_init rfl rfl rfl (hts (.initialized RX1) (by decide +kernel)) (hts (.methodLink RL 12 yX1_init) (by decide +kernel)) (hts (.instanceMethod yX1_init) (by decide +kernel)) rfl (by decide +kernel) ⟨Nat.le_of_ble_eq_true rfl, Nat.le_of_ble_eq_true rfl⟩) ⟨fun a U g mk q => by obtain ⟨q0, q1, qP, qK, qD⟩ := q; exact ⟨q0, q1, qP, va_K.moved (u := U) (U := U.calling g mk a) (Vm.Alike.refl U.vm) qK, qD⟩, fun U hU hW => ⟨rfl, by rw [hU], by rw [hU]; exact hPc, va_K.moved hW.alike hKc1, hDc.weaken (fun _ _ _ _ => trivial)⟩⟩ rfl rfl hl.1 rfl (lv_room (Nat.le_of_ble_eq_true rfl)) dL_law_12 ⟨Nat.le_of_ble_eq_true rfl, Nat.le_of_ble_eq_true rfl⟩) hS (fun q _ h => hFc q h) hFc (fun un t H1 locs ht hvm hw hB hz1 hk1 hS => ?_)
  obtain ⟨cI2, cZ2, q2, hP1, hK1, hD1⟩ := hB
  rw [ht] at hP1
  have hK1 := va_K.moved hvm.symm hK1
  have hKK := hK.app hK1
  obtain rfl : cI = cI2 := ty_u hKK (i := 0) (j := 2) rfl rfl (Or.inl rfl)
  obtain rfl : cZ = cZ2 := ty_u hKK (i := 1) (j := 3) rfl rfl (Or.inr rfl)
  obtain ⟨hP, hD⟩ := va_join (wr := gw0_ cI cZ h q pd_init) (w1 := gw1_ cI cZ h2 q2 pm_init) hP hD [9] [0, 1, 2, 3, 4, 5, 6, 7, 8] rfl rfl (by decide) (by decide) hk1 hFc hP1 hD1
  have hK : va_K (dC, dI) vwCl (ty_IZ cI cZ) s := hK1
  generalize H1 = H at hP hS ⊢
  have hP : va_P (dC, dI) vwCl (gw0_ cI cZ h q pd_init ++ gw1_ cI cZ h2 q2 pm_init) H := hP
  have hD : va_D (fun q : Nat => s.heap.size ≤ q) (gw0_ cI cZ h q pd_init ++ gw1_ cI cZ h2 q2 pm_init) := hD
  refine W.widen (k := 17) (n := 775) (Nat.le_of_ble_eq_true rfl) (Nat.le_of_ble_eq_true rfl) ?_
  refine lv_astore_n (lv' := [(2, .ref h2), (1, .ref h), (0, .ref b)]) hx hb dL_law_15 rfl hl (by decide) rfl (fun ls hl => ?_)
  refine lv_iconst (v := 0) hx hb dL_law_16 (by decide) ?_
  refine lv_istore_n (lv' := [(3, .int 0), (2, .ref h2), (1, .ref h), (0, .ref b)]) hx hb dL_law_17 rfl hl (by decide) rfl (fun ls hl => ?_)
  exact law_loop hL C0 hK 513 0 (Nat.zero_le _) (by decide) _ _ ri_init H locs ⟨hP, hD, hS⟩ ls hl
set_option maxHeartbeats 4000000 in
theorem lw_walk (l : Launch) (hflags : l.flags = flags0) (b : Addr) (xs : List Int32) : MetFree l x (headSpec (Jvm.Cond.code x code maxLocals ret :: tables_1) room_1) (lw_P b xs) (fun _ _ _ _ _ => True) lw_Q := by
  refine MetFree.of_bodyS (code := code) (maxLocals := maxLocals) (ret := ret) (by decide) ?_ ?_
  · intro args s m h hn
    obtain ⟨meth, c, h1, h2, h3, h4, h5, h6, -, -⟩ := Cond.code_spec hn (atoms_spec (ws := Jvm.Cond.code x code maxLocals ret :: tables_1) h _ List.mem_cons_self)
    exact ⟨meth, c, h1, h2, h3, h4, h5, h6⟩
  · intro p e s m args below meth c s₁ B hml0 hP _
    obtain ⟨rfl, hx, hbd, hgv⟩ := hP
    obtain ⟨scr, harrAt, hlist, hof, hsmall⟩ := hx
    obtain ⟨hcb, hkn, -, -⟩ := State.arrayAt?_spec harrAt
    have hown : s.vm.findClass R_law = some m.cls := findClass_of_methodNamed B.named
    have hts0 : ∀ c ∈ (Jvm.Cond.code x code maxLocals ret :: tables_1), c.before #[Value.ref b] s = true := atoms_spec (ws := Jvm.Cond.code x code maxLocals ret :: tables_1) B.pre
    have hts : ∀ w ∈ lw_tbl, w.before #[Value.ref b] s = true := k2_hts_sels lw_privs (fun w hw => hts0 w (List.mem_cons_of_mem _ hw)) lw_privs_ok
    have hml : c.maxLocals = 4 := B.maxLocals_eq (hts0 _ List.mem_cons_self)
    have X₀ : Stand p l e room_1 s m #[Value.ref b] below meth c s₁ [] 0 0 := Stand.of_body B
    have hh0 : s₁.heap = s.heap := by rw [B.state]; rfl
    have hsz : scr.slots.size = xs.length := by rw [← Array.length_toList, hlist, List.length_map]
    have hval : ∀ j : Nat, j < xs.length → scr.slots[j]? = some (.int (xs.getD j 0)) := fun j hj => by
      rw [← Array.getElem?_toList, hlist]
      simp [hj]
    have hbl : b < s.heap.size := (Array.getElem?_eq_some_iff.mp hcb).1
    have hX : va_X b xs.length (fun j => xs.getD j 0) s s.heap := ⟨scr, hcb, hof, hkn, hsz, hval⟩
    have K : W p l e room_1 s m #[Value.ref b] below meth c s₁.heap [] 0 0 (lw_Z below #[Value.ref b] s) (entryFrame m ([Value.ref b] : List Value).toArray 4) := by
      rw [hh0]
      exact whole_start l hflags hbd ⟨B.exec, B.bytes, B.returns, hml, hown, hts, hX, hbl, B.notSynchronized, hgv⟩
    obtain ⟨t, a1, o, b1, b2, b3⟩ := K s₁ rfl X₀
    exact ⟨t, o, a1, b1, b2, b3⟩
theorem lw_pre_spec {args : Array Value} {s : State} (h : (Jvm.Cond.and given_1 narrow_1).before args s = true) (hr : rest_1_c.before args s = true) : ∃ (b : Addr) (xs : List Int32), lw_P b xs args s := by
  have hs := flat_of_before _ h
  have hq := flat_of_before _ hr
  have hc : (Cond.count 1).before args s = true := hs _ (by decide +kernel)
  have harr : (Cond.arrayOf (.arg 0) .int).before args s = true := hs _ (by decide +kernel)
  have hle : (Cond.le (.length (.arg 0)) (.int 1536)).before args s = true := hs _ (by decide +kernel)
  have hlen : (Cond.isInt (.length (.arg 0))).before args s = true := hq _ (by decide +kernel)
  have hall : (Cond.all (.arg 0) (.isInt (.elem (.arg 0) (.index 0)))).before args s = true := hq _ (by decide +kernel)
  obtain ⟨b, xs, hb, hx⟩ := State.ints_of_pre rfl harr hlen hall
  have hsm : xs.length < 2 ^ 31 := hx.choose_spec.2.2.2
  have hev : (Term.length (.arg 0)).eval args s none [] s = some (.int xs.length.toInt32) := hx.length_eval hb
  have hv := Cond.le_ints hev (show (Term.int 1536).eval args s none [] s = some (.int 1536) from rfl)
  have hd : xs.length.toInt32 ≤ 1536 := by
    simpa [Cond.before, Cond.holds, hv] using hle
  have hN : xs.length ≤ 1536 := (Int32.ofNat_le_ofNat hsm (by decide)).mp (show Int32.ofNat xs.length ≤ Int32.ofNat 1536 from hd)
  exact ⟨b, xs, Cond.one_arg hc (show args[0]? = some (.ref b) from hb), hx, hN, h⟩
theorem lw_comes (l : Launch) (hflags : l.flags = flags0) : Comes l x (Jvm.Cond.code x code maxLocals ret :: tables_1) room_1 (fun tb e args s => Calls_1 tb e args s ∧ rest_1 tb e args s ∧ Pre_1 tb e args s)
    (fun _ _ args s o t => lw_Q args s o t) := by
  intro p e ha hc hk s m args below hf hfit hheap happ hpre
  obtain ⟨b, xs, hP⟩ := lw_pre_spec hpre.2.2 hpre.2.1
  obtain ⟨k, o, h1, h2, h3, hQ⟩ := lw_walk l hflags b xs p e ha hc hk s m args below hf ((Spec.applies_iff_loose hf).mp happ).1 hP trivial
  exact ⟨k, o, h1, h2, h3, hQ⟩
theorem lw_frame {s t : State} {o : Outcome} {args : Array Value} (h : Framed s o t [] 17 775) :
    Framed s o t (fieldLocs frame_1_writes args s ++ arrayLocs frame_1_arrays args s ++ staticLocs frame_1_statics s) 17 775 := h
theorem lw_limb (L : Cond) (hL : ∀ (args : Array Value) (s t : State), L.after args s (.returned (some (.int 1))) t = true) :
    ArmFor flags0 classFile x code maxLocals ret World_1 tables_1 room_1 Calls_1 rest_1 Pre_1
      (fun tb e a s o t => postC L tb e a s o t ∧ Framed s o t (fieldLocs frame_1_writes a s ++ arrayLocs frame_1_arrays a s ++ staticLocs frame_1_statics s) 17 775) := by
  intro l hflags _ _ p e ha hc hk s m args below hf hfit hheap happ hpre
  obtain ⟨k, o, h1, h2, h3, rfl, hF⟩ := lw_comes l hflags p e ha hc hk s m args below hf hfit hheap happ hpre
  exact ⟨k, _, h1, h2, h3, hL args s _, lw_frame hF⟩
theorem i_vc : Claimed_1_1 ∧ Claimed_1_2 := ⟨lw_limb limb_1_1 (fun args s t => by simp [limb_1_1, Cond.after, Cond.holds, Cond.value]), lw_limb limb_1_2 (fun args s t => Cond.after_iff.mpr (by
  first | (rw [show limb_1_2 = Cond.eq .result (.int 1) from rfl, Cond.eq_ints (x := 1) (y := 1) rfl rfl]; simp; done) | (simp [limb_1_2, Cond.value, Term.eval]; done)))⟩
end
